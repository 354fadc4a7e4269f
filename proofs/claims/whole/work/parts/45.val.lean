/-! what a text is worth for inputs; the reference works it out -/
def stp (c : Int32) (x v1 v2 v3 v4 : Nat) : Nat :=
  if c = 97 then x / 64 % 8 else if c = 98 then x / 8 % 8 else if c = 99 then x % 8
  else if c = 42 then v1 * v2 % 8 else if c = 43 then (v1 + v2) % 8 else if c = 45 then (v1 + 8 - v2) % 8
  else if c = 109 then (if v2 ≤ v1 then v2 else v1) else if c = 77 then (if v1 ≤ v2 then v2 else v1)
  else if c = 60 then (if v1 < v2 then v3 else v4) else if c = 62 then (if v2 < v1 then v3 else v4) else if c = 61 then (if v1 = v2 then v3 else v4)
  else (c.toInt.toNat - 48) % 8
theorem stp_lt {c : Int32} {x v1 v2 v3 v4 : Nat} (h1 : v1 < 8) (h2 : v2 < 8) (h3 : v3 < 8) (h4 : v4 < 8) : stp c x v1 v2 v3 v4 < 8 := by
  unfold stp
  repeat' split
  all_goals first | assumption | omega
theorem pw2 {c : Int32} (h : pw c = 2) : c = 42 ∨ c = 43 ∨ c = 45 ∨ c = 77 ∨ c = 109 := by
  unfold pw at h
  split at h
  · assumption
  · split at h
    · exact absurd h (by decide)
    · split at h <;> exact absurd h (by decide)
theorem pw4 {c : Int32} (h : pw c = 4) : c = 60 ∨ c = 61 ∨ c = 62 := by
  unfold pw at h
  split at h
  · exact absurd h (by decide)
  · split at h
    · assumption
    · split at h <;> exact absurd h (by decide)
theorem pw0 {c : Int32} (h : pw c = 0) : (48 ≤ c ∧ c ≤ 55) ∨ (97 ≤ c ∧ c ≤ 99) := by
  unfold pw at h
  split at h
  · exact absurd h (by decide)
  · split at h
    · exact absurd h (by decide)
    · split at h
      · assumption
      · exact absurd h (by decide)
theorem stp_congr {c : Int32} {x v1 v2 v3 v4 u1 u2 u3 u4 : Nat} (h2 : pw c = 2 → v1 = u1 ∧ v2 = u2) (h4 : pw c = 4 → v1 = u1 ∧ v2 = u2 ∧ v3 = u3 ∧ v4 = u4) : stp c x v1 v2 v3 v4 = stp c x u1 u2 u3 u4 := by
  unfold stp
  by_cases c1 : c = 42
  · obtain ⟨e1, e2⟩ := h2 (by rw [c1]; decide); rw [e1, e2]; simp only [c1]; rfl
  by_cases c2 : c = 43
  · obtain ⟨e1, e2⟩ := h2 (by rw [c2]; decide); rw [e1, e2]; simp only [c2]; rfl
  by_cases c3 : c = 45
  · obtain ⟨e1, e2⟩ := h2 (by rw [c3]; decide); rw [e1, e2]; simp only [c3]; rfl
  by_cases c4 : c = 109
  · obtain ⟨e1, e2⟩ := h2 (by rw [c4]; decide); rw [e1, e2]; simp only [c4]; rfl
  by_cases c5 : c = 77
  · obtain ⟨e1, e2⟩ := h2 (by rw [c5]; decide); rw [e1, e2]; simp only [c5]; rfl
  by_cases c6 : c = 60
  · obtain ⟨e1, e2, e3, e4⟩ := h4 (by rw [c6]; decide); rw [e1, e2, e3, e4]
  by_cases c7 : c = 62
  · obtain ⟨e1, e2, e3, e4⟩ := h4 (by rw [c7]; decide); rw [e1, e2, e3, e4]
  by_cases c8 : c = 61
  · obtain ⟨e1, e2, e3, e4⟩ := h4 (by rw [c8]; decide); rw [e1, e2, e3, e4]
  rw [if_neg c1, if_neg c2, if_neg c3, if_neg c4, if_neg c5, if_neg c6, if_neg c7, if_neg c8]
  rw [if_neg c1, if_neg c2, if_neg c3, if_neg c4, if_neg c5, if_neg c6, if_neg c7, if_neg c8]
def ev (sg sc : Nat → Int32) (x : Nat) : Nat → Nat → Nat
  | 0, _ => 0
  | f + 1, i => stp (sc i) x (ev sg sc x f (cn sg i 0)) (ev sg sc x f (cn sg i 1)) (ev sg sc x f (cn sg i 2)) (ev sg sc x f (cn sg i 3))
theorem ev_lt {sg sc : Nat → Int32} {x : Nat} : ∀ f i, ev sg sc x f i < 8 := by
  intro f
  induction f with
  | zero => intro i; exact Nat.zero_lt_succ 7
  | succ f ih => intro i; exact stp_lt (ih _) (ih _) (ih _) (ih _)
/-- signs that stand where others stood -/
def SC (sg sc : Nat → Int32) (k : Nat) : Prop := ∀ i, i < k → pw (sc i) = pw (sg i) ∧ ∃ c, 33 ≤ c ∧ c < 127 ∧ sc i = nI c
theorem ev_fuel {sg sc : Nat → Int32} {k x : Nat} (h : WF sg k) (hk : k ≤ 24) (hs : SC sg sc k) : ∀ f f' i, i < k → k - i ≤ f → k - i ≤ f' → ev sg sc x f i = ev sg sc x f' i := by
  have hk40 : k ≤ 40 := by omega
  intro f
  induction f with
  | zero => intro f' i h1 h2; omega
  | succ f ih =>
    intro f' i h1 h2 h3
    obtain ⟨f', rfl⟩ : ∃ m, f' = m + 1 := ⟨f' - 1, by omega⟩
    have kid : ∀ j, j < wn sg i → ev sg sc x f (cn sg i j) = ev sg sc x f' (cn sg i j) := fun j hj => by
      obtain ⟨g1, -, -, -, g5⟩ := cn_spec h hk40 h1 j (by omega)
      have := g5 hj
      exact ih f' _ this (by omega) (by omega)
    obtain ⟨-, hw, -⟩ := wn_cases h h1
    refine stp_congr (fun q => ?_) (fun q => ?_)
    · rw [(hs i h1).1, hw] at q
      have : wn sg i = 2 := (nI_eq (by have := wn_le h h1; omega) (by decide)).mp q
      exact ⟨kid 0 (by omega), kid 1 (by omega)⟩
    · rw [(hs i h1).1, hw] at q
      have : wn sg i = 4 := (nI_eq (by have := wn_le h h1; omega) (by decide)).mp q
      exact ⟨kid 0 (by omega), kid 1 (by omega), kid 2 (by omega), kid 3 (by omega)⟩
def val (sg sc : Nat → Int32) (x i : Nat) : Nat := ev sg sc x (40 - i) i
theorem val_lt {sg sc : Nat → Int32} {x i : Nat} : val sg sc x i < 8 := ev_lt _ _
theorem val_eq {sg sc : Nat → Int32} {k x i : Nat} (h : WF sg k) (hk : k ≤ 24) (hs : SC sg sc k) (hi : i < k) : val sg sc x i = stp (sc i) x (val sg sc x (cn sg i 0)) (val sg sc x (cn sg i 1)) (val sg sc x (cn sg i 2)) (val sg sc x (cn sg i 3)) := by
  have hk40 : k ≤ 40 := by omega
  obtain ⟨f, hf⟩ : ∃ f, 40 - i = f + 1 := ⟨39 - i, by omega⟩
  have kid : ∀ j, j < wn sg i → ev sg sc x f (cn sg i j) = val sg sc x (cn sg i j) := fun j hj => by
    obtain ⟨g1, -, -, -, g5⟩ := cn_spec h hk40 hi j (by omega)
    have := g5 hj
    exact ev_fuel h hk hs _ _ _ this (by omega) (by omega)
  obtain ⟨-, hw, -⟩ := wn_cases h hi
  show ev sg sc x (40 - i) i = _
  rw [hf]
  refine stp_congr (fun q => ?_) (fun q => ?_)
  · rw [(hs i hi).1, hw] at q
    have : wn sg i = 2 := (nI_eq (by have := wn_le h hi; omega) (by decide)).mp q
    exact ⟨kid 0 (by omega), kid 1 (by omega)⟩
  · rw [(hs i hi).1, hw] at q
    have : wn sg i = 4 := (nI_eq (by have := wn_le h hi; omega) (by decide)).mp q
    exact ⟨kid 0 (by omega), kid 1 (by omega), kid 2 (by omega), kid 3 (by omega)⟩
theorem act8 : ∀ a, a < 8 → ∀ b, b < 8 → fX12_act 0 42 (nI a) (nI b) = some (nI (a * b % 8)) ∧ fX12_act 0 43 (nI a) (nI b) = some (nI ((a + b) % 8)) ∧ fX12_act 0 45 (nI a) (nI b) = some (nI ((a + 8 - b) % 8)) ∧ fX12_act 0 109 (nI a) (nI b) = some (nI (if b ≤ a then b else a)) ∧ fX12_act 0 77 (nI a) (nI b) = some (nI (if a ≤ b then b else a)) := by decide +kernel
theorem st8 : ∀ a, a < 8 → ∀ b, b < 8 → fX12_stands 0 60 (nI a) (nI b) = some (if a < b then 1 else 0) ∧ fX12_stands 0 62 (nI a) (nI b) = some (if b < a then 1 else 0) ∧ fX12_stands 0 61 (nI a) (nI b) = some (if a = b then 1 else 0) := by decide +kernel
theorem actM {N a b x v3 v4 : Nat} {c : Int32} (hc : pw c = 2) (ha : a < 8) (hb : b < 8) : fX12_act N c (nI a) (nI b) = some (nI (stp c x a b v3 v4)) := by
  obtain ⟨h1, h2, h3, h4, h5⟩ := act8 a ha b hb
  rcases pw2 hc with e | e | e | e | e <;> subst e
  · exact h1
  · exact h2
  · exact h3
  · exact h5
  · exact h4
theorem stdM {N a b x v3 v4 : Nat} {c : Int32} (hc : pw c = 4) (ha : a < 8) (hb : b < 8) : ∃ r : Int32, fX12_stands N c (nI a) (nI b) = some r ∧ ((r = 0 ∧ stp c x a b v3 v4 = v4) ∨ (¬ r = 0 ∧ stp c x a b v3 v4 = v3)) := by
  obtain ⟨h1, h2, h3⟩ := st8 a ha b hb
  rcases pw4 hc with e | e | e <;> subst e
  · refine ⟨_, h1, ?_⟩
    show (_ ∧ (if a < b then v3 else v4) = v4) ∨ (_ ∧ (if a < b then v3 else v4) = v3)
    by_cases q : a < b
    · rw [if_pos q, if_pos q]; exact Or.inr ⟨by decide, rfl⟩
    · rw [if_neg q, if_neg q]; exact Or.inl ⟨rfl, rfl⟩
  · refine ⟨_, h3, ?_⟩
    show (_ ∧ (if a = b then v3 else v4) = v4) ∨ (_ ∧ (if a = b then v3 else v4) = v3)
    by_cases q : a = b
    · rw [if_pos q, if_pos q]; exact Or.inr ⟨by decide, rfl⟩
    · rw [if_neg q, if_neg q]; exact Or.inl ⟨rfl, rfl⟩
  · refine ⟨_, h2, ?_⟩
    show (_ ∧ (if b < a then v3 else v4) = v4) ∨ (_ ∧ (if b < a then v3 else v4) = v3)
    by_cases q : b < a
    · rw [if_pos q, if_pos q]; exact Or.inr ⟨by decide, rfl⟩
    · rw [if_neg q, if_neg q]; exact Or.inl ⟨rfl, rfl⟩
theorem isiM {N : Nat} (c : Int32) : fX12_isInput N c = some (if (97 : Int) ≤ c.toInt ∧ c.toInt ≤ 99 then 1 else 0) := by
  rw [fX12_isInput, inI, Option.bind_some]
  show bo (if (97 : Int) ≤ c.toInt ∧ c.toInt ≤ 99 then 1 else 0) (some (if (97 : Int) ≤ c.toInt ∧ c.toInt ≤ 99 then 1 else 0)) = _
  by_cases q : (97 : Int) ≤ c.toInt ∧ c.toInt ≤ 99
  · rw [if_pos q]; rfl
  · rw [if_neg q]; rfl
theorem lfM {x v1 v2 v3 v4 : Nat} {c : Int32} (hc : pw c = 0) (hx : x < 512) : (((97 : Int) ≤ c.toInt ∧ c.toInt ≤ 99) ∧ (nI x >>> (((3 : Int32) * ((99 : Int32) - c)) &&& 31)) &&& 7 = nI (stp c x v1 v2 v3 v4)) ∨ (¬ ((97 : Int) ≤ c.toInt ∧ c.toInt ≤ 99) ∧ c - 48 = nI (stp c x v1 v2 v3 v4)) := by
  rcases pw0 hc with ⟨q1, q2⟩ | ⟨q1, q2⟩
  · right
    have e1 : (48 : Int) ≤ c.toInt := Int32.le_iff_toInt_le.mp q1
    have e2 : c.toInt ≤ 55 := Int32.le_iff_toInt_le.mp q2
    refine ⟨by omega, ?_⟩
    have ec : c = nI c.toInt.toNat := Int32.toInt_inj.mp (by rw [nI_toInt (by omega)]; omega)
    have hne : ∀ d : Int32, (55 < d.toInt ∨ d.toInt < 48) → ¬ c = d := fun d hd q => by rw [q] at e1 e2; omega
    unfold stp
    rw [if_neg (hne 97 (by decide)), if_neg (hne 98 (by decide)), if_neg (hne 99 (by decide)), if_neg (hne 42 (by decide)), if_neg (hne 43 (by decide)), if_neg (hne 45 (by decide)), if_neg (hne 109 (by decide)), if_neg (hne 77 (by decide)), if_neg (hne 60 (by decide)), if_neg (hne 62 (by decide)), if_neg (hne 61 (by decide))]
    rw [Nat.mod_eq_of_lt (by omega), ← pk_sub (by omega), ← ec]
    rfl
  · left
    have e1 : (97 : Int) ≤ c.toInt := Int32.le_iff_toInt_le.mp q1
    have e2 : c.toInt ≤ 99 := Int32.le_iff_toInt_le.mp q2
    refine ⟨⟨e1, e2⟩, ?_⟩
    have hc3 : c = 97 ∨ c = 98 ∨ c = 99 := by
      rcases (show c.toInt = 97 ∨ c.toInt = 98 ∨ c.toInt = 99 by omega) with e | e | e
      · exact Or.inl (Int32.toInt_inj.mp e)
      · exact Or.inr (Or.inl (Int32.toInt_inj.mp e))
      · exact Or.inr (Or.inr (Int32.toInt_inj.mp e))
    rcases hc3 with e | e | e <;> subst e
    · rw [pk_shrN (by omega) _ 6 (by decide), pk_andN (by omega) 3 (by decide)]; rfl
    · rw [pk_shrN (by omega) _ 3 (by decide), pk_andN (by omega) 3 (by decide)]; rfl
    · rw [pk_shrN (by omega) _ 0 (by decide), pk_andN (by omega) 3 (by decide)]
      show nI (x / 2 ^ 0 % 2 ^ 3) = nI (x % 8)
      rw [Nat.pow_zero, Nat.div_one]
