/-! pure rows: numbers, signs -/
theorem un_cl {i : Nat} (h : i < 2 ^ 31) : Int32.toNatClampNeg (nI i) = i := nI_clamp h
theorem un_bnd {α : Type} {i n : Nat} {k : Option α} (h : i < n) (hn : n < 2 ^ 31) : bnd (nI i) n k = k := bnd_in (vp_in_nI h hn)
theorem un_ub {f : Nat → Int32} {i : Nat} {x : Int32} (h : i < 2 ^ 31) (j : Nat) : upd f (Int32.toNatClampNeg (nI i)) x j = if j = i then x else f j := by
  rw [un_cl h]
  by_cases q : j = i
  · rw [q, pk_us, if_pos rfl]
  · rw [pk_un q, if_neg q]
theorem ic_mono {N M k : Nat} : ∀ (n x0 : Nat) (x3 x4 x5 r : Int32), bJ1_indexOfChar_4cfef_7 N n x0 x3 x4 x5 = some r → bJ1_indexOfChar_4cfef_7 M (n + k) x0 x3 x4 x5 = some r := by
  intro n
  induction n with
  | zero => intro x0 x3 x4 x5 r h; cases h
  | succ n ih =>
    intro x0 x3 x4 x5 r h
    rw [Nat.succ_add n k, bJ1_indexOfChar_4cfef_7]
    rw [bJ1_indexOfChar_4cfef_7] at h
    by_cases c1 : x3 ≤ x5
    · rw [if_pos c1] at h ⊢; exact h
    · rw [if_neg c1] at h ⊢
      obtain ⟨s1, h⟩ := sg_some h
      rw [sg_lt s1]
      obtain ⟨b1, h⟩ := bnd_some h
      rw [bnd_in b1]
      by_cases c2 : sby x0 (Int32.toNatClampNeg x5) = x4
      · rw [if_pos c2] at h ⊢; exact h
      · rw [if_neg c2] at h ⊢; exact ih _ _ _ _ _ h
theorem io_mono {n k : Nat} {c r : Int32} (h : fJ0_indexOf_0f7a4 8 k c = some r) : fJ0_indexOf_0f7a4 (8 + n) k c = some r := by
  rw [fJ0_indexOf_0f7a4] at h ⊢
  obtain ⟨s1, h⟩ := sg_some h
  rw [sg_lt s1]
  obtain ⟨r1, g1, h⟩ := ob_some h
  rw [fJ0_indexOf_7cf53] at g1
  obtain ⟨s2, g1⟩ := sg_some g1
  obtain ⟨r2, g2, g1⟩ := ob_some g1
  by_cases c1 : r2 = 0
  · rw [if_pos c1] at g1; cases g1
  rw [if_neg c1, sg_lt s1, sg_lt s1] at g1
  obtain ⟨r3, g3, g1⟩ := ob_some g1
  obtain ⟨r4, g4, g1⟩ := ob_some g1
  have e4 : fJ1_indexOf_4cfef (8 + n) k c 0 r3 = some r4 := by
    rw [fJ1_indexOf_4cfef] at g4 ⊢
    obtain ⟨r5, g5, g4⟩ := ob_some g4
    have e5 : fJ1_canEncode_9a6ad (8 + n) c = some r5 := g5
    rw [e5, Option.bind_some]
    by_cases c2 : r5 = 0
    · rw [if_pos c2] at g4 ⊢; exact g4
    rw [if_neg c2] at g4 ⊢
    rw [bJ1_indexOf_4cfef_15] at g4 ⊢
    obtain ⟨s3, g4⟩ := sg_some g4
    rw [sg_lt s3]
    rw [bJ1_indexOf_4cfef_22] at g4 ⊢
    generalize (if (0 : Int32) < 0 then (0 : Int32) else 0) = z2 at g4 ⊢
    generalize (if Int32.ofNat (sln k) < r3 then Int32.ofNat (sln k) else r3) = z3 at g4 ⊢
    by_cases c3 : z2 < z3
    · rw [if_pos c3] at g4 ⊢
      obtain ⟨r6, g6, g4⟩ := ob_some g4
      have e6 : fJ1_indexOfChar_4cfef (8 + n) k c z2 z3 = some r6 := ic_mono 8 _ _ _ _ _ g6
      rw [e6, Option.bind_some]
      exact g4
    · rw [if_neg c3] at g4 ⊢; exact g4
  rw [fJ0_indexOf_7cf53, sg_lt s1, show fJ0_isLatin1_aae02 (8 + n) k = some r2 from g2, Option.bind_some, if_neg c1, sg_lt s1, sg_lt s1, show fJ0_length_8abf5 (8 + n) k = some r3 from g3, Option.bind_some, e4, Option.bind_some]
  rw [Option.bind_some]
  cases g1
  exact h

/-- how many texts a sign wants -/
def pw (c : Int32) : Int32 := if c = 42 ∨ c = 43 ∨ c = 45 ∨ c = 77 ∨ c = 109 then 2 else if c = 60 ∨ c = 61 ∨ c = 62 then 4 else if (48 ≤ c ∧ c ≤ 55) ∨ (97 ≤ c ∧ c ≤ 99) then 0 else -1
/-- which kind of sign: 0 an act, 1 a relation, 2 else -/
def kd (c : Int32) : Nat := if c = 42 ∨ c = 43 ∨ c = 45 ∨ c = 77 ∨ c = 109 then 0 else if c = 60 ∨ c = 61 ∨ c = 62 then 1 else 2
def ixr (k : Nat) (c : Int32) : Int32 := (fJ0_indexOf_0f7a4 8 k (i2c_ c)).getD (-1)
theorem ix8 : ∀ c, c < 127 → ∀ k, k < 3 → fJ0_indexOf_0f7a4 8 k (i2c_ (nI c)) = some (ixr k (nI c)) := by decide +kernel
theorem ixN {N c k : Nat} (hN : 8 ≤ N) (hc : c < 127) (hk : k < 3) : fJ0_indexOf_0f7a4 N k (i2c_ (nI c)) = some (ixr k (nI c)) := by
  obtain ⟨n, rfl⟩ : ∃ n, N = 8 + n := ⟨N - 8, by omega⟩
  exact io_mono (ix8 c hc k hk)
theorem pw8 : ∀ c, c < 127 → 33 ≤ c → (if ixr 0 (nI c) < 0 then (if ixr 1 (nI c) < 0 then (if (fX9_isNumber 0 (nI c)) = some 0 then (if ixr 2 (nI c) < 0 then (-1 : Int32) else 0) else 0) else 4) else 2) = pw (nI c) := by decide +kernel
theorem kd8 : ∀ c, c < 127 → 33 ≤ c → (if ixr 0 (nI c) < 0 then (if ixr 1 (nI c) < 0 then 2 else 1) else 0) = kd (nI c) := by decide +kernel
theorem isn8 : ∀ c, c < 127 → fX9_isNumber 0 (nI c) = some (if (48 : Int32) ≤ nI c ∧ nI c ≤ 55 then 1 else 0) := by decide +kernel
theorem isnN {N c : Nat} (hc : c < 127) : fX9_isNumber N (nI c) = some (if (48 : Int32) ≤ nI c ∧ nI c ≤ 55 then 1 else 0) := isn8 c hc
theorem pwX9 {N c : Nat} (hN : 8 ≤ N) (hc : c < 127) (h33 : 33 ≤ c) : fX9_partsWanted N (nI c) = some (pw (nI c)) := by
  have h8 := pw8 c hc h33
  have hn : fX9_isNumber N (nI c) = _ := isnN hc
  have hn0 : fX9_isNumber 0 (nI c) = _ := isnN hc
  rw [fX9_partsWanted, ixN hN hc (by decide), Option.bind_some, ixN hN hc (by decide), Option.bind_some, ixN hN hc (by decide), Option.bind_some, hn, Option.bind_some]
  rw [hn0] at h8
  by_cases c0 : ixr 0 (nI c) < 0
  · rw [if_pos c0] at h8 ⊢
    by_cases c1 : ixr 1 (nI c) < 0
    · rw [if_pos c1] at h8 ⊢
      by_cases q : (48 : Int32) ≤ nI c ∧ nI c ≤ 55
      · rw [if_pos q] at h8 ⊢
        rw [if_neg (by decide)] at h8 ⊢
        rw [h8]
      · rw [if_neg q] at h8 ⊢
        rw [if_pos rfl] at h8 ⊢
        by_cases c2 : ixr 2 (nI c) < 0
        · rw [if_pos c2] at h8 ⊢; rw [h8]
        · rw [if_neg c2] at h8 ⊢; rw [h8]
    · rw [if_neg c1] at h8 ⊢; rw [h8]
  · rw [if_neg c0] at h8 ⊢; rw [h8]
theorem kdX1 {N c : Nat} (hN : 8 ≤ N) (hc : c < 127) (h33 : 33 ≤ c) : fX1_kindOf N (nI c) = some (kd (nI c)) := by
  have h8 := kd8 c hc h33
  rw [fX1_kindOf, ixN hN hc (by decide), Option.bind_some, ixN hN hc (by decide), Option.bind_some]
  by_cases c0 : ixr 0 (nI c) < 0
  · rw [if_pos c0] at h8 ⊢
    by_cases c1 : ixr 1 (nI c) < 0
    · rw [if_pos c1] at h8 ⊢; rw [h8]
    · rw [if_neg c1] at h8 ⊢; rw [h8]
  · rw [if_neg c0] at h8 ⊢; rw [h8]
theorem pwM0 : ∀ c, c < 127 → 33 ≤ c → fX12_partsOf 0 (nI c) = some (pw (nI c)) := by decide +kernel
theorem pwX12 {N c : Nat} (hc : c < 127) (h33 : 33 ≤ c) : fX12_partsOf N (nI c) = some (pw (nI c)) := pwM0 c hc h33
theorem cmp_lt {x y : Int64} : lg_cmp x y < 0 ↔ x < y := by
  unfold lg_cmp
  by_cases h1 : x > y
  · rw [if_pos h1]
    exact ⟨fun q => absurd q (by decide), fun q => absurd q (by rw [Int64.lt_iff_toInt_lt]; have := Int64.lt_iff_toInt_lt.mp h1; omega)⟩
  · rw [if_neg h1]
    by_cases h2 : x = y
    · rw [if_pos h2]
      exact ⟨fun q => absurd q (by decide), fun q => absurd q (by rw [h2, Int64.lt_iff_toInt_lt]; omega)⟩
    · rw [if_neg h2]
      refine ⟨fun _ => ?_, fun _ => by decide⟩
      have e1 : ¬ y.toInt < x.toInt := fun q => h1 (Int64.lt_iff_toInt_lt.mpr q)
      have e2 : ¬ x.toInt = y.toInt := fun q => h2 (Int64.toInt_inj.mp q)
      rw [Int64.lt_iff_toInt_lt]
      omega
theorem cmp_gt {x y : Int64} : 0 < lg_cmp x y ↔ y < x := by
  unfold lg_cmp
  by_cases h1 : x > y
  · rw [if_pos h1]
    exact ⟨fun _ => h1, fun _ => by decide⟩
  · rw [if_neg h1]
    refine ⟨fun q => ?_, fun q => absurd q h1⟩
    by_cases h2 : x = y
    · rw [if_pos h2] at q; exact absurd q (by decide)
    · rw [if_neg h2] at q; exact absurd q (by decide)
theorem inM {N : Nat} (x lo hi : Int64) : fX12_in N x lo hi = some (if lo ≤ x ∧ x ≤ hi then 1 else 0) := by
  rw [fX12_in]
  by_cases h1 : x < lo
  · rw [if_pos (cmp_lt.mpr h1), if_neg (fun q => ?_)]
    exact absurd (Int64.le_iff_toInt_le.mp q.1) (by have := Int64.lt_iff_toInt_lt.mp h1; omega)
  · rw [if_neg (fun q => h1 (cmp_lt.mp q))]
    by_cases h2 : hi < x
    · rw [if_pos (cmp_gt.mpr h2), if_neg (fun q => ?_)]
      exact absurd (Int64.le_iff_toInt_le.mp q.2) (by have := Int64.lt_iff_toInt_lt.mp h2; omega)
    · rw [if_neg (fun q => h2 (cmp_gt.mp q)), if_pos]
      refine ⟨Int64.le_iff_toInt_le.mpr ?_, Int64.le_iff_toInt_le.mpr ?_⟩
      · have : ¬ x.toInt < lo.toInt := fun q => h1 (Int64.lt_iff_toInt_lt.mpr q)
        omega
      · have : ¬ hi.toInt < x.toInt := fun q => h2 (Int64.lt_iff_toInt_lt.mpr q)
        omega
/-- Model.in of ints: by their values -/
theorem inI {N : Nat} (x : Int32) (lo hi : Int64) : fX12_in N (Int32.toInt64 x) lo hi = some (if lo.toInt ≤ x.toInt ∧ x.toInt ≤ hi.toInt then 1 else 0) := by
  rw [inM]
  simp only [Int64.le_iff_toInt_le, Int32.toInt_toInt64]
