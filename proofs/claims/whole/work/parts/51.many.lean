/-- Long.bitCount -/
theorem st_bitCount {N : Nat} (L : Int64) : fJ13_bitCount_95d88 N L = some (nI (cntB (gb L) 64)) := by
  obtain ⟨n, hn, rfl⟩ := wb_of L
  have sh : ∀ (m k : Nat), m < 2 ^ 64 → k < 64 → lush (lN m) (nI k) = lN (m / 2 ^ k) := fun m k hm hk => wb_shr hm hk
  have lt : ∀ {a b : Nat}, a ≤ b → b < 2 ^ 64 → a < 2 ^ 64 := fun h1 h2 => Nat.lt_of_le_of_lt h1 h2
  obtain ⟨w1, w2⟩ := swar 8 n hn
  have e1 : lN n - (lush (lN n) (1 : Int32) &&& (6148914691236517205 : Int64)) = lN (s1 (mk 85 8) n) := by
    rw [show (1 : Int32) = nI 1 from rfl, sh n 1 hn (by decide), show (6148914691236517205 : Int64) = lN (mk 85 8) from by decide, wb_and (lt (Nat.div_le_self _ _) hn) (by decide), lN_sub (Nat.le_trans Nat.and_le_left (Nat.div_le_self _ _))]
    rfl
  have l1 : s1 (mk 85 8) n < 2 ^ 64 := lt (Nat.sub_le _ _) hn
  have e2 : (lN (s1 (mk 85 8) n) &&& (3689348814741910323 : Int64)) + (lush (lN (s1 (mk 85 8) n)) (2 : Int32) &&& (3689348814741910323 : Int64)) = lN (s2 (mk 51 8) (s1 (mk 85 8) n)) := by
    rw [show (2 : Int32) = nI 2 from rfl, sh _ 2 l1 (by decide), show (3689348814741910323 : Int64) = lN (mk 51 8) from by decide, wb_and l1 (by decide), wb_and (lt (Nat.div_le_self _ _) l1) (by decide), lN_add]
    rfl
  have l2 : s2 (mk 51 8) (s1 (mk 85 8) n) < 2 ^ 63 := by
    have a1 : (s1 (mk 85 8) n &&& mk 51 8) ≤ mk 51 8 := Nat.and_le_right
    have a2 : (s1 (mk 85 8) n / 4 &&& mk 51 8) ≤ mk 51 8 := Nat.and_le_right
    have a3 : mk 51 8 + mk 51 8 < 2 ^ 63 := by decide
    show _ + _ < _
    omega
  have e3 : (lN (s2 (mk 51 8) (s1 (mk 85 8) n)) + lush (lN (s2 (mk 51 8) (s1 (mk 85 8) n))) (4 : Int32)) &&& (1085102592571150095 : Int64) = lN (pcs n 8) := by
    rw [← w1]
    generalize s2 (mk 51 8) (s1 (mk 85 8) n) = z at l2
    rw [show (4 : Int32) = nI 4 from rfl, sh z 4 (by omega) (by decide), show (1085102592571150095 : Int64) = lN (mk 15 8) from by decide, lN_add, wb_and (by omega) (by decide)]
    rfl
  have l3 : pcs n 8 < 2 ^ 60 := by
    rw [← w1]
    exact Nat.lt_of_le_of_lt Nat.and_le_right (by decide)
  rw [fJ13_bitCount_95d88, e1, bJ13_bitCount_95d88_10, e2, bJ13_bitCount_95d88_24, e3, bJ13_bitCount_95d88_34, show (8 : Int32) = nI 8 from rfl, sh _ 8 (by omega) (by decide), lN_add, bJ13_bitCount_95d88_41, show (16 : Int32) = nI 16 from rfl, sh _ 16 (by omega) (by decide), lN_add, bJ13_bitCount_95d88_48, show (32 : Int32) = nI 32 from rfl, sh _ 32 (by omega) (by decide), lN_add, bJ13_bitCount_95d88_55, lN_i, pk_and _ 7 (by decide)]
  obtain ⟨S, hS8⟩ : ∃ S, S = pcs n 8 := ⟨_, rfl⟩
  obtain ⟨c, hc8⟩ : ∃ c, c = cntB n.testBit 64 := ⟨_, rfl⟩
  have ef := fold8 (n := n) (S := S) (c := c) hS8 hc8
  rw [← hS8]
  have et : ∀ m : Nat, (nI m).toBitVec.toNat % 2 ^ 7 = m % 128 := fun m => by
    show (BitVec.ofNat 32 m).toNat % 2 ^ 7 = m % 128
    rw [BitVec.toNat_ofNat]
    omega
  rw [et, show (2 : Nat) ^ 8 = 256 from rfl, show (2 : Nat) ^ 16 = 65536 from rfl, show (2 : Nat) ^ 32 = 4294967296 from rfl, ef, hc8, cntB_congr 64 (fun i hi => (gb_lN (n := n) hi).symm)]

/-- for how many inputs two rows are unlike -/
def dif (f g : Nat → Nat) (x : Nat) : Bool := decide (¬ f x = g x)
theorem um_loop {N r1 r2 : Nat} {lo mi hi : Nat → Int64} {f g : Nat → Nat} (h1 : RV lo mi hi r1 f) (h2 : RV lo mi hi r2 g) (hf : ∀ x, f x < 8) (hg : ∀ x, g x < 8) (hr1 : r1 < 98) (hr2 : r2 < 98) : ∀ (d w n : Nat), w + d = 8 → d < n → bX7_unlikeMany_5 N lo mi hi n (nI r1) (nI r2) (nI (cntB (dif f g) (64 * w))) (nI w) = some (nI (cntB (dif f g) 512)) := by
  intro d
  induction d with
  | zero =>
    intro w n hw hn
    obtain ⟨n, rfl⟩ : ∃ j, n = j + 1 := ⟨n - 1, by omega⟩
    have e : w = 8 := by omega
    subst e
    rw [bX7_unlikeMany_5, if_pos (show (8 : Int32) ≤ nI 8 by decide)]
  | succ d ih =>
    intro w n hw hn
    obtain ⟨n, rfl⟩ : ∃ j, n = j + 1 := ⟨n - 1, by omega⟩
    obtain ⟨L, e, hL⟩ := st_unlike (N := N) (w := w) h1 h2 hf hg hr1 hr2 (by omega)
    rw [bX7_unlikeMany_5, if_neg (show ¬ (8 : Int32) ≤ nI w from nI_ge (a := w) (b := 8) (by omega) (by decide)), e, Option.bind_some, st_bitCount, Option.bind_some, nI_add, nI_1, cntB_congr (q' := fun i => dif f g (64 * w + i)) 64 hL, ← cntB_add (q := dif f g) (64 * w) 64, show 64 * w + 64 = 64 * (w + 1) by omega]
    exact ih (w + 1) n (by omega) (by omega)
theorem st_unlikeMany {N r1 r2 : Nat} {lo mi hi : Nat → Int64} {f g : Nat → Nat} (hN : 60 ≤ N) (h1 : RV lo mi hi r1 f) (h2 : RV lo mi hi r2 g) (hf : ∀ x, f x < 8) (hg : ∀ x, g x < 8) (hr1 : r1 < 98) (hr2 : r2 < 98) : fX7_unlikeMany N lo mi hi (nI r1) (nI r2) = some (nI (cntB (dif f g) 512)) :=
  um_loop h1 h2 hf hg hr1 hr2 8 0 N (by omega) (by omega)
