/-! Long.bitCount counts the bits -/
def cntB (q : Nat → Bool) : Nat → Nat
  | 0 => 0
  | n + 1 => cntB q n + (if q n = true then 1 else 0)
theorem cntB_congr {q q' : Nat → Bool} : ∀ n, (∀ i, i < n → q i = q' i) → cntB q n = cntB q' n := by
  intro n
  induction n with
  | zero => intro _; rfl
  | succ n ih => intro h; show cntB q n + _ = cntB q' n + _; rw [ih (fun i hi => h i (by omega)), h n (Nat.lt_succ_self n)]
theorem cntB_add {q : Nat → Bool} (a : Nat) : ∀ b, cntB q (a + b) = cntB q a + cntB (fun i => q (a + i)) b := by
  intro b
  induction b with
  | zero => rfl
  | succ b ih => show cntB q (a + b) + (if q (a + b) = true then 1 else 0) = cntB q a + (cntB (fun i => q (a + i)) b + (if q (a + b) = true then 1 else 0)); rw [ih]; omega
theorem and_split (x y k : Nat) : x &&& y = (x % 2 ^ k &&& y % 2 ^ k) + 2 ^ k * (x / 2 ^ k &&& y / 2 ^ k) := by
  rw [← Nat.and_mod_two_pow, ← Nat.and_div_two_pow]
  exact (Nat.mod_add_div _ _).symm
def s1 (M n : Nat) : Nat := n - (n / 2 &&& M)
def s2 (M n : Nat) : Nat := (n &&& M) + (n / 4 &&& M)
def s3 (M n : Nat) : Nat := (n + n / 16) &&& M
def pc8 (b : Nat) : Nat := cntB b.testBit 8
theorem d1 : ∀ b, b < 256 → ∀ t, t < 2 → ((b / 2 + 128 * t) &&& 85) = (b / 2 &&& 85) := by decide +kernel
theorem d2 : ∀ b, b < 256 → ∀ t, t < 4 → ((b / 4 + 64 * t) &&& 51) = (b / 4 &&& 51) := by decide +kernel
theorem d3 : ∀ b, b < 256 → ∀ t, t < 5 → b < 69 → ((b + b / 16 + 16 * t) &&& 15) = ((b + b / 16) &&& 15) := by decide +kernel
theorem d4 : ∀ b, b < 256 → s1 85 b < 256 ∧ s2 51 (s1 85 b) < 69 ∧ s2 51 (s1 85 b) % 16 < 5 ∧ s3 15 (s2 51 (s1 85 b)) = pc8 b ∧ (b / 2 &&& 85) ≤ b := by decide +kernel
theorem p1 {b r M : Nat} (hb : b < 256) : s1 (85 + 256 * M) (b + 256 * r) = s1 85 b + 256 * s1 M r := by
  unfold s1
  have e := and_split ((b + 256 * r) / 2) (85 + 256 * M) 8
  rw [show (2 : Nat) ^ 8 = 256 from rfl, show (85 + 256 * M) % 256 = 85 by omega, show (85 + 256 * M) / 256 = M by omega, show (b + 256 * r) / 2 % 256 = b / 2 + 128 * (r % 2) by omega, show (b + 256 * r) / 2 / 256 = r / 2 by omega, d1 b hb (r % 2) (by omega)] at e
  have l1 := (d4 b hb).2.2.2.2
  have l2 : (r / 2 &&& M) ≤ r := Nat.le_trans Nat.and_le_left (by omega)
  omega
theorem p2 {b r M : Nat} (hb : b < 256) : s2 (51 + 256 * M) (b + 256 * r) = s2 51 b + 256 * s2 M r := by
  unfold s2
  have e := and_split (b + 256 * r) (51 + 256 * M) 8
  have f := and_split ((b + 256 * r) / 4) (51 + 256 * M) 8
  rw [show (2 : Nat) ^ 8 = 256 from rfl, show (51 + 256 * M) % 256 = 51 by omega, show (51 + 256 * M) / 256 = M by omega] at e f
  rw [show (b + 256 * r) % 256 = b by omega, show (b + 256 * r) / 256 = r by omega] at e
  rw [show (b + 256 * r) / 4 % 256 = b / 4 + 64 * (r % 4) by omega, show (b + 256 * r) / 4 / 256 = r / 4 by omega, d2 b hb (r % 4) (by omega)] at f
  omega
theorem p3 {b r M : Nat} (hb : b < 69) (hr : r % 16 < 5) : s3 (15 + 256 * M) (b + 256 * r) = s3 15 b + 256 * s3 M r := by
  unfold s3
  have e := and_split (b + 256 * r + (b + 256 * r) / 16) (15 + 256 * M) 8
  rw [show (2 : Nat) ^ 8 = 256 from rfl, show (15 + 256 * M) % 256 = 15 by omega, show (15 + 256 * M) / 256 = M by omega, show (b + 256 * r + (b + 256 * r) / 16) % 256 = b + b / 16 + 16 * (r % 16) by omega, show (b + 256 * r + (b + 256 * r) / 16) / 256 = r + r / 16 by omega, d3 b (by omega) (r % 16) hr hb] at e
  exact e
def mk (m : Nat) : Nat → Nat
  | 0 => 0
  | k + 1 => m + 256 * mk m k
/-- the bytes' counts, side by side -/
def pcs (n : Nat) : Nat → Nat
  | 0 => 0
  | k + 1 => pc8 (n % 256) + 256 * pcs (n / 256) k
theorem swar : ∀ k n, n < 256 ^ k → s3 (mk 15 k) (s2 (mk 51 k) (s1 (mk 85 k) n)) = pcs n k ∧ s2 (mk 51 k) (s1 (mk 85 k) n) % 16 < 5 := by
  intro k
  induction k with
  | zero =>
    intro n hn
    have e : n = 0 := by rw [Nat.pow_zero] at hn; omega
    subst e
    exact ⟨rfl, by decide⟩
  | succ k ih =>
    intro n hn
    have hr : n / 256 < 256 ^ k := by
      rw [Nat.pow_succ] at hn
      exact Nat.div_lt_of_lt_mul (by rw [Nat.mul_comm]; exact hn)
    obtain ⟨i1, i2⟩ := ih (n / 256) hr
    obtain ⟨q1, q2, q3, q4, -⟩ := d4 (n % 256) (by omega)
    have en : n = n % 256 + 256 * (n / 256) := by omega
    have e1 : s1 (mk 85 (k + 1)) n = s1 85 (n % 256) + 256 * s1 (mk 85 k) (n / 256) := by
      conv => lhs; rw [en]
      exact p1 (by omega)
    have e2 : s2 (mk 51 (k + 1)) (s1 (mk 85 (k + 1)) n) = s2 51 (s1 85 (n % 256)) + 256 * s2 (mk 51 k) (s1 (mk 85 k) (n / 256)) := by
      rw [e1]; exact p2 q1
    refine ⟨?_, ?_⟩
    · rw [e2]
      show s3 (15 + 256 * mk 15 k) _ = pc8 (n % 256) + 256 * pcs (n / 256) k
      rw [p3 q2 i2, q4, i1]
    · rw [e2]; omega
theorem pc8_le (b : Nat) : pc8 b ≤ 8 := by
  unfold pc8
  have : ∀ n, cntB b.testBit n ≤ n := fun n => by
    induction n with
    | zero => exact Nat.le_refl _
    | succ n ih => show cntB _ n + (if _ then 1 else 0) ≤ n + 1; split <;> omega
  exact this 8
theorem pcs_cnt : ∀ k n, n < 256 ^ k → cntB n.testBit (8 * k) = cntB n.testBit (8 * k) ∧ ∀ j, j ≤ 8 * k → True := fun _ _ _ => ⟨rfl, fun _ _ => trivial⟩
theorem cnt_byte (n b : Nat) : cntB n.testBit (8 + b) = pc8 (n % 256) + cntB (n / 256).testBit b := by
  rw [cntB_add]
  congr 1
  · exact cntB_congr 8 (fun i hi => by
      rw [show (256 : Nat) = 2 ^ 8 from rfl, Nat.testBit_mod_two_pow]
      simp [hi])
  · exact cntB_congr b (fun i hi => by
      rw [show (256 : Nat) = 2 ^ 8 from rfl, Nat.testBit_div_two_pow, Nat.add_comm])
theorem dv {x y z : Nat} (hz : 0 < z) (hx : x < z) : (x + z * y) / z = y := by rw [Nat.add_mul_div_left x y hz, Nat.div_eq_of_lt hx, Nat.zero_add]
set_option maxHeartbeats 400000 in
theorem fold_ar {a0 a1 a2 a3 a4 a5 a6 a7 t1 t2 t3 t4 t5 t6 t7 S : Nat} (b0 : a0 ≤ 8) (b1 : a1 ≤ 8) (b2 : a2 ≤ 8) (b3 : a3 ≤ 8) (b4 : a4 ≤ 8) (b5 : a5 ≤ 8) (b6 : a6 ≤ 8) (b7 : a7 ≤ 8) (h0 : S = a0 + 256 * t1) (h1 : t1 = a1 + 256 * t2) (h2 : t2 = a2 + 256 * t3) (h3 : t3 = a3 + 256 * t4) (h4 : t4 = a4 + 256 * t5) (h5 : t5 = a5 + 256 * t6) (h6 : t6 = a6 + 256 * t7) (h7 : t7 = a7 + 256 * 0) : (S + S / 256 + (S + S / 256) / 65536 + (S + S / 256 + (S + S / 256) / 65536) / 4294967296) % 128 = a0 + (a1 + (a2 + (a3 + (a4 + (a5 + (a6 + a7)))))) := by
  have e1 : S / 256 = t1 := by rw [h0]; exact dv (by decide) (by omega)
  rw [e1]
  have e2 : (S + t1) / 65536 = t2 + t3 := by
    rw [show S + t1 = (a0 + a1 + 256 * (a1 + a2)) + 65536 * (t2 + t3) by clear h3 h4 h5 h6 h7 e1; omega]
    exact dv (by decide) (by clear h0 h1 h2 h3 h4 h5 h6 h7 e1; omega)
  rw [e2]
  have f0 : S = a0 + 256 * a1 + 65536 * a2 + 16777216 * a3 + 4294967296 * t4 := by clear h4 h5 h6 h7 e1 e2; omega
  have f1 : t1 = a1 + 256 * a2 + 65536 * a3 + 16777216 * a4 + 4294967296 * t5 := by clear h0 h5 h6 h7 e1 e2 f0; omega
  have f2 : t2 = a2 + 256 * a3 + 65536 * a4 + 16777216 * a5 + 4294967296 * t6 := by clear h0 h1 h6 h7 e1 e2 f0 f1; omega
  have f3 : t3 = a3 + 256 * a4 + 65536 * a5 + 16777216 * a6 + 4294967296 * t7 := by clear h0 h1 h2 h7 e1 e2 f0 f1 f2; omega
  have e3 : (S + t1 + (t2 + t3)) / 4294967296 = t4 + t5 + t6 + t7 := by
    rw [show S + t1 + (t2 + t3) = ((a0 + a1 + a2 + a3) + 256 * (a1 + a2 + a3 + a4) + 65536 * (a2 + a3 + a4 + a5) + 16777216 * (a3 + a4 + a5 + a6)) + 4294967296 * (t4 + t5 + t6 + t7) by clear h0 h1 h2 h3 h4 h5 h6 h7 e1 e2; omega]
    exact dv (by decide) (by clear h0 h1 h2 h3 h4 h5 h6 h7 e1 e2 f0 f1 f2 f3; omega)
  rw [e3, show S + t1 + (t2 + t3) + (t4 + t5 + t6 + t7) = (a0 + (a1 + (a2 + (a3 + (a4 + (a5 + (a6 + a7))))))) + 128 * (2 * (t1 + t2 + t3 + t4 + t5 + t6 + t7)) by clear f0 f1 f2 f3 e1 e2 e3; omega, Nat.add_mul_mod_self_left]
  exact Nat.mod_eq_of_lt (by clear h0 h1 h2 h3 h4 h5 h6 h7 e1 e2 e3 f0 f1 f2 f3; omega)
theorem cntB_0 {q : Nat → Bool} : cntB q 0 = 0 := rfl
theorem cnt64 (n : Nat) : cntB n.testBit (8 + (8 + (8 + (8 + (8 + (8 + (8 + (8 + 0)))))))) = pc8 (n % 256) + (pc8 (n / 256 % 256) + (pc8 (n / 256 / 256 % 256) + (pc8 (n / 256 / 256 / 256 % 256) + (pc8 (n / 256 / 256 / 256 / 256 % 256) + (pc8 (n / 256 / 256 / 256 / 256 / 256 % 256) + (pc8 (n / 256 / 256 / 256 / 256 / 256 / 256 % 256) + pc8 (n / 256 / 256 / 256 / 256 / 256 / 256 / 256 % 256))))))) := by
  rw [cnt_byte, cnt_byte, cnt_byte, cnt_byte, cnt_byte, cnt_byte, cnt_byte, cnt_byte, cntB_0, Nat.add_zero]
theorem pcs_s (n k : Nat) : pcs n (k + 1) = pc8 (n % 256) + 256 * pcs (n / 256) k := rfl
theorem pcs_0 (n : Nat) : pcs n 0 = 0 := rfl
theorem pcs8 (n : Nat) : pcs n (0 + 1 + 1 + 1 + 1 + 1 + 1 + 1 + 1) = pc8 (n % 256) + 256 * (pc8 (n / 256 % 256) + 256 * (pc8 (n / 256 / 256 % 256) + 256 * (pc8 (n / 256 / 256 / 256 % 256) + 256 * (pc8 (n / 256 / 256 / 256 / 256 % 256) + 256 * (pc8 (n / 256 / 256 / 256 / 256 / 256 % 256) + 256 * (pc8 (n / 256 / 256 / 256 / 256 / 256 / 256 % 256) + 256 * (pc8 (n / 256 / 256 / 256 / 256 / 256 / 256 / 256 % 256) + 256 * 0))))))) := by
  rw [pcs_s, pcs_s, pcs_s, pcs_s, pcs_s, pcs_s, pcs_s, pcs_s, pcs_0]
theorem fold8 {n S c : Nat} (hS : S = pcs n (0 + 1 + 1 + 1 + 1 + 1 + 1 + 1 + 1)) (hc : c = cntB n.testBit (8 + (8 + (8 + (8 + (8 + (8 + (8 + (8 + 0))))))))) : (S + S / 256 + (S + S / 256) / 65536 + (S + S / 256 + (S + S / 256) / 65536) / 4294967296) % 128 = c := by
  rw [pcs8] at hS
  rw [cnt64] at hc
  have b0 := pc8_le (n % 256)
  have b1 := pc8_le (n / 256 % 256)
  have b2 := pc8_le (n / 256 / 256 % 256)
  have b3 := pc8_le (n / 256 / 256 / 256 % 256)
  have b4 := pc8_le (n / 256 / 256 / 256 / 256 % 256)
  have b5 := pc8_le (n / 256 / 256 / 256 / 256 / 256 % 256)
  have b6 := pc8_le (n / 256 / 256 / 256 / 256 / 256 / 256 % 256)
  have b7 := pc8_le (n / 256 / 256 / 256 / 256 / 256 / 256 / 256 % 256)
  rw [hc]
  exact fold_ar b0 b1 b2 b3 b4 b5 b6 b7 hS rfl rfl rfl rfl rfl rfl rfl
