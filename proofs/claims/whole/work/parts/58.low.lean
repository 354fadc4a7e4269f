/-! lowest terms: Euclid's way, in few turns -/
theorem eu_half {x y k : Nat} (hyp : 0 < y) (hy : y < 2 ^ (k + 1)) (h0 : 0 < x % y) : y % (x % y) < 2 ^ k := by
  have h1 : x % y < y := Nat.mod_lt x hyp
  have h2 : y % (x % y) < x % y := Nat.mod_lt y h0
  have h3 : y % (x % y) + x % y ≤ y := by
    have e := Nat.mod_add_div y (x % y)
    have : 1 ≤ y / (x % y) := (Nat.one_le_div_iff h0).mpr (by omega)
    have := Nat.mul_le_mul_left (x % y) this
    omega
  rw [Nat.pow_succ] at hy
  omega
theorem nz_n {α : Type} {x : Nat} {k : Option α} (h0 : 0 < x) (hx : x < 2 ^ 31) : nz (nI x) k = k := by
  unfold nz; rw [if_neg (nI_ne0 h0 hx)]
theorem euC {N : Nat} : ∀ (k x y t n : Nat), x < 2 ^ 31 → y < 2 ^ k → k ≤ 20 → t + 2 * k + 1 ≤ 64 → 2 * k < n → bX11_commonDivisor_7 N n (nI x) (nI y) (nI t) = some (nI (Nat.gcd x y)) := by
  intro k
  induction k with
  | zero =>
    intro x y t n hx hy _ ht hn
    obtain ⟨n, rfl⟩ : ∃ z, n = z + 1 := ⟨n - 1, by omega⟩
    have e : y = 0 := by omega
    subst e
    rw [bX11_commonDivisor_7, if_neg (show ¬ (64 : Int32) ≤ nI t from nI_ge (b := 64) (by omega) (by decide)), if_pos nI_0, Nat.gcd_zero_right]
  | succ k ih =>
    intro x y t n hx hy hk ht hn
    have hp : 2 ^ (k + 1) ≤ 2 ^ 20 := Nat.pow_le_pow_right (by decide) hk
    obtain ⟨n, rfl⟩ : ∃ z, n = z + 1 := ⟨n - 1, by omega⟩
    obtain ⟨n, rfl⟩ : ∃ z, n = z + 1 := ⟨n - 1, by omega⟩
    rw [bX11_commonDivisor_7, if_neg (show ¬ (64 : Int32) ≤ nI t from nI_ge (b := 64) (by omega) (by decide))]
    by_cases q : y = 0
    · subst q; rw [if_pos nI_0, Nat.gcd_zero_right]
    · have yp : 0 < y := Nat.pos_of_ne_zero q
      have hm := Nat.mod_lt x yp
      rw [if_neg (nI_ne0 yp (by omega)), nz_n yp (by omega), pk_rem hx yp (by omega), nI_1, bX11_commonDivisor_7, if_neg (show ¬ (64 : Int32) ≤ nI (t + 1) from nI_ge (b := 64) (by omega) (by decide)), Nat.gcd_comm, Nat.gcd_rec]
      by_cases q2 : x % y = 0
      · rw [q2, if_pos nI_0, Nat.gcd_zero_left]
      · have zp : 0 < x % y := Nat.pos_of_ne_zero q2
        rw [if_neg (nI_ne0 zp (by omega)), nz_n zp (by omega), pk_rem (by omega) zp (by omega), nI_1, ih (x % y) (y % (x % y)) (t + 1 + 1) n (by omega) (eu_half yp hy zp) (by omega) (by omega) (by omega), Nat.gcd_comm (x % y), ← Nat.gcd_rec]
theorem euM {N : Nat} {a b p : Int32} : ∀ (k x y n : Nat), x < 2 ^ 31 → y < 2 ^ k → k ≤ 20 → 2 * k < n → bX12_lowest_11 N n a b p (nI x) (nI y) = (if p = 0 then nz (nI (Nat.gcd x y)) (some (a / nI (Nat.gcd x y))) else nz (nI (Nat.gcd x y)) (some (b / nI (Nat.gcd x y)))) := by
  intro k
  induction k with
  | zero =>
    intro x y n hx hy _ hn
    obtain ⟨n, rfl⟩ : ∃ z, n = z + 1 := ⟨n - 1, by omega⟩
    have e : y = 0 := by omega
    subst e
    rw [bX12_lowest_11, if_pos nI_0, Nat.gcd_zero_right]
  | succ k ih =>
    intro x y n hx hy hk hn
    have hp : 2 ^ (k + 1) ≤ 2 ^ 20 := Nat.pow_le_pow_right (by decide) hk
    obtain ⟨n, rfl⟩ : ∃ z, n = z + 1 := ⟨n - 1, by omega⟩
    obtain ⟨n, rfl⟩ : ∃ z, n = z + 1 := ⟨n - 1, by omega⟩
    rw [bX12_lowest_11]
    by_cases q : y = 0
    · subst q; rw [if_pos nI_0, Nat.gcd_zero_right]
    · have yp : 0 < y := Nat.pos_of_ne_zero q
      have hm := Nat.mod_lt x yp
      rw [if_neg (nI_ne0 yp (by omega)), nz_n yp (by omega), pk_rem hx yp (by omega), bX12_lowest_11, Nat.gcd_comm, Nat.gcd_rec]
      by_cases q2 : x % y = 0
      · rw [q2, if_pos nI_0, Nat.gcd_zero_left]
      · have zp : 0 < x % y := Nat.pos_of_ne_zero q2
        rw [if_neg (nI_ne0 zp (by omega)), nz_n zp (by omega), pk_rem (by omega) zp (by omega), ih (x % y) (y % (x % y)) n (by omega) (eu_half yp hy zp) (by omega) (by omega), Nat.gcd_comm (x % y), ← Nat.gcd_rec]
theorem st_low {N u l : Nat} {p : Int32} (hN : 600 ≤ N) (hu : u < 2 ^ 20) (hl : l < 2 ^ 20) (h0 : l = 0 → u = 0) (hp : p = 0 ∨ p = 1) : ∃ r, fX11_inLowestTerms N (nI u) (nI l) p = some r ∧ fX12_lowest N (nI u) (nI l) p = some r := by
  rw [fX11_inLowestTerms, fX11_commonDivisor, show (0 : Int32) = nI 0 from rfl, euC 20 u l 0 N (by omega) hl (by omega) (by omega) (by omega), Option.bind_some, fX12_lowest]
  rw [show nI 0 = (0 : Int32) from rfl]
  by_cases q : l = 0
  · have e := h0 q
    subst q; subst e
    rw [if_pos nI_0, if_pos nI_0, bX11_inLowestTerms_14]
    rcases hp with hp | hp
    · subst hp; exact ⟨0, rfl, rfl⟩
    · subst hp; exact ⟨1, rfl, rfl⟩
  · have lp : 0 < l := Nat.pos_of_ne_zero q
    have gp : 0 < Nat.gcd u l := Nat.gcd_pos_of_pos_right u lp
    have gl : Nat.gcd u l ≤ l := Nat.gcd_le_right u lp
    rw [if_neg (show ¬ nI l = 0 from nI_ne0 lp (by omega)), euM 20 u l N (by omega) hl (by omega) (by omega), nz_n gp (by omega), nz_n gp (by omega), pk_div (by omega) gp (by omega), pk_div (by omega) gp (by omega)]
    by_cases q2 : u = 0
    · subst q2
      rw [if_pos nI_0, bX11_inLowestTerms_14, Nat.gcd_zero_left, Nat.zero_div, Nat.div_self lp]
      rcases hp with hp | hp
      · subst hp; exact ⟨0, rfl, rfl⟩
      · subst hp; exact ⟨1, rfl, rfl⟩
    · rw [if_neg (nI_ne0 (Nat.pos_of_ne_zero q2) (by omega)), if_neg (nI_ne0 gp (by omega)), bX11_inLowestTerms_33, bX11_inLowestTerms_33, nz_n gp (by omega), nz_n gp (by omega), pk_div (by omega) gp (by omega), pk_div (by omega) gp (by omega)]
      by_cases q3 : p = 0
      · rw [if_pos q3]; exact ⟨_, rfl, rfl⟩
      · rw [if_neg q3]; exact ⟨_, rfl, rfl⟩
theorem cnt_disj {q q' : Nat → Bool} : ∀ n, (∀ j, j < n → q j = true → ¬ q' j = true) → cntB q n + cntB q' n ≤ n := by
  intro n
  induction n with
  | zero => intro _; exact Nat.le_refl 0
  | succ n ih =>
    intro h
    have := ih (fun j hj => h j (by omega))
    have h2 := h n (by omega)
    rw [cntB, cntB]
    by_cases a : q n = true
    · rw [if_pos a, if_neg (h2 a)]; omega
    · rw [if_neg a]
      by_cases b : q' n = true
      · rw [if_pos b]; omega
      · rw [if_neg b]; omega
theorem cnt_pos {q : Nat → Bool} : ∀ n x, x < n → q x = true → 0 < cntB q n := by
  intro n
  induction n with
  | zero => intro x hx; omega
  | succ n ih =>
    intro x hx h
    rw [cntB]
    by_cases e : x = n
    · subst e; rw [if_pos h]; omega
    · have := ih x (by omega) h; omega
theorem ntF_pos {F g ti : Nat → Nat} : ∀ T, ¬ ntF F g ti T = 0 → ∃ t, t < T ∧ ¬ g (ti t) = F (ti t) := by
  intro T
  induction T with
  | zero => intro h; exact absurd rfl h
  | succ T ih =>
    intro h
    rw [ntF] at h
    by_cases q : g (ti T) = F (ti T)
    · rw [if_pos q] at h
      obtain ⟨t, h1, h2⟩ := ih h
      exact ⟨t, by omega, h2⟩
    · exact ⟨T, by omega, q⟩
