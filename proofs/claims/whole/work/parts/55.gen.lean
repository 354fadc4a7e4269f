/-! loops in general; bounds of the reference; bits of a set of tests -/
theorem lpd {α R : Type} {m : Nat} {g : Nat → Nat → α → R} {r : R} (f : Nat → α) (HE : ∀ n, g (n + 1) m (f m) = r) (HS : ∀ n j, j < m → g (n + 1) j (f j) = g n (j + 1) (f (j + 1))) : ∀ d j n, j + d = m → d < n → g n j (f j) = r := by
  intro d
  induction d with
  | zero =>
    intro j n hj hn
    obtain ⟨n, rfl⟩ : ∃ z, n = z + 1 := ⟨n - 1, by omega⟩
    have e : j = m := by omega
    subst e
    exact HE n
  | succ d ih =>
    intro j n hj hn
    obtain ⟨n, rfl⟩ : ∃ z, n = z + 1 := ⟨n - 1, by omega⟩
    rw [HS n j (by omega)]
    exact ih (j + 1) n (by omega) (by omega)
theorem lp {α R : Type} {m : Nat} {g : Nat → Nat → α → R} (P : Nat → α → Prop) (E : α → R) (HE : ∀ n s, P m s → g (n + 1) m s = E s) (HS : ∀ n j s, j < m → P j s → ∃ s', g (n + 1) j s = g n (j + 1) s' ∧ P (j + 1) s') : ∀ d j n s, j + d = m → d < n → P j s → ∃ s', g n j s = E s' ∧ P m s' := by
  intro d
  induction d with
  | zero =>
    intro j n s hj hn hP
    obtain ⟨n, rfl⟩ : ∃ z, n = z + 1 := ⟨n - 1, by omega⟩
    have e : j = m := by omega
    subst e
    exact ⟨s, HE n s hP, hP⟩
  | succ d ih =>
    intro j n s hj hn hP
    obtain ⟨n, rfl⟩ : ∃ z, n = z + 1 := ⟨n - 1, by omega⟩
    obtain ⟨s', h1, h2⟩ := HS n j s (by omega) hP
    obtain ⟨s2, h3, h4⟩ := ih (j + 1) n s' (by omega) (by omega) h2
    exact ⟨s2, h1.trans h3, h4⟩
theorem inH {N n : Nat} {x : Int32} {hi : Int64} (hh : hi.toInt = (n : Int) - 1) (hn : n < 2 ^ 31) : fX12_in N (Int32.toInt64 x) 0 hi = some (if x < 0 ∨ nI n ≤ x then 0 else 1) := by
  rw [inI]
  have e1 : (x < 0) ↔ x.toInt < 0 := Int32.lt_iff_toInt_lt
  have e2 : (nI n ≤ x) ↔ (n : Int) ≤ x.toInt := by rw [Int32.le_iff_toInt_le, nI_toInt hn]
  rw [hh, show (0 : Int64).toInt = 0 from rfl]
  by_cases q : x < 0 ∨ nI n ≤ x
  · rw [if_pos q, if_neg (fun c => q.elim (fun q => by have := e1.mp q; omega) (fun q => by have := e2.mp q; omega))]
  · rw [if_neg q, if_pos]
    have a1 : ¬ x.toInt < 0 := fun c => q (Or.inl (e1.mpr c))
    have a2 : ¬ (n : Int) ≤ x.toInt := fun c => q (Or.inr (e2.mpr c))
    omega
theorem inM1 {N n : Nat} {x : Int32} (hn : n < 2 ^ 30) : fX12_in N (Int32.toInt64 x) 0 (Int32.toInt64 (nI n - 1)) = some (if x < 0 ∨ nI n ≤ x then 0 else 1) :=
  inH (by rw [Int32.toInt_toInt64, show (1 : Int32) = nI 1 from rfl, pk_sub_toInt hn (by decide)]; rfl) (by omega)
theorem bo01 {α : Type} {p : Prop} [Decidable p] {k : Option α} : bo (if p then 0 else 1) k = k := by
  unfold bo
  by_cases q : p
  · rw [if_pos q, if_pos rfl]
  · rw [if_neg q, if_neg (by decide), if_pos rfl]
theorem isChM {N n : Nat} {x : Int32} (hn : n < 2 ^ 30) : fX12_isChange N (nI n) x = some (if x < 0 ∨ nI n ≤ x then 0 else 1) := by
  rw [fX12_isChange, inM1 hn, Option.bind_some, bo01]
theorem isTeM {N n : Nat} {x : Int32} (hn : n < 2 ^ 30) : fX12_isTest N (nI n) x = some (if x < 0 ∨ nI n ≤ x then 0 else 1) := by
  rw [fX12_isTest, inM1 hn, Option.bind_some, bo01]
theorem isPaM {N : Nat} {x : Int32} : fX12_isPart N x = some (if x < 0 ∨ nI 2 ≤ x then 0 else 1) := by
  rw [fX12_isPart, inH (n := 2) (by rfl) (by decide), Option.bind_some, bo01]
theorem arInM {N : Nat} {x : Int32} : fX12_areInputs N x = some (if x < 0 ∨ nI 512 ≤ x then 0 else 1) := by
  rw [fX12_areInputs, inH (n := 512) (by rfl) (by decide), Option.bind_some, bo01]
theorem isNoM {N n t : Nat} {nm : Nat → Int32} {x : Int32} (ht : t < 2) (hn : n < 2 ^ 30) (h : nm t = nI n) : fX12_isNode N nm (nI t) x = some (if x < 0 ∨ nI n ≤ x then 0 else 1) := by
  rw [fX12_isNode, inH (n := 2) (by rfl) (by decide), Option.bind_some, if_neg (show ¬ (nI t < 0 ∨ nI 2 ≤ nI t) from fun q => q.elim (nI_pos (by omega)) (nI_ge ht (by decide))), if_neg (show ¬ (1 : Int32) = 0 by decide), un_bnd ht (by decide), un_cl (by omega), h, inM1 hn, Option.bind_some]
  by_cases q : x < 0 ∨ nI n ≤ x
  · rw [if_pos q, if_pos rfl]
  · rw [if_neg q, if_neg (by decide)]
/-- the tests that notice, as bits -/
def ntF (F g : Nat → Nat) (ti : Nat → Nat) : Nat → Nat
  | 0 => 0
  | t + 1 => ntF F g ti t + (if g (ti t) = F (ti t) then 0 else 2 ^ t)
theorem ntF_lt {F g ti : Nat → Nat} : ∀ t, ntF F g ti t < 2 ^ t := by
  intro t
  induction t with
  | zero => exact Nat.zero_lt_one
  | succ t ih =>
    rw [ntF, Nat.pow_succ]
    by_cases q : g (ti t) = F (ti t)
    · rw [if_pos q]; omega
    · rw [if_neg q]; omega
theorem or_pow {a t : Nat} (h : a < 2 ^ t) : a ||| 2 ^ t = a + 2 ^ t := by
  have := Nat.two_pow_add_eq_or_of_lt h 1
  rw [Nat.mul_one] at this
  rw [Nat.or_comm, ← this]; omega
theorem nx_or' {a b : Nat} : nI a ||| nI b = nI (a ||| b) := by
  apply Int32.toBitVec_inj.mp
  rw [Int32.toBitVec_or]
  show BitVec.ofNat 32 a ||| BitVec.ofNat 32 b = BitVec.ofNat 32 (a ||| b)
  rw [BitVec.ofNat_or]
theorem sh1 : ∀ t, t < 14 → (1 : Int32) <<< (nI t &&& 31) = nI (2 ^ t) := by decide +kernel
theorem p14 {t : Nat} (h : t ≤ 14) : 2 ^ t ≤ 16384 := (Nat.pow_le_pow_right (by decide) h : 2 ^ t ≤ 2 ^ 14)
def TE (T : Nat) (ti td : Nat → Nat) (ci cd mi md : Nat → Int32) : Prop := T ≤ 14 ∧ ∀ t, t < T → ci t = nI (ti t) ∧ mi t = nI (ti t) ∧ ti t < 512 ∧ cd t = nI (td t) ∧ md t = nI (td t) ∧ td t < 8
