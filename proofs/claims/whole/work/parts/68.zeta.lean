/-! sets of tests as bits; how many wait for a set -/
theorem nx_xor' {a b : Nat} : nI a ^^^ nI b = nI (a ^^^ b) := by
  apply Int32.toBitVec_inj.mp
  rw [Int32.toBitVec_xor]
  show BitVec.ofNat 32 a ^^^ BitVec.ofNat 32 b = BitVec.ofNat 32 (a ^^^ b)
  rw [BitVec.ofNat_xor]
theorem nx_and' {a b : Nat} : nI a &&& nI b = nI (a &&& b) := by
  apply Int32.toBitVec_inj.mp
  rw [Int32.toBitVec_and]
  show BitVec.ofNat 32 a &&& BitVec.ofNat 32 b = BitVec.ofNat 32 (a &&& b)
  rw [BitVec.ofNat_and]
theorem tbe {a b n : Nat} (ha : a < 2 ^ n) (hb : b < 2 ^ n) (h : ∀ i, i < n → a.testBit i = b.testBit i) : a = b := by
  apply Nat.eq_of_testBit_eq
  intro i
  by_cases q : i < n
  · exact h i q
  · have e : 2 ^ n ≤ 2 ^ i := Nat.pow_le_pow_right (by decide) (by omega)
    rw [Nat.testBit_lt_two_pow (by omega), Nat.testBit_lt_two_pow (by omega)]
theorem tb_hi {a n i : Nat} (ha : a < 2 ^ n) (hi : n ≤ i) : a.testBit i = false := Nat.testBit_lt_two_pow (Nat.lt_of_lt_of_le ha (Nat.pow_le_pow_right (by decide) hi))
theorem tb_x {a t i : Nat} : (a ^^^ 2 ^ t).testBit i = (a.testBit i ^^ decide (t = i)) := by rw [Nat.testBit_xor, Nat.testBit_two_pow]
theorem x_lt {a t n : Nat} (ha : a < 2 ^ n) (ht : t < n) : a ^^^ 2 ^ t < 2 ^ n := Nat.xor_lt_two_pow ha (wb_lt2 ht)
theorem an_z {a t : Nat} : (a &&& 2 ^ t = 0) ↔ a.testBit t = false := by
  have e : ∀ i, (a &&& 2 ^ t).testBit i = (a.testBit i && decide (t = i)) := fun i => by rw [Nat.testBit_and, Nat.testBit_two_pow]
  constructor
  · intro h
    have := e t
    rw [h, decide_eq_true rfl, Bool.and_true, Nat.zero_testBit] at this
    exact this.symm
  · intro h
    apply Nat.eq_of_testBit_eq
    intro i
    rw [e, Nat.zero_testBit]
    by_cases q : t = i
    · subst q; rw [h]; rfl
    · rw [decide_eq_false q, Bool.and_false]
theorem x_dec {a t : Nat} (h : a.testBit t = true) : a ^^^ 2 ^ t < a := by
  have hp := Nat.two_pow_pos t
  have e1 : (a ^^^ 2 ^ t) / 2 ^ t = a / 2 ^ t ^^^ 1 := by rw [Nat.xor_div_two_pow, Nat.div_self hp]
  have hd : a / 2 ^ t % 2 = 1 := by rw [Nat.testBit_eq_decide_div_mod_eq] at h; exact of_decide_eq_true h
  have e2 : (a / 2 ^ t ^^^ 1) / 2 = a / 2 ^ t / 2 := by
    have := Nat.xor_div_two_pow (a := a / 2 ^ t) (b := 1) (n := 1)
    rw [Nat.pow_one, show (1 : Nat) / 2 = 0 from rfl, Nat.xor_zero] at this
    exact this
  have e3 : (a / 2 ^ t ^^^ 1) % 2 = 0 := by
    have := Nat.xor_mod_two_pow (a := a / 2 ^ t) (b := 1) (n := 1)
    rw [Nat.pow_one, hd] at this
    exact this
  rcases Nat.lt_or_ge (a ^^^ 2 ^ t) a with q | q
  · exact q
  · have := Nat.div_le_div_right (c := 2 ^ t) q
    rw [e1] at this
    omega
def okB (t b R : Nat) : Nat → Bool
  | 0 => true
  | i + 1 => okB t b R i && (if i < t then (!b.testBit i || R.testBit i) else (b.testBit i == R.testBit i))
theorem okB_iff {t b R : Nat} : ∀ n, okB t b R n = true ↔ ∀ i, i < n → (i < t → b.testBit i = true → R.testBit i = true) ∧ (t ≤ i → b.testBit i = R.testBit i) := by
  intro n
  induction n with
  | zero => exact ⟨fun _ i hi => absurd hi (Nat.not_lt_zero _), fun _ => rfl⟩
  | succ n ih =>
    rw [okB, Bool.and_eq_true, ih]
    constructor
    · rintro ⟨h1, h2⟩ i hi
      by_cases q : i = n
      · subst q
        by_cases q2 : i < t
        · rw [if_pos q2] at h2
          refine ⟨fun _ hb => ?_, fun h => by omega⟩
          rw [hb] at h2
          exact h2
        · rw [if_neg q2] at h2
          exact ⟨fun h => absurd h q2, fun _ => eq_of_beq h2⟩
      · exact h1 i (by omega)
    · intro h
      refine ⟨fun i hi => h i (by omega), ?_⟩
      obtain ⟨a, b'⟩ := h n (by omega)
      by_cases q2 : n < t
      · rw [if_pos q2]
        cases e : b.testBit n
        · rfl
        · rw [a q2 e]; rfl
      · rw [if_neg q2, b' (by omega)]; exact beq_self_eq_true _
/-- how many noticed changes agree with R from bit t on, and lie in R below -/
def Zt (B : Nat → Nat) (m t R : Nat) : Nat := cntB (fun j => decide (¬ B j = 0) && okB t (B j) R 14) m
theorem cnt_or {q q1 q2 : Nat → Bool} : ∀ n, (∀ j, j < n → q j = (q1 j || q2 j) ∧ (q1 j && q2 j) = false) → cntB q n = cntB q1 n + cntB q2 n := by
  intro n
  induction n with
  | zero => intro _; rfl
  | succ n ih =>
    intro h
    obtain ⟨h1, h2⟩ := h n (by omega)
    rw [cntB, cntB, cntB, ih (fun j hj => h j (by omega)), h1]
    revert h2
    cases q1 n <;> cases q2 n <;> simp <;> omega
theorem ok_s0 {t b R : Nat} (ht : t < 14) (h : R.testBit t = false) : okB (t + 1) b R 14 = okB t b R 14 := by
  apply Bool.eq_iff_iff.mpr
  rw [okB_iff, okB_iff]
  constructor
  · intro g i hi
    obtain ⟨a, c⟩ := g i hi
    refine ⟨fun q => a (by omega), fun q => ?_⟩
    by_cases e : t = i
    · subst e
      rw [h]
      cases eb : b.testBit t
      · rfl
      · have := a (by omega) eb; rw [h] at this; exact this.symm
    · exact c (by omega)
  · intro g i hi
    obtain ⟨a, c⟩ := g i hi
    refine ⟨fun q hb => ?_, fun q => c (by omega)⟩
    by_cases e : t = i
    · subst e; rw [← c (by omega)]; exact hb
    · exact a (by omega) hb
theorem ok_s1 {t b R : Nat} (ht : t < 14) (h : R.testBit t = true) : okB (t + 1) b R 14 = (okB t b R 14 || okB t b (R ^^^ 2 ^ t) 14) ∧ (okB t b R 14 && okB t b (R ^^^ 2 ^ t) 14) = false := by
  have xt : ∀ i, ¬ t = i → (R ^^^ 2 ^ t).testBit i = R.testBit i := fun i hi => by rw [tb_x, decide_eq_false hi, Bool.xor_false]
  have xs : (R ^^^ 2 ^ t).testBit t = false := by rw [tb_x, h, decide_eq_true rfl]; rfl
  refine ⟨?_, ?_⟩
  · apply Bool.eq_iff_iff.mpr
    rw [Bool.or_eq_true, okB_iff, okB_iff, okB_iff]
    constructor
    · intro g
      cases eb : b.testBit t
      · refine Or.inr (fun i hi => ?_)
        obtain ⟨a, c⟩ := g i hi
        by_cases e : t = i
        · subst e; exact ⟨fun q => by omega, fun _ => by rw [xs, eb]⟩
        · rw [xt i e]; exact ⟨fun q => a (by omega), fun q => c (by omega)⟩
      · refine Or.inl (fun i hi => ?_)
        obtain ⟨a, c⟩ := g i hi
        by_cases e : t = i
        · subst e; exact ⟨fun q => by omega, fun _ => by rw [h, eb]⟩
        · exact ⟨fun q => a (by omega), fun q => c (by omega)⟩
    · rintro (g | g) i hi
      · obtain ⟨a, c⟩ := g i hi
        by_cases e : t = i
        · subst e; exact ⟨fun _ _ => h, fun q => by omega⟩
        · exact ⟨fun q => a (by omega), fun q => c (by omega)⟩
      · obtain ⟨a, c⟩ := g i hi
        by_cases e : t = i
        · subst e; exact ⟨fun _ _ => h, fun q => by omega⟩
        · rw [xt i e] at a c; exact ⟨fun q => a (by omega), fun q => c (by omega)⟩
  · apply Bool.eq_false_iff.mpr
    intro g
    rw [Bool.and_eq_true, okB_iff, okB_iff] at g
    have g1 := (g.1 t ht).2 (Nat.le_refl _)
    have g2 := (g.2 t ht).2 (Nat.le_refl _)
    rw [g1, h, xs] at g2
    cases g2
theorem Zt_s0 {B : Nat → Nat} {m t R : Nat} (ht : t < 14) (h : R.testBit t = false) : Zt B m (t + 1) R = Zt B m t R := cntB_congr m (fun j _ => by rw [ok_s0 ht h])
theorem Zt_s1 {B : Nat → Nat} {m t R : Nat} (ht : t < 14) (h : R.testBit t = true) : Zt B m (t + 1) R = Zt B m t R + Zt B m t (R ^^^ 2 ^ t) := cnt_or m (fun j _ => by
  obtain ⟨a, b⟩ := ok_s1 (b := B j) ht h
  rw [a]
  cases decide (¬ B j = 0)
  · exact ⟨rfl, rfl⟩
  · rw [Bool.true_and, Bool.true_and, Bool.true_and]; exact ⟨rfl, b⟩)
theorem Zt_le {B : Nat → Nat} {m t R : Nat} : Zt B m t R ≤ m := cntB_le m
theorem ok_0 {b R : Nat} (hb : b < 2 ^ 14) (hR : R < 2 ^ 14) : okB 0 b R 14 = decide (b = R) := by
  apply Bool.eq_iff_iff.mpr
  rw [okB_iff, decide_eq_true_iff]
  exact ⟨fun g => tbe hb hR (fun i hi => (g i hi).2 (Nat.zero_le _)), fun e i hi => by subst e; exact ⟨fun _ h => h, fun _ => rfl⟩⟩
theorem cwC {N m T wl : Nat} {bs wa : Nat → Int32} {B : Nat → Nat} (hN : 20000 ≤ N) (hm : m ≤ 96) (hT : T ≤ 14) (hw : 2 ^ T ≤ wl) (hw2 : wl < 2 ^ 31) (hb : ∀ j, j < m → bs j = nI (B j) ∧ B j < 2 ^ T) : ∃ wa', fX2_countWaiting N (nI m) (nI T) bs wl (nI (2 ^ T)) wa = some wa' ∧ ∀ x, x < 2 ^ T → wa' x = nI (Zt B m T x) := by
  have hS := p14 hT
  have hlt : ∀ {x}, x < 2 ^ T → x < 2 ^ 14 := fun h => Nat.lt_of_lt_of_le h (by omega)
  obtain ⟨w0, e1, z1⟩ := lp (m := 2 ^ T) (g := fun n j (s : Nat → Int32) => bX2_countWaiting_2 N (nI m) (nI T) bs wl n (nI (2 ^ T)) (nI j) s) (fun j s => ∀ x, x < j → s x = 0) (fun s => bX2_countWaiting_22 N (nI m) (nI T) bs wl N (nI (2 ^ T)) 0 s) (fun n s hs => by
    rw [bX2_countWaiting_2, if_pos (nI_le (Nat.le_refl _) (by omega))]) (fun n j s hj hs => by
    rw [bX2_countWaiting_2, if_neg (nI_ge hj (by omega)), un_bnd (show j < wl by omega) hw2, un_cl (by omega), nI_1 j]
    refine ⟨upd s j 0, rfl, fun x hx => ?_⟩
    by_cases q : x = j
    · subst q; rw [pk_us]
    · rw [pk_un q]; exact hs x (by omega)) (2 ^ T) 0 N wa (by omega) (by omega) (fun x hx => absurd hx (Nat.not_lt_zero _))
  obtain ⟨w1, e2, z2⟩ := lp (m := m) (g := fun n j (s : Nat → Int32) => bX2_countWaiting_22 N (nI m) (nI T) bs wl n (nI (2 ^ T)) (nI j) s) (fun j s => ∀ x, x < 2 ^ T → s x = nI (cntB (fun i => decide (¬ B i = 0) && decide (B i = x)) j)) (fun s => bX2_countWaiting_70 N (nI m) (nI T) bs wl N (nI (2 ^ T)) 0 s) (fun n s hs => by
    rw [bX2_countWaiting_22, if_pos (nI_le (Nat.le_refl _) (by omega))]) (fun n j s hj hs => by
    obtain ⟨b1, b2⟩ := hb j hj
    rw [bX2_countWaiting_22, if_neg (nI_ge hj (by omega)), un_bnd (show j < 96 by omega) (by decide), un_cl (show j < 2 ^ 31 by omega), b1, nI_1 j]
    by_cases q : B j = 0
    · rw [if_pos ((nI_z (by omega)).mpr q)]
      refine ⟨s, rfl, fun x hx => ?_⟩
      rw [hs x hx, cntB, decide_eq_false (fun c => c q)]; rfl
    · rw [if_neg (fun c => q ((nI_z (by omega)).mp c)), if_neg (nI_ge b2 (by omega)), un_bnd (show B j < wl by omega) hw2, un_cl (show B j < 2 ^ 31 by omega)]
      refine ⟨upd s (B j) (s (B j) + 1), rfl, fun x hx => ?_⟩
      by_cases e : x = B j
      · subst e
        rw [pk_us, hs _ hx, nI_1, cntB, decide_eq_true q, decide_eq_true rfl]; rfl
      · rw [pk_un e, hs x hx, cntB, decide_eq_false (show ¬ B j = x from fun c => e c.symm), Bool.and_false]; rfl) m 0 N w0 (by omega) (by omega) (fun x hx => by rw [z1 x hx]; rfl)
  obtain ⟨w2, e3, z3⟩ := lp (m := T) (g := fun n t (s : Nat → Int32) => bX2_countWaiting_70 N (nI m) (nI T) bs wl n (nI (2 ^ T)) (nI t) s) (fun t s => ∀ x, x < 2 ^ T → s x = nI (Zt B m t x)) (fun s => some s) (fun n s hs => by
    rw [bX2_countWaiting_70, if_pos (nI_le (Nat.le_refl _) (by omega))]) (fun n t s ht hs => by
    have hst : 2 ^ t < 2 ^ T := wb_lt2 ht
    have hs1 := Nat.two_pow_pos t
    rw [bX2_countWaiting_70, if_neg (nI_ge ht (by omega)), sh1 t (by omega)]
    obtain ⟨s', f1, f2⟩ := lp (m := 2 ^ T) (g := fun n' r (z : Nat → Int32) => bX2_countWaiting_88 N (nI m) (nI T) bs wl (bX2_countWaiting_70 N (nI m) (nI T) bs wl n) n' (nI (2 ^ T)) (nI t) (nI (2 ^ t)) (nI r) z) (fun r z => ∀ x, x < 2 ^ T → (x < r → z x = nI (Zt B m (t + 1) x)) ∧ (r ≤ x → z x = nI (Zt B m t x))) (fun z => bX2_countWaiting_70 N (nI m) (nI T) bs wl n (nI (2 ^ T)) (nI (t + 1)) z) (fun n' z hz => by
      rw [bX2_countWaiting_88, if_pos (nI_le (Nat.le_refl _) (by omega)), nI_1 t]) (fun n' r z hr hz => by
      rw [bX2_countWaiting_88, if_neg (nI_ge hr (by omega)), nx_and', nI_1 r, nx_xor']
      have ha : r &&& 2 ^ t ≤ r := Nat.and_le_left
      cases q : r.testBit t
      · rw [if_pos ((nI_z (by omega)).mpr (an_z.mpr q))]
        refine ⟨z, rfl, fun x hx => ⟨fun h => ?_, fun h => (hz x hx).2 (by omega)⟩⟩
        by_cases e : x = r
        · subst e; rw [Zt_s0 (by omega) q]; exact (hz x hx).2 (Nat.le_refl _)
        · exact (hz x hx).1 (by omega)
      · have xd := x_dec q
        have xf : (r ^^^ 2 ^ t).testBit t = false := by rw [tb_x, q, decide_eq_true rfl]; rfl
        rw [if_neg (fun c => by have := an_z.mp ((nI_z (by omega)).mp c); rw [q] at this; cases this), un_bnd (show r < wl by omega) hw2, un_bnd (show r ^^^ 2 ^ t < wl by omega) hw2, un_cl (show r < 2 ^ 31 by omega), un_cl (show r ^^^ 2 ^ t < 2 ^ 31 by omega), (hz r hr).2 (Nat.le_refl _), (hz (r ^^^ 2 ^ t) (by omega)).1 xd, Zt_s0 (by omega) xf, nI_add, ← Zt_s1 (by omega) q]
        refine ⟨upd z r (nI (Zt B m (t + 1) r)), rfl, fun x hx => ?_⟩
        by_cases e : x = r
        · subst e; rw [pk_us]; exact ⟨fun _ => rfl, fun h => by omega⟩
        · rw [pk_un e]; exact ⟨fun h => (hz x hx).1 (by omega), fun h => (hz x hx).2 (by omega)⟩) (2 ^ T - 2 ^ t) (2 ^ t) N s (by omega) (by omega) (fun x hx => ⟨fun h => by rw [Zt_s0 (by omega) (tb_hi h (Nat.le_refl _))]; exact hs x hx, fun _ => hs x hx⟩)
    exact ⟨s', f1, fun x hx => (f2 x hx).1 hx⟩) T 0 N w1 (by omega) (by omega) (fun x hx => by
      rw [z2 x hx, Zt]
      congr 1
      exact cntB_congr m (fun j hj => by rw [ok_0 (hlt (hb j hj).2) (hlt hx)]))
  rw [fX2_countWaiting]
  exact ⟨w2, (show bX2_countWaiting_2 N (nI m) (nI T) bs wl N (nI (2 ^ T)) 0 wa = _ from e1).trans ((show bX2_countWaiting_22 N (nI m) (nI T) bs wl N (nI (2 ^ T)) 0 w0 = _ from e2).trans e3), z3⟩
