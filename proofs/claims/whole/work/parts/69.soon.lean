/-! the least sum by sets: the class's table -/
def bt (v : Nat → Nat) (R : Nat) : Nat → Nat × Nat
  | 0 => (0, 1000000)
  | t + 1 => if R.testBit t = true ∧ v (R ^^^ 2 ^ t) < (bt v R t).2 then (t, v (R ^^^ 2 ^ t)) else bt v R t
theorem bt_congr {v v' : Nat → Nat} {R : Nat} (h : ∀ x, x < R → v x = v' x) : ∀ t, bt v R t = bt v' R t := by
  intro t
  induction t with
  | zero => rfl
  | succ t ih =>
    rw [bt, bt, ih]
    by_cases q : R.testBit t = true
    · rw [h _ (x_dec q)]
    · rw [if_neg (fun c => q c.1), if_neg (fun c => q c.1)]
theorem bt_lt {v : Nat → Nat} {R : Nat} : ∀ t, (bt v R t).1 = 0 ∨ (bt v R t).1 < t := by
  intro t
  induction t with
  | zero => exact Or.inl rfl
  | succ t ih =>
    rw [bt]
    split
    · exact Or.inr (Nat.lt_succ_self _)
    · exact ih.elim Or.inl (fun h => Or.inr (by omega))
theorem bt_spec {v : Nat → Nat} {R : Nat} : ∀ n, (∀ t, t < n → R.testBit t = true → v (R ^^^ 2 ^ t) < 1000000) → ((∀ t, t < n → R.testBit t = false) ∧ bt v R n = (0, 1000000)) ∨ ((bt v R n).1 < n ∧ R.testBit (bt v R n).1 = true ∧ v (R ^^^ 2 ^ (bt v R n).1) = (bt v R n).2 ∧ (bt v R n).2 < 1000000 ∧ (∀ t, t < n → R.testBit t = true → (bt v R n).2 ≤ v (R ^^^ 2 ^ t)) ∧ ∀ t, t < (bt v R n).1 → R.testBit t = true → (bt v R n).2 < v (R ^^^ 2 ^ t)) := by
  intro n
  induction n with
  | zero => intro _; exact Or.inl ⟨fun t ht => absurd ht (Nat.not_lt_zero _), rfl⟩
  | succ n ih =>
    intro h
    have ii := ih (fun t ht => h t (by omega))
    rw [bt]
    by_cases q : R.testBit n = true ∧ v (R ^^^ 2 ^ n) < (bt v R n).2
    · rw [if_pos q]
      refine Or.inr ⟨Nat.lt_succ_self _, q.1, rfl, h n (by omega) q.1, fun t ht hb => ?_, fun t ht hb => ?_⟩
      · by_cases e : t = n
        · subst e; exact Nat.le_refl _
        · rcases ii with ⟨i1, -⟩ | ⟨-, -, -, -, i5, -⟩
          · rw [i1 t (by omega)] at hb; cases hb
          · have := i5 t (by omega) hb; have := q.2; show v (R ^^^ 2 ^ n) ≤ _; omega
      · rcases ii with ⟨i1, -⟩ | ⟨-, -, -, -, i5, -⟩
        · rw [i1 t ht] at hb; cases hb
        · have := i5 t ht hb; have := q.2; show v (R ^^^ 2 ^ n) < _; omega
    · rw [if_neg q]
      rcases ii with ⟨i1, i2⟩ | ⟨i1, i2, i3, i4, i5, i6⟩
      · refine Or.inl ⟨fun t ht => ?_, i2⟩
        by_cases e : t = n
        · subst e
          apply Bool.eq_false_iff.mpr
          intro hb
          exact q ⟨hb, by rw [i2]; exact h t (by omega) hb⟩
        · exact i1 t (by omega)
      · refine Or.inr ⟨by omega, i2, i3, i4, fun t ht hb => ?_, i6⟩
        by_cases e : t = n
        · subst e
          rcases Nat.lt_or_ge (v (R ^^^ 2 ^ t)) (bt v R t).2 with c | c
          · exact absurd ⟨hb, c⟩ q
          · exact c
        · exact i5 t (by omega) hb
def vt (W : Nat → Nat) (T : Nat) : Nat → Nat → Nat
  | 0 => W
  | R + 1 => fun x => if x = R ∧ 0 < R then vt W T R x + vt W T R (R ^^^ 2 ^ (bt (vt W T R) R T).1) else vt W T R x
theorem vt_succ {W : Nat → Nat} {T R x : Nat} : vt W T (R + 1) x = if x = R ∧ 0 < R then vt W T R x + vt W T R (R ^^^ 2 ^ (bt (vt W T R) R T).1) else vt W T R x := rfl
def vv (W : Nat → Nat) (T x : Nat) : Nat := vt W T (x + 1) x
theorem vt_hi {W : Nat → Nat} {T x : Nat} : ∀ R, R ≤ x → vt W T R x = W x := by
  intro R
  induction R with
  | zero => intro _; rfl
  | succ R ih =>
    intro h
    rw [vt_succ, if_neg (fun c => by omega)]
    exact ih (by omega)
theorem vt_lo {W : Nat → Nat} {T x : Nat} : ∀ d, vt W T (x + 1 + d) x = vv W T x := by
  intro d
  induction d with
  | zero => rfl
  | succ d ih =>
    rw [show x + 1 + (d + 1) = (x + 1 + d) + 1 from rfl, vt_succ, if_neg (fun c => by omega)]
    exact ih
theorem vt_lt {W : Nat → Nat} {T x R : Nat} (h : x < R) : vt W T R x = vv W T x := by
  have := vt_lo (W := W) (T := T) (x := x) (R - (x + 1))
  rw [show x + 1 + (R - (x + 1)) = R by omega] at this
  exact this
theorem vv_0 {W : Nat → Nat} {T : Nat} : vv W T 0 = W 0 := by
  unfold vv
  rw [vt_succ, if_neg (fun c => absurd c.2 (Nat.lt_irrefl _))]
  rfl
theorem vv_s {W : Nat → Nat} {T R : Nat} (h : 0 < R) : vv W T R = W R + vt W T R (R ^^^ 2 ^ (bt (vv W T) R T).1) := by
  unfold vv
  rw [vt_succ, if_pos ⟨rfl, h⟩, vt_hi R (Nat.le_refl _), bt_congr (v := vt W T R) (v' := fun x => vt W T (x + 1) x) (fun x hx => vt_lt hx)]
def WO (W : Nat → Nat) (T : Nat) : Prop := W 0 = 0 ∧ (∀ x, W x ≤ 96) ∧ (∀ R t, t < T → R.testBit t = true → W (R ^^^ 2 ^ t) ≤ W R)
theorem no_bit {R T : Nat} (hR : R < 2 ^ T) (h : ∀ t, t < T → R.testBit t = false) : R = 0 := tbe hR (Nat.two_pow_pos T) (fun i hi => by rw [h i hi, Nat.zero_testBit])
theorem vv_le {W : Nat → Nat} {T : Nat} (hT : T ≤ 14) (hW : WO W T) : ∀ R, R < 2 ^ T → ∀ k, k ≤ T → R < 2 ^ k → vv W T R ≤ 96 * k := by
  intro R
  induction R using Nat.strongRecOn with
  | _ R ih =>
    intro hR
    by_cases q0 : R = 0
    · subst q0; intro k hk hk2; rw [vv_0, hW.1]; omega
    have hb : ∀ t, t < T → R.testBit t = true → vv W T (R ^^^ 2 ^ t) < 1000000 := fun t ht hbt => by
      have xd := x_dec hbt
      have := ih _ xd (by omega) T (Nat.le_refl _) (by omega)
      omega
    rcases bt_spec T hb with ⟨i1, -⟩ | ⟨i1, i2, i3, i4, i5, i6⟩
    · exact absurd (no_bit hR i1) q0
    have ev : vv W T R = W R + (bt (vv W T) R T).2 := by rw [vv_s (by omega), vt_lt (x_dec i2), i3]
    intro k
    induction k with
    | zero => intro _ h; omega
    | succ k ihk =>
      intro hk hk2
      rcases Nat.lt_or_ge R (2 ^ k) with c | c
      · have := ihk (by omega) c; omega
      · rw [Nat.pow_succ] at hk2
        have hp := Nat.two_pow_pos k
        have e1 : R / 2 ^ k = 1 := by
          have h1 : R / 2 ^ k < 2 := (Nat.div_lt_iff_lt_mul hp).mpr (by omega)
          have h2 : 1 ≤ R / 2 ^ k := (Nat.le_div_iff_mul_le hp).mpr (by omega)
          omega
        have tb : R.testBit k = true := by rw [Nat.testBit_eq_decide_div_mod_eq, e1]; rfl
        have xd := x_dec tb
        have xl : R ^^^ 2 ^ k < 2 ^ k := Nat.lt_pow_two_of_testBit _ (fun i hi => by
          rw [tb_x]
          by_cases e : k = i
          · subst e; rw [tb, decide_eq_true rfl]; rfl
          · rw [decide_eq_false e, Bool.xor_false]
            exact tb_hi (n := k + 1) (by rw [Nat.pow_succ]; exact hk2) (by omega))
        have := ih _ xd (by omega) k (by omega) xl
        have := i5 k (by omega) tb
        have := hW.2.1 R
        omega
theorem vv_lt {W : Nat → Nat} {T R : Nat} (hT : T ≤ 14) (hW : WO W T) (hR : R < 2 ^ T) : vv W T R ≤ 1344 := by
  have := vv_le hT hW R hR T (Nat.le_refl _) hR
  omega
/-- the best turn of a set that is not empty -/
theorem bt_ok {W : Nat → Nat} {T R : Nat} (hT : T ≤ 14) (hW : WO W T) (hR : R < 2 ^ T) (h0 : ¬ R = 0) : (bt (vv W T) R T).1 < T ∧ R.testBit (bt (vv W T) R T).1 = true ∧ vv W T (R ^^^ 2 ^ (bt (vv W T) R T).1) = (bt (vv W T) R T).2 ∧ (bt (vv W T) R T).2 < 1000000 ∧ (∀ t, t < T → R.testBit t = true → (bt (vv W T) R T).2 ≤ vv W T (R ^^^ 2 ^ t)) ∧ (∀ t, t < (bt (vv W T) R T).1 → R.testBit t = true → (bt (vv W T) R T).2 < vv W T (R ^^^ 2 ^ t)) ∧ vv W T R = W R + (bt (vv W T) R T).2 := by
  have hb : ∀ t, t < T → R.testBit t = true → vv W T (R ^^^ 2 ^ t) < 1000000 := fun t ht hbt => by
    have xd := x_dec hbt
    have := vv_lt hT hW (show R ^^^ 2 ^ t < 2 ^ T by omega)
    omega
  rcases bt_spec T hb with ⟨i1, -⟩ | ⟨i1, i2, i3, i4, i5, i6⟩
  · exact absurd (no_bit hR i1) h0
  · exact ⟨i1, i2, i3, i4, i5, i6, by rw [vv_s (by omega), vt_lt (x_dec i2), i3]⟩
theorem vv_z {W : Nat → Nat} {T : Nat} (hT : T ≤ 14) (hW : WO W T) : ∀ R, R < 2 ^ T → (vv W T R = 0 ↔ W R = 0) := by
  intro R
  induction R using Nat.strongRecOn with
  | _ R ih =>
    intro hR
    by_cases q0 : R = 0
    · subst q0; rw [vv_0]
    obtain ⟨i1, i2, i3, i4, i5, i6, i7⟩ := bt_ok hT hW hR q0
    rw [i7]
    constructor
    · intro h; omega
    · intro h
      have xd := x_dec i2
      have := (ih _ xd (by omega)).mpr (by have := hW.2.2 R _ i1 i2; omega)
      omega
theorem btC {N T wl R : Nat} {v : Nat → Nat} {ar : Nat → Int32} (hN : 20000 ≤ N) (hT : T ≤ 14) (hw : 2 ^ T ≤ wl) (hw2 : wl < 2 ^ 31) (hR : R < 2 ^ T) (hA : ∀ x, x < 2 ^ T → ar x = nI (v x) ∧ v x ≤ 1344) : fX2_bestTurn N (nI T) ar wl (nI R) = some (nI (bt v R T).1) := by
  have hS := p14 hT
  have hle : ∀ t, t ≤ T → (bt v R t).2 ≤ 1000000 := by
    intro t
    induction t with
    | zero => intro _; exact Nat.le_refl _
    | succ t ih =>
      intro ht
      rw [bt]
      split
      · rename_i c
        have := (hA (R ^^^ 2 ^ t) (by have := x_dec c.1; omega)).2
        show v (R ^^^ 2 ^ t) ≤ _
        omega
      · exact ih (by omega)
  rw [fX2_bestTurn]
  refine lpd (m := T) (g := fun n t (s : Nat × Nat) => bX2_bestTurn_8 N (nI T) ar wl n (nI R) (nI s.1) (nI s.2) (nI t)) (fun t => bt v R t) (fun n => ?_) (fun n t ht => ?_) T 0 N (by omega) (by omega)
  · rw [bX2_bestTurn_8, if_pos (nI_le (Nat.le_refl _) (by omega))]
  · have ha : R &&& 2 ^ t ≤ R := Nat.and_le_left
    rw [bX2_bestTurn_8, if_neg (nI_ge ht (by omega)), sh1 t (by omega), nx_and', nx_xor', bX2_bestTurn_59, bX2_bestTurn_59, nI_1 t, bt]
    cases q : R.testBit t
    · rw [if_pos ((nI_z (by omega)).mpr (an_z.mpr q)), if_neg (fun c => absurd c.1 (by decide))]
    · have xd := x_dec q
      obtain ⟨a1, a2⟩ := hA (R ^^^ 2 ^ t) (by omega)
      have h1 := hle t (by omega)
      rw [if_neg (fun c => by have := an_z.mp ((nI_z (by omega)).mp c); rw [q] at this; cases this), un_bnd (show R ^^^ 2 ^ t < wl by omega) hw2, un_cl (show R ^^^ 2 ^ t < 2 ^ 31 by omega), a1]
      by_cases c : v (R ^^^ 2 ^ t) < (bt v R t).2
      · rw [if_neg (nI_ge c (by omega)), if_pos ⟨rfl, c⟩]
      · rw [if_pos (nI_le (by omega) (by omega)), if_neg (fun z => c z.2)]
theorem alC {N T wl : Nat} {W : Nat → Nat} {ar : Nat → Int32} (hN : 20000 ≤ N) (hT : T ≤ 14) (hW : WO W T) (hw : 2 ^ T ≤ wl) (hw2 : wl < 2 ^ 31) (hA : ∀ x, x < 2 ^ T → ar x = nI (W x)) : ∃ ar', fX2_addLaterTurns N (nI T) wl (nI (2 ^ T)) ar = some ar' ∧ ∀ x, x < 2 ^ T → ar' x = nI (vv W T x) := by
  have hS := p14 hT
  have hp := Nat.two_pow_pos T
  obtain ⟨ar', e1, -, e2⟩ := lp (m := 2 ^ T) (g := fun n R (s : Nat → Int32) => bX2_addLaterTurns_2 N (nI T) wl n (nI (2 ^ T)) (nI R) s) (fun R s => 1 ≤ R ∧ ∀ x, x < 2 ^ T → s x = nI (vt W T R x)) (fun s => some s) (fun n s hs => by
    rw [bX2_addLaterTurns_2, if_pos (nI_le (Nat.le_refl _) (by omega))]) (fun n R s hR hs => by
    obtain ⟨hR1, hs⟩ := hs
    have hb : ∀ x, x < 2 ^ T → s x = nI (vt W T R x) ∧ vt W T R x ≤ 1344 := fun x hx => ⟨hs x hx, by
      by_cases c : x < R
      · rw [vt_lt c]; exact vv_lt hT hW hx
      · rw [vt_hi R (by omega)]; have := hW.2.1 x; omega⟩
    have eb : bt (vt W T R) R T = bt (vv W T) R T := bt_congr (fun x hx => vt_lt hx) T
    obtain ⟨i1, i2, i3, -⟩ := bt_ok hT hW hR (show ¬ R = 0 by omega)
    have xd := x_dec i2
    rw [bX2_addLaterTurns_2, if_neg (nI_ge hR (by omega)), un_bnd (show R < wl by omega) hw2, btC hN hT hw hw2 hR hb, Option.bind_some, eb, sh1 _ (by omega), nx_xor', un_bnd (show R ^^^ 2 ^ (bt (vv W T) R T).1 < wl by omega) hw2, un_cl (show R < 2 ^ 31 by omega), un_cl (show R ^^^ 2 ^ (bt (vv W T) R T).1 < 2 ^ 31 by omega), hs R hR, hs _ (show R ^^^ 2 ^ (bt (vv W T) R T).1 < 2 ^ T by omega), nI_add, nI_1 R]
    refine ⟨upd s R (nI (vt W T R R + vt W T R (R ^^^ 2 ^ (bt (vv W T) R T).1))), rfl, by omega, fun x hx => ?_⟩
    rw [vt_succ]
    by_cases e : x = R
    · subst e; rw [pk_us, if_pos ⟨rfl, by omega⟩, eb]
    · rw [pk_un e, if_neg (fun c => e c.1)]; exact hs x hx) (2 ^ T - 1) 1 N ar (by omega) (by omega) ⟨Nat.le_refl _, fun x hx => by rw [hA x hx, show (1 : Nat) = 0 + 1 from rfl, vt_succ, if_neg (fun c => absurd c.2 (Nat.lt_irrefl _))]; rfl⟩
  exact ⟨ar', e1, fun x hx => by rw [e2 x hx, vt_lt hx]⟩
def ro (v : Nat → Nat) (T : Nat) : Nat → Nat
  | 0 => 2 ^ T - 1
  | p + 1 => ro v T p ^^^ 2 ^ (bt v (ro v T p) T).1
theorem ro_lt {v : Nat → Nat} {T : Nat} : ∀ p, p ≤ T → ro v T p < 2 ^ T := by
  intro p
  induction p with
  | zero => intro _; have := Nat.two_pow_pos T; show 2 ^ T - 1 < _; omega
  | succ p ih =>
    intro h
    rw [ro]
    exact x_lt (ih (by omega)) ((bt_lt (v := v) (R := ro v T p) T).elim (fun e => by omega) id)
theorem foC {N T wl : Nat} {v : Nat → Nat} {ar od : Nat → Int32} {sm : Int32} (hN : 20000 ≤ N) (hT : T ≤ 14) (hw : 2 ^ T ≤ wl) (hw2 : wl < 2 ^ 31) (hA : ∀ x, x < 2 ^ T → ar x = nI (v x) ∧ v x ≤ 1344) : ∃ od', fX2_findOrder N (nI T) ar wl (nI (2 ^ T)) od sm = some (od', if T = 0 then 0 else nI (v (ro v T 1))) ∧ ∀ p, p < T → od' p = nI (bt v (ro v T p) T).1 := by
  have hS := p14 hT
  have hp := Nat.two_pow_pos T
  obtain ⟨od', e1, e2⟩ := lp (m := T) (g := fun n p (s : Nat → Int32) => bX2_findOrder_11 N (nI T) ar wl n (nI (ro v T p)) (nI p) s (if p = 0 then 0 else nI (v (ro v T 1)))) (fun p s => ∀ i, i < p → s i = nI (bt v (ro v T i) T).1) (fun s => some (s, if T = 0 then 0 else nI (v (ro v T 1)))) (fun n s hs => by
    rw [bX2_findOrder_11, if_pos (nI_le (Nat.le_refl _) (by omega))]) (fun n p s hpT hs => by
    have rl := ro_lt (v := v) (T := T) p (by omega)
    have bl : (bt v (ro v T p) T).1 < T := (bt_lt (v := v) (R := ro v T p) T).elim (fun e => by omega) id
    have rl1 := ro_lt (v := v) (T := T) (p + 1) (by omega)
    rw [bX2_findOrder_11, if_neg (nI_ge hpT (by omega)), btC hN hT hw hw2 rl hA, Option.bind_some, un_bnd (show p < 14 by omega) (by decide), un_cl (show p < 2 ^ 31 by omega), pk_us, sh1 _ (by omega), nx_xor', show ro v T p ^^^ 2 ^ (bt v (ro v T p) T).1 = ro v T (p + 1) from rfl, bX2_findOrder_44, un_bnd (show ro v T (p + 1) < wl by omega) hw2, un_cl (show ro v T (p + 1) < 2 ^ 31 by omega), nI_1 p, if_neg (show ¬ p + 1 = 0 by omega)]
    refine ⟨upd s p (nI (bt v (ro v T p) T).1), ?_, fun i hi => ?_⟩
    · by_cases e : p = 0
      · subst e; rw [if_pos (show nI 0 = 0 from rfl), (hA _ rl1).1]
      · rw [if_neg (fun c => e ((nI_z (by omega)).mp c)), if_neg e]
    · by_cases e : i = p
      · subst e; rw [pk_us]
      · rw [pk_un e]; exact hs i (by omega)) T 0 N od (by omega) (by omega) (fun i hi => absurd hi (Nat.not_lt_zero _))
  refine ⟨od', ?_, e2⟩
  rw [fX2_findOrder, show nI (2 ^ T) - (1 : Int32) = nI (2 ^ T - 1) from pk_sub (a := 2 ^ T) (b := 1) hp]
  exact e1
