/-! the fewest tests: the class; settle -/
theorem onM {N x : Nat} (hN : 600 ≤ N) (hx : x < 16384) : fX12_ones N (nI x) = some (nI (pcN x)) := by
  rw [fX12_ones]
  refine lpd (m := 14) (g := fun n t (s : Nat) => bX12_ones_4 N n (nI x) (nI s) (nI t)) (fun t => cntB x.testBit t) (fun n => ?_) (fun n t ht => ?_) 14 0 N (by omega) (by omega)
  · rw [bX12_ones_4, if_pos (show (14 : Int32) ≤ nI 14 by decide)]; rfl
  · rw [bX12_ones_4, if_neg (show ¬ (14 : Int32) ≤ nI t from nI_ge (b := 14) ht (by decide)), bitM (by omega) (by omega), tb_1, nI_add, nI_1 t]
    rfl
theorem pc_le (x : Nat) : pcN x ≤ 14 := cntB_le 14
theorem cnt_lt {q q' : Nat → Bool} {i : Nat} (hi : q i = false) (hi' : q' i = true) (h : ∀ j, q j = true → q' j = true) : ∀ n, i < n → cntB q n < cntB q' n := by
  have le : ∀ n, cntB q n ≤ cntB q' n := by
    intro n
    induction n with
    | zero => exact Nat.le_refl _
    | succ n ih =>
      rw [cntB, cntB]
      by_cases c : q n = true
      · rw [if_pos c, if_pos (h n c)]; omega
      · rw [if_neg c]; omega
  intro n
  induction n with
  | zero => intro h; omega
  | succ n ih =>
    intro hn
    have l := le n
    rw [cntB, cntB]
    by_cases e : i = n
    · subst e; rw [hi, hi', if_neg (by decide), if_pos rfl]; omega
    · have := ih (by omega)
      by_cases c : q n = true
      · rw [if_pos c, if_pos (h n c)]; omega
      · rw [if_neg c]; omega
theorem tb_all {T i : Nat} : (2 ^ T - 1).testBit i = decide (i < T) := Nat.testBit_two_pow_sub_one T i
theorem pc_all {s T : Nat} (hT : T ≤ 14) (hs : s < 2 ^ T - 1) : pcN s < pcN (2 ^ T - 1) := by
  have hs2 : s < 2 ^ T := by omega
  have ex : ∃ i, i < T ∧ s.testBit i = false := by
    apply Classical.byContradiction
    intro c
    have : s = 2 ^ T - 1 := tbe hs2 (by omega) (fun i hi => by
      rw [tb_all, decide_eq_true hi]
      cases e : s.testBit i
      · exact absurd ⟨i, hi, e⟩ c
      · rfl)
    omega
  obtain ⟨i, h1, h2⟩ := ex
  exact cnt_lt h2 (by rw [tb_all, decide_eq_true h1]) (fun j hj => by
    rw [tb_all]
    by_cases c : j < T
    · exact decide_eq_true c
    · rw [tb_hi hs2 (by omega)] at hj; cases hj) 14 (by omega)
theorem x_all {s T : Nat} (hs : s < 2 ^ T) : (2 ^ T - 1) ^^^ s < 2 ^ T := Nat.xor_lt_two_pow (by omega) hs
def fsS (z : Nat → Bool) (T : Nat) : Nat → Nat
  | 0 => 2 ^ T - 1
  | s + 1 => if z s = true ∧ pcN s < pcN (fsS z T s) then s else fsS z T s
theorem fsS_lt {z : Nat → Bool} {T : Nat} : ∀ s, s ≤ 2 ^ T → fsS z T s < 2 ^ T := by
  intro s
  induction s with
  | zero => intro _; have := Nat.two_pow_pos T; show 2 ^ T - 1 < _; omega
  | succ s ih =>
    intro h
    rw [fsS]
    split
    · omega
    · exact ih (by omega)
def zW (W : Nat → Nat) (T s : Nat) : Bool := decide (W ((2 ^ T - 1) ^^^ s) = 0)
theorem fsC {N T wl : Nat} {W : Nat → Nat} {ar : Nat → Int32} {st : Int32} (hN : 20000 ≤ N) (hT : T ≤ 14) (hW : WO W T) (hw : 2 ^ T ≤ wl) (hw2 : wl < 2 ^ 31) (hA : ∀ x, x < 2 ^ T → ar x = nI (vv W T x)) : fX2_findSet N ar wl (nI (2 ^ T)) st = some (nI (fsS (zW W T) T (2 ^ T))) := by
  have hS := p14 hT
  have hp := Nat.two_pow_pos T
  rw [fX2_findSet, show nI (2 ^ T) - (1 : Int32) = nI (2 ^ T - 1) from pk_sub (a := 2 ^ T) (b := 1) hp]
  refine lpd (m := 2 ^ T) (g := fun n s (f : Nat) => bX2_findSet_11 N ar wl n (nI (2 ^ T)) (nI (2 ^ T - 1)) (nI s) (nI f)) (fun s => fsS (zW W T) T s) (fun n => ?_) (fun n s hs => ?_) (2 ^ T) 0 N (by omega) (by omega)
  · rw [bX2_findSet_11, if_pos (nI_le (Nat.le_refl _) (by omega))]
  · have xl := x_all hs
    have fl' := fsS_lt (z := zW W T) (T := T) s (by omega)
    have v1 := vv_lt hT hW xl
    have vz := vv_z hT hW _ xl
    have p1 := pc_le s
    have p2 := pc_le (fsS (zW W T) T s)
    rw [bX2_findSet_11, if_neg (nI_ge hs (by omega)), nx_xor', un_bnd (show (2 ^ T - 1) ^^^ s < wl by omega) hw2, un_cl (show (2 ^ T - 1) ^^^ s < 2 ^ 31 by omega), hA _ xl, bX2_findSet_32, bX2_findSet_32, bcC (show s < 16384 by omega), Option.bind_some, bcC (show fsS (zW W T) T s < 16384 by omega), nI_1 s, fsS]
    by_cases c : W ((2 ^ T - 1) ^^^ s) = 0
    · rw [if_pos ((nI_z (by omega)).mpr (vz.mpr c)), if_neg (show ¬ (1 : Int32) = 0 by decide), Option.bind_some]
      by_cases c2 : pcN s < pcN (fsS (zW W T) T s)
      · rw [if_neg (nI_ge c2 (by omega)), if_pos ⟨decide_eq_true c, c2⟩]
      · rw [if_pos (nI_le (by omega) (by omega)), if_neg (fun q => c2 q.2)]
    · rw [if_neg (fun q => c (vz.mp ((nI_z (by omega)).mp q))), if_pos rfl, if_neg (fun q => c (of_decide_eq_true q.1))]
/-- the class's answers are laid, and right -/
def FR (W : Nat → Nat) (T : Nat) (od : Nat → Int32) (sm st fr : Int32) : Prop := fr = 0 ∨ (fr = 1 ∧ st = nI (fsS (zW W T) T (2 ^ T)) ∧ sm = (if T = 0 then 0 else nI (vv W T (ro (vv W T) T 1))) ∧ ∀ p, p < T → od p = nI (bt (vv W T) (ro (vv W T) T p) T).1)
theorem seC {N m T e : Nat} {bs wa od : Nat → Int32} {B : Nat → Nat} {sm st fr : Int32} (hN : 20000 ≤ N) (hm : m ≤ 96) (hT : T ≤ 14) (he : e ≤ 14) (hb : ∀ j, j < m → bs j = nI (B j) ∧ B j < 2 ^ T) (hW : WO (Zt B m T) T) (hF : FR (Zt B m T) T od sm st fr) :
    ∃ wa' e' od' sm' st', fX2_settle N (nI m) (nI T) bs wa (2 ^ e) od sm st fr = some (wa', 2 ^ e', od', sm', st', 1) ∧ e' = (if fr = 0 then (if 2 ^ T ≤ 2 ^ e then e else T) else e) ∧ FR (Zt B m T) T od' sm' st' 1 := by
  have hS := p14 hT
  have hE := p14 he
  have key : ∀ (wl : Nat) (wa : Nat → Int32), 2 ^ T ≤ wl → wl < 2 ^ 31 → ∃ wa' od' sm' st', bX2_settle_34 N (nI m) (nI T) bs (nI (2 ^ T)) wa wl od sm st fr = some (wa', wl, od', sm', st', 1) ∧ FR (Zt B m T) T od' sm' st' 1 := fun wl wa h1 h2 => by
    obtain ⟨w1, a1, a2⟩ := cwC (wa := wa) hN hm hT h1 h2 hb
    obtain ⟨w2, b1, b2⟩ := alC hN hT hW h1 h2 a2
    obtain ⟨od', d1, d2⟩ := foC (od := od) (sm := sm) hN hT h1 h2 (fun x hx => ⟨b2 x hx, vv_lt hT hW hx⟩)
    rw [bX2_settle_34, a1, Option.bind_some, b1, Option.bind_some, fsC hN hT hW h1 h2 b2, Option.bind_some, d1, Option.bind_some]
    exact ⟨w2, od', _, _, rfl, Or.inr ⟨rfl, rfl, rfl, d2⟩⟩
  rw [fX2_settle]
  by_cases q : fr = 0
  · rw [if_pos q, if_pos q, show (1 : Int32) <<< (nI T &&& 31) = nI (2 ^ T) from by
      rcases Nat.lt_or_ge T 14 with c | c
      · exact sh1 T c
      · rw [show T = 14 by omega]; rfl]
    by_cases q2 : 2 ^ T ≤ 2 ^ e
    · rw [if_pos (show nI (2 ^ T) ≤ Int32.ofNat (2 ^ e) from nI_le q2 (by omega)), if_pos q2]
      obtain ⟨wa', od', sm', st', r1, r2⟩ := key (2 ^ e) wa q2 (by omega)
      exact ⟨wa', e, od', sm', st', r1, rfl, r2⟩
    · rw [if_neg (show ¬ nI (2 ^ T) ≤ Int32.ofNat (2 ^ e) from nI_ge (a := 2 ^ e) (b := 2 ^ T) (by omega) (by omega)), if_neg q2, alg, if_neg (nI_pos (by omega)), un_cl (by omega), if_neg (by omega)]
      obtain ⟨wa', od', sm', st', r1, r2⟩ := key (2 ^ T) (fun _ => 0) (Nat.le_refl _) (by omega)
      exact ⟨wa', T, od', sm', st', r1, rfl, r2⟩
  · rw [if_neg q, if_neg q]
    rcases hF with c | c
    · exact absurd c q
    · obtain ⟨c1, c2⟩ := c
      subst c1
      exact ⟨wa, e, od, sm, st, rfl, rfl, Or.inr ⟨rfl, c2⟩⟩
