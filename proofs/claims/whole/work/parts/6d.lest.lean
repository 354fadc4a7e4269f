/-! the soonest order: the reference; the steps fewest and soon -/
def lfv (W : Nat → Nat) (T R : Nat) : Nat := if R = 0 then 0 else (bt (vv W T) R T).2
theorem vv_lf {W : Nat → Nat} {T R : Nat} (hT : T ≤ 14) (hW : WO W T) (hR : R < 2 ^ T) : vv W T R = W R + lfv W T R := by
  unfold lfv
  by_cases c : R = 0
  · subst c; rw [if_pos rfl, vv_0]; rfl
  · rw [if_neg c]; exact (bt_ok hT hW hR c).2.2.2.2.2.2
theorem lfv_le {W : Nat → Nat} {T R : Nat} (hT : T ≤ 14) (hW : WO W T) (hR : R < 2 ^ T) : lfv W T R ≤ 1344 := by
  have h1 := vv_lf hT hW hR
  have h2 := vv_lt hT hW hR
  omega
theorem xx {T R : Nat} (h : R < 2 ^ T) : (2 ^ T - 1) ^^^ ((2 ^ T - 1) ^^^ R) = R := by rw [← Nat.xor_assoc, Nat.xor_self, Nat.zero_xor]
theorem or_same {s t : Nat} (h : s.testBit t = true) : s ||| 2 ^ t = s := by
  apply Nat.eq_of_testBit_eq
  intro i
  rw [tb_or]
  by_cases q : t = i
  · subst q; rw [h]; rfl
  · rw [decide_eq_false q, Bool.or_false]
theorem or_ne {s t : Nat} (h : s.testBit t = false) : ¬ s ||| 2 ^ t = s := fun c => by
  have : (s ||| 2 ^ t).testBit t = true := by rw [tb_or, decide_eq_true rfl, Bool.or_true]
  rw [c, h] at this; cases this
theorem or_x {s t T : Nat} (ht : t < T) (h : s.testBit t = false) : (2 ^ T - 1) ^^^ (s ||| 2 ^ t) = ((2 ^ T - 1) ^^^ s) ^^^ 2 ^ t := by
  apply Nat.eq_of_testBit_eq
  intro i
  rw [tb_ax, tb_x, tb_ax, tb_or]
  by_cases q : t = i
  · subst q; rw [h, decide_eq_true rfl, decide_eq_true ht]; rfl
  · rw [decide_eq_false q, Bool.or_false, Bool.xor_false]
theorem or_gt {s t : Nat} (h : s.testBit t = false) : s < s ||| 2 ^ t := by
  have h1 : s ≤ s ||| 2 ^ t := Nat.left_le_or
  have h2 := or_ne h
  omega
def lsE (b : Nat × Nat) : Int32 := if b.2 = 1000000 then -1 else nI b.2
theorem lf38 {N T s : Nat} {W : Nat → Nat} {ns nz nm mt vs mn ms df rs ow nt mi lf : Nat → Int32} {il ca x1 : Int32} {k24 : Int32 → Int32 → (Nat → Int32) → (Int32) → (Int32) → (Nat → Int32) → (Nat → Int32) → (Nat → Int32) → (Nat → Int32) → (Nat → Int32) → (Nat → Int32) → (Nat → Int32) → (Nat → Int32) → Option (Int32 × (Nat → Int32) × (Int32) × (Int32) × (Nat → Int32) × (Nat → Int32) × (Nat → Int32) × (Nat → Int32) × (Nat → Int32) × (Nat → Int32) × (Nat → Int32) × (Nat → Int32))} (hN : 20000 ≤ N) (hT : T ≤ 14) (hW : WO W T) (hM : ∀ s, s < 2 ^ T → mi s = nI (W ((2 ^ T - 1) ^^^ s))) (hs : s < 2 ^ T - 1) (hL : ∀ x, s < x → x < 2 ^ T → lf x = nI (lfv W T ((2 ^ T - 1) ^^^ x))) (h0 : lf s = -1) :
    ∃ lf', bX12_soon_38 N ns nz nm kn0 mt (nI T) k24 N x1 (nI s) 0 vs il ca mn ms df rs ow nt mi lf = k24 x1 (nI s + (-1)) vs il ca mn ms df rs ow nt mi lf' ∧ ∀ x, s ≤ x → x < 2 ^ T → lf' x = nI (lfv W T ((2 ^ T - 1) ^^^ x)) := by
  have hS := p14 hT
  have hs2 : s < 2 ^ T := by omega
  have hR := x_all hs2
  have hR0 : ¬ (2 ^ T - 1) ^^^ s = 0 := fun c => by
    have := xx hs2
    rw [c, Nat.xor_zero] at this; omega
  have hvb : ∀ R, R < 2 ^ T → vv W T R < 1000000 := fun R h => by have := vv_lt hT hW h; omega
  have hb2 : ∀ t, t ≤ T → (bt (vv W T) ((2 ^ T - 1) ^^^ s) t).2 ≤ 1000000 := by
    intro t
    induction t with
    | zero => intro _; exact Nat.le_refl _
    | succ t ih =>
      intro ht
      rw [bt]
      split
      · rename_i c
        have := hvb _ (show ((2 ^ T - 1) ^^^ s) ^^^ 2 ^ t < 2 ^ T by have := x_dec c.1; omega)
        show vv W T _ ≤ _
        omega
      · exact ih (by omega)
  obtain ⟨lf', e1, e2, e3⟩ := lp (m := T) (g := fun n t (z : Nat → Int32) => bX12_soon_38 N ns nz nm kn0 mt (nI T) k24 n x1 (nI s) (nI t) vs il ca mn ms df rs ow nt mi z) (fun t z => z s = lsE (bt (vv W T) ((2 ^ T - 1) ^^^ s) t) ∧ ∀ x, ¬ x = s → z x = lf x) (fun z => k24 x1 (nI s + (-1)) vs il ca mn ms df rs ow nt mi z) (fun n z hz => by
    rw [bX12_soon_38, if_pos (nI_le (Nat.le_refl _) (by omega))]) (fun n t z ht hz => by
    obtain ⟨z1, z2⟩ := hz
    have htb : ((2 ^ T - 1) ^^^ s).testBit t = !(s.testBit t) := by rw [tb_ax, decide_eq_true ht]; cases s.testBit t <;> rfl
    have keep : upd z s (z s) s = lsE (bt (vv W T) ((2 ^ T - 1) ^^^ s) t) ∧ ∀ x, ¬ x = s → upd z s (z s) x = lf x := ⟨by rw [pk_us, z1], fun x hx => by rw [pk_un hx]; exact z2 x hx⟩
    rw [bX12_soon_38, if_neg (nI_ge ht (by omega)), sh1 t (by omega), nx_or', bt, htb]
    simp only [bX12_soon_98, bX12_soon_94, bX12_soon_99, bX12_soon_135, un_bnd (show s < 16384 by omega) (show 16384 < 2 ^ 31 by decide), un_cl (show s < 2 ^ 31 by omega), nI_1 t, if_pos (show (0 : Int32) = 0 from rfl), if_neg (show ¬ (1 : Int32) = 0 by decide), if_true, if_false]
    have ol : s ||| 2 ^ t < 2 ^ T := Nat.or_lt_two_pow hs2 (wb_lt2 ht)
    cases q : s.testBit t
    · have og := or_gt q
      have hR' : ((2 ^ T - 1) ^^^ s) ^^^ 2 ^ t < 2 ^ T := x_lt hR ht
      have vb := hvb _ hR'
      have b2 := hb2 t (by omega)
      have es : mi (s ||| 2 ^ t) + z (s ||| 2 ^ t) = nI (vv W T (((2 ^ T - 1) ^^^ s) ^^^ 2 ^ t)) := by
        rw [hM _ ol, z2 _ (by omega), hL _ og ol, or_x ht q, nI_add, ← vv_lf hT hW hR']
      have take : vv W T (((2 ^ T - 1) ^^^ s) ^^^ 2 ^ t) < (bt (vv W T) ((2 ^ T - 1) ^^^ s) t).2 → upd z s (nI (vv W T (((2 ^ T - 1) ^^^ s) ^^^ 2 ^ t))) s = lsE (if (!false) = true ∧ vv W T (((2 ^ T - 1) ^^^ s) ^^^ 2 ^ t) < (bt (vv W T) ((2 ^ T - 1) ^^^ s) t).2 then (t, vv W T (((2 ^ T - 1) ^^^ s) ^^^ 2 ^ t)) else bt (vv W T) ((2 ^ T - 1) ^^^ s) t) ∧ ∀ x, ¬ x = s → upd z s (nI (vv W T (((2 ^ T - 1) ^^^ s) ^^^ 2 ^ t))) x = lf x := fun c => ⟨by rw [pk_us, if_pos ⟨rfl, c⟩, lsE, if_neg (show ¬ vv W T (((2 ^ T - 1) ^^^ s) ^^^ 2 ^ t) = 1000000 by omega)], fun x hx => by rw [pk_un hx]; exact z2 x hx⟩
      rw [if_neg (fun c => or_ne q ((nI_eq (by omega) (by omega)).mp c)), un_bnd (show s ||| 2 ^ t < 16384 by omega) (by decide), un_bnd (show s ||| 2 ^ t < 16384 by omega) (by decide), un_cl (show s ||| 2 ^ t < 2 ^ 31 by omega), es]
      by_cases c : (bt (vv W T) ((2 ^ T - 1) ^^^ s) t).2 = 1000000
      · rw [if_pos (show z s < 0 by rw [z1, lsE, if_pos c]; decide)]
        exact ⟨upd z s (nI (vv W T (((2 ^ T - 1) ^^^ s) ^^^ 2 ^ t))), rfl, take (by omega)⟩
      · have zs : z s = nI (bt (vv W T) ((2 ^ T - 1) ^^^ s) t).2 := by rw [z1, lsE, if_neg c]
        rw [if_neg (show ¬ z s < 0 by rw [zs]; exact nI_pos (by omega))]
        by_cases c2 : vv W T (((2 ^ T - 1) ^^^ s) ^^^ 2 ^ t) < (bt (vv W T) ((2 ^ T - 1) ^^^ s) t).2
        · rw [if_neg (show ¬ z s ≤ nI (vv W T (((2 ^ T - 1) ^^^ s) ^^^ 2 ^ t)) by rw [zs]; exact nI_ge c2 (by omega))]
          exact ⟨upd z s (nI (vv W T (((2 ^ T - 1) ^^^ s) ^^^ 2 ^ t))), rfl, take c2⟩
        · rw [if_pos (show z s ≤ nI (vv W T (((2 ^ T - 1) ^^^ s) ^^^ 2 ^ t)) by rw [zs]; exact nI_le (by omega) (by omega)), if_neg (fun c => c2 c.2)]
          exact ⟨upd z s (z s), rfl, keep⟩
    · rw [or_same q, if_pos rfl, if_neg (fun c => absurd c.1 (by decide))]
      exact ⟨upd z s (z s), rfl, keep⟩) T 0 N lf (by omega) (by omega) ⟨by rw [h0]; rfl, fun x _ => rfl⟩
  refine ⟨lf', e1, fun x h1 h2 => ?_⟩
  by_cases e : x = s
  · subst e
    have b4 := (bt_ok hT hW hR hR0).2.2.2.1
    rw [e2, lsE, if_neg (by omega), lfv, if_neg hR0]
  · rw [e3 x e]; exact hL x (by omega) h2
theorem cnt_x {R t : Nat} (h : R.testBit t = true) : ∀ n, (n ≤ t → cntB (R ^^^ 2 ^ t).testBit n = cntB R.testBit n) ∧ (t < n → cntB (R ^^^ 2 ^ t).testBit n + 1 = cntB R.testBit n) := by
  intro n
  induction n with
  | zero => exact ⟨fun _ => rfl, fun h => absurd h (Nat.not_lt_zero _)⟩
  | succ n ih =>
    refine ⟨fun hn => ?_, fun hn => ?_⟩
    · rw [cntB, cntB, ih.1 (by omega), tb_x, decide_eq_false (by omega), Bool.xor_false]
    · rw [cntB, cntB, tb_x]
      by_cases e : t = n
      · subst e; rw [ih.1 (Nat.le_refl _), h, decide_eq_true rfl]; rfl
      · have := ih.2 (by omega)
        rw [decide_eq_false e, Bool.xor_false]
        omega
theorem ro_cnt {W : Nat → Nat} {T : Nat} (hT : T ≤ 14) (hW : WO W T) : ∀ p, p ≤ T → cntB (ro (vv W T) T p).testBit T = T - p := by
  intro p
  induction p with
  | zero =>
    intro _
    have e : cntB (2 ^ T - 1).testBit T = cntB (fun _ => true) T := cntB_congr T (fun i hi => by rw [tb_all, decide_eq_true hi])
    show cntB (2 ^ T - 1).testBit T = T
    rw [e]
    clear e hT hW
    induction T with
    | zero => rfl
    | succ T ih => rw [cntB, if_pos rfl, ih (Nat.zero_le _)]
  | succ p ih =>
    intro hp
    have i := ih (by omega)
    have h0 : ¬ ro (vv W T) T p = 0 := fun c => by
      rw [c] at i
      have : cntB (0 : Nat).testBit T = cntB (fun _ => false) T := cntB_congr T (fun i _ => Nat.zero_testBit i)
      have z : ∀ n, cntB (fun _ => false) n = 0 := fun n => by
        induction n with
        | zero => rfl
        | succ n ih => rw [cntB, ih]; rfl
      rw [z] at this; omega
    obtain ⟨b1, b2, -⟩ := bt_ok hT hW (ro_lt p (by omega)) h0
    have := (cnt_x b2 T).2 b1
    rw [ro]; omega
theorem ro_ne {W : Nat → Nat} {T p : Nat} (hT : T ≤ 14) (hW : WO W T) (hp : p < T) : ¬ ro (vv W T) T p = 0 := fun c => by
  have i := ro_cnt hT hW p (by omega)
  rw [c] at i
  have : cntB (0 : Nat).testBit T = cntB (fun _ => false) T := cntB_congr T (fun i _ => Nat.zero_testBit i)
  have z : ∀ n, cntB (fun _ => false) n = 0 := fun n => by
    induction n with
    | zero => rfl
    | succ n ih => rw [cntB, ih]; rfl
  rw [z] at this; omega
def laS (v : Nat → Nat) (T : Nat) : Nat → Int32
  | 0 => -6
  | p + 1 => nI (bt v (ro v T p) T).1
theorem so180 {N T i : Nat} {W : Nat → Nat} {ns nz nm mt vs mn ms df rs ow nt mi lf : Nat → Int32} {il ca : Int32} (hN : 20000 ≤ N) (hT : T ≤ 14) (hW : WO W T) (hM : ∀ s, s < 2 ^ T → mi s = nI (W ((2 ^ T - 1) ^^^ s))) (hL : ∀ x, x < 2 ^ T → lf x = nI (lfv W T ((2 ^ T - 1) ^^^ x))) (hi : i < T) : bX12_soon_180 N ns nz nm kn0 mt (nI T) N (nI i) 0 (-6) 0 vs il ca mn ms df rs ow nt mi lf = some (nI (bt (vv W T) (ro (vv W T) T i) T).1, vs, il, ca, mn, ms, df, rs, ow, nt, mi, lf) := by
  have hS := p14 hT
  have hp := Nat.two_pow_pos T
  have e0 : (2 ^ T - 1) ^^^ ro (vv W T) T 0 = 0 := Nat.xor_self _
  have main := lpd (m := i + 1) (g := fun n k (s : Nat × Int32) => bX12_soon_180 N ns nz nm kn0 mt (nI T) n (nI i) (nI s.1) s.2 (nI k) vs il ca mn ms df rs ow nt mi lf) (r := some (nI (bt (vv W T) (ro (vv W T) T i) T).1, vs, il, ca, mn, ms, df, rs, ow, nt, mi, lf)) (fun k => ((2 ^ T - 1) ^^^ ro (vv W T) T k, laS (vv W T) T k)) (fun n => by
    dsimp only
    rw [bX12_soon_180, if_pos (nI_lt (Nat.lt_succ_self _) (by omega))]
    rfl) (fun n k hk => by
    dsimp only
    have hkT : k < T := by omega
    have rl := ro_lt (v := vv W T) (T := T) k (by omega)
    have r0 := ro_ne hT hW hkT
    obtain ⟨b1, b2, b3, b4, b5, b6, b7⟩ := bt_ok hT hW rl r0
    have sl := x_all rl
    have lfs : lf ((2 ^ T - 1) ^^^ ro (vv W T) T k) = nI (bt (vv W T) (ro (vv W T) T k) T).2 := by rw [hL _ sl, xx rl, lfv, if_neg r0]
    have tbs : ∀ t, t < T → ((2 ^ T - 1) ^^^ ro (vv W T) T k).testBit t = !((ro (vv W T) T k).testBit t) := fun t ht => by rw [tb_ax, decide_eq_true ht]; cases (ro (vv W T) T k).testBit t <;> rfl
    rw [bX12_soon_180, if_neg (show ¬ nI i < nI k from fun c => (lt_iff_nle.mp c) (nI_le (by omega) (by omega)))]
    have scan : ∀ d t n', t + d = (bt (vv W T) (ro (vv W T) T k) T).1 → d < n' → bX12_soon_189 N ns nz nm kn0 mt (nI T) (bX12_soon_180 N ns nz nm kn0 mt (nI T) n) n' (nI i) (nI ((2 ^ T - 1) ^^^ ro (vv W T) T k)) (nI k) (nI t) vs il ca mn ms df rs ow nt mi lf = bX12_soon_180 N ns nz nm kn0 mt (nI T) n (nI i) (nI ((2 ^ T - 1) ^^^ ro (vv W T) T (k + 1))) (laS (vv W T) T (k + 1)) (nI (k + 1)) vs il ca mn ms df rs ow nt mi lf := by
      intro d
      induction d with
      | zero =>
        intro t n' ht hn
        obtain ⟨n', rfl⟩ : ∃ z, n' = z + 1 := ⟨n' - 1, by omega⟩
        have e : t = (bt (vv W T) (ro (vv W T) T k) T).1 := by omega
        have tf : ((2 ^ T - 1) ^^^ ro (vv W T) T k).testBit t = false := by rw [tbs t (by omega), e, b2]; rfl
        have ol : ((2 ^ T - 1) ^^^ ro (vv W T) T k) ||| 2 ^ t < 2 ^ T := Nat.or_lt_two_pow sl (wb_lt2 (by omega))
        have ox := or_x (T := T) (by omega) tf
        rw [xx rl] at ox
        have hR' : ro (vv W T) T k ^^^ 2 ^ t < 2 ^ T := x_lt rl (by omega)
        rw [bX12_soon_189, bitM (by omega) (by omega), tb_1, tf, if_neg (show ¬ (false = true) by decide), if_neg (show ¬ nI 0 = 1 by decide), sh1 t (by omega), nx_or', un_bnd (show ((2 ^ T - 1) ^^^ ro (vv W T) T k) ||| 2 ^ t < 16384 by omega) (by decide), un_bnd (show (2 ^ T - 1) ^^^ ro (vv W T) T k < 16384 by omega) (by decide), un_cl (show ((2 ^ T - 1) ^^^ ro (vv W T) T k) ||| 2 ^ t < 2 ^ 31 by omega), un_cl (show (2 ^ T - 1) ^^^ ro (vv W T) T k < 2 ^ 31 by omega), hM _ ol, hL _ ol, ox, nI_add, ← vv_lf hT hW hR', lfs, if_pos (by rw [e, b3]), nI_1 k]
        have eo : ((2 ^ T - 1) ^^^ ro (vv W T) T k) ||| 2 ^ t = (2 ^ T - 1) ^^^ ro (vv W T) T (k + 1) := by
          have := xx ol
          rw [ox, e] at this
          rw [e]; exact this.symm
        rw [eo, e]; rfl
      | succ d ih =>
        intro t n' ht hn
        obtain ⟨n', rfl⟩ : ∃ z, n' = z + 1 := ⟨n' - 1, by omega⟩
        have ii := ih (t + 1) n' (by omega) (by omega)
        rw [bX12_soon_189, bitM (by omega) (by omega), tb_1, nI_1 t, ii]
        cases q : (ro (vv W T) T k).testBit t
        · rw [tbs t (by omega), q, if_pos (show (!false) = true from rfl), if_pos (show nI 1 = 1 from rfl)]
        · have tf : ((2 ^ T - 1) ^^^ ro (vv W T) T k).testBit t = false := by rw [tbs t (by omega), q]; rfl
          have ol : ((2 ^ T - 1) ^^^ ro (vv W T) T k) ||| 2 ^ t < 2 ^ T := Nat.or_lt_two_pow sl (wb_lt2 (by omega))
          have ox := or_x (T := T) (by omega) tf
          rw [xx rl] at ox
          have hR' : ro (vv W T) T k ^^^ 2 ^ t < 2 ^ T := x_lt rl (by omega)
          have lt := b6 t (by omega) q
          have vl := vv_lt hT hW hR'
          rw [tf, if_neg (show ¬ (false = true) by decide), if_neg (show ¬ nI 0 = 1 by decide), sh1 t (by omega), nx_or', un_bnd (show ((2 ^ T - 1) ^^^ ro (vv W T) T k) ||| 2 ^ t < 16384 by omega) (by decide), un_bnd (show (2 ^ T - 1) ^^^ ro (vv W T) T k < 16384 by omega) (by decide), un_cl (show ((2 ^ T - 1) ^^^ ro (vv W T) T k) ||| 2 ^ t < 2 ^ 31 by omega), un_cl (show (2 ^ T - 1) ^^^ ro (vv W T) T k < 2 ^ 31 by omega), hM _ ol, hL _ ol, ox, nI_add, ← vv_lf hT hW hR', lfs, if_neg (fun c => by have := (nI_eq (by omega) (by omega)).mp c; omega)]
    exact scan (bt (vv W T) (ro (vv W T) T k) T).1 0 N (by omega) (by omega)) (i + 1) 0 N (by omega) (by omega)
  dsimp only at main
  rw [e0] at main
  exact main
