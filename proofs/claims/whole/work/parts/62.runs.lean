/-! which nodes run -/
theorem has_par {sg : Nat → Int32} {k j : Nat} (h : WF sg k) (hk : k ≤ 40) : ∀ f d, j - d ≤ f → d < k → d < j → j < en sg d → ∃ c i, c < j ∧ i < wn sg c ∧ cn sg c i = j := by
  intro f
  induction f with
  | zero => intro d h1 h2 h3 h4; omega
  | succ f ih =>
    intro d h1 h2 h3 h4
    rw [← cn_end h hk h2] at h4
    obtain ⟨a, a1, a2, a3⟩ := cn_in h hk h2 h3 (wn sg d) (Nat.le_refl _) h4
    by_cases q : cn sg d a = j
    · exact ⟨d, a, h3, a1, q⟩
    · obtain ⟨g1, g2, -, -, g5⟩ := cn_spec h hk h2 a (by omega)
      exact ih (cn sg d a) (by omega) (g5 a1) (by omega) a3
theorem par {sg : Nat → Int32} {k j : Nat} (h : WF sg k) (hk : k ≤ 40) (h0 : 0 < j) (hj : j < k) : ∃ c i, c < j ∧ i < wn sg c ∧ cn sg c i = j :=
  has_par h hk j 0 (by omega) (by omega) h0 (by rw [en_root h hk]; exact hj)
def H4 (sg : Nat → Int32) (x c : Nat) : Bool := rl (sg c) (val sg sg x (cn sg c 0)) (val sg sg x (cn sg c 1))
def tkB (sg : Nat → Int32) (x c i : Nat) : Bool := if i = 2 then H4 sg x c else if i = 3 then !(H4 sg x c) else true
def RS (sg : Nat → Int32) (k x j s : Nat) : Prop := (∀ i, j ≤ i → s.testBit i = false) ∧ s.testBit 0 = true ∧ ∀ c i, c < k → i < wn sg c → cn sg c i < j → s.testBit (cn sg c i) = (s.testBit c && tkB sg x c i)
theorem RS_lt {sg : Nat → Int32} {k x j s : Nat} (h : RS sg k x j s) : s < 2 ^ j := Nat.lt_pow_two_of_testBit s (fun i hi => h.1 i hi)
theorem RS_uniq {sg : Nat → Int32} {k x s s' : Nat} (h : WF sg k) (hk : k ≤ 40) (h1 : RS sg k x k s) (h2 : RS sg k x k s') : s = s' := by
  apply Nat.eq_of_testBit_eq
  intro i
  induction i using Nat.strongRecOn with
  | _ i ih =>
    by_cases q : k ≤ i
    · rw [h1.1 i q, h2.1 i q]
    · by_cases q0 : i = 0
      · subst q0; rw [h1.2.1, h2.2.1]
      · obtain ⟨c, a, b1, b2, b3⟩ := par h hk (show 0 < i by omega) (show i < k by omega)
        subst b3
        rw [h1.2.2 c a (by omega) b2 (by omega), h2.2.2 c a (by omega) b2 (by omega), ih c b1]
theorem tb_or {s j i : Nat} : (s ||| 2 ^ j).testBit i = (s.testBit i || decide (j = i)) := by rw [Nat.testBit_or, Nat.testBit_two_pow]
theorem RS_step {sg : Nat → Int32} {k x j s c i : Nat} (h : WF sg k) (hk : k ≤ 40) (hj : j < k) (h0 : 0 < j) (hc : c < j) (hi : i < wn sg c) (e : cn sg c i = j) (hs : RS sg k x j s) : RS sg k x (j + 1) (if (s.testBit c && tkB sg x c i) = true then s ||| 2 ^ j else s) := by
  have ej : s.testBit j = false := hs.1 j (Nat.le_refl _)
  have old : ∀ c' i', c' < k → i' < wn sg c' → cn sg c' i' < j + 1 → ¬ cn sg c' i' = j → cn sg c' i' < j ∧ c' < j := fun c' i' h1 h2 h3 h4 => by
    have := (cn_spec h hk h1 i' (by omega)).1
    omega
  by_cases q : (s.testBit c && tkB sg x c i) = true
  · rw [if_pos q]
    refine ⟨fun a ha => ?_, ?_, fun c' i' h1 h2 h3 => ?_⟩
    · rw [tb_or, hs.1 a (by omega), decide_eq_false (show ¬ j = a by omega)]; rfl
    · rw [tb_or, hs.2.1]; rfl
    · by_cases q2 : cn sg c' i' = j
      · obtain ⟨e1, e2⟩ := own_one h hk h1 (show c < k by omega) h2 hi (q2.trans e.symm)
        subst e1 e2
        rw [tb_or, tb_or, e, decide_eq_true rfl, decide_eq_false (show ¬ j = c' by omega), Bool.or_true, Bool.or_false, q]
      · obtain ⟨o1, o2⟩ := old c' i' h1 h2 h3 q2
        rw [tb_or, tb_or, decide_eq_false (show ¬ j = cn sg c' i' by omega), decide_eq_false (show ¬ j = c' by omega), Bool.or_false, Bool.or_false]
        exact hs.2.2 c' i' h1 h2 o1
  · rw [if_neg q]
    refine ⟨fun a ha => hs.1 a (by omega), hs.2.1, fun c' i' h1 h2 h3 => ?_⟩
    by_cases q2 : cn sg c' i' = j
    · obtain ⟨e1, e2⟩ := own_one h hk h1 (show c < k by omega) h2 hi (q2.trans e.symm)
      subst e1 e2
      rw [e, ej]
      exact (Bool.eq_false_iff.mpr q).symm
    · exact hs.2.2 c' i' h1 h2 (old c' i' h1 h2 h3 q2).1
theorem RS_one {sg : Nat → Int32} {k x : Nat} (h : WF sg k) (hk : k ≤ 40) : RS sg k x 1 1 := by
  refine ⟨fun i hi => ?_, by decide, fun c i h1 h2 h3 => ?_⟩
  · rw [show (1 : Nat) = 2 ^ 0 from rfl, Nat.testBit_two_pow]; exact decide_eq_false (by omega)
  · have := (cn_spec h hk h1 i (by omega)).1; omega
theorem RS_ex {sg : Nat → Int32} {k x : Nat} (h : WF sg k) (hk : k ≤ 40) : ∃ s, RS sg k x k s := by
  have key : ∀ j, 1 ≤ j → j ≤ k → ∃ s, RS sg k x j s := by
    intro j
    induction j with
    | zero => intro h1; omega
    | succ j ih =>
      intro h1 h2
      by_cases q : j = 0
      · subst q; exact ⟨1, RS_one h hk⟩
      · obtain ⟨s, hs⟩ := ih (by omega) (by omega)
        obtain ⟨c, i, b1, b2, b3⟩ := par h hk (show 0 < j by omega) (show j < k by omega)
        exact ⟨_, RS_step h hk (by omega) (by omega) b1 b2 b3 hs⟩
  exact key k h.1 (Nat.le_refl _)
theorem tb_1 {s c : Nat} : s / 2 ^ c % 2 = if s.testBit c = true then 1 else 0 := by
  rw [Nat.testBit_eq_decide_div_mod_eq]
  by_cases q : s / 2 ^ c % 2 = 1
  · rw [if_pos (decide_eq_true q), q]
  · rw [if_neg (fun z => q (of_decide_eq_true z))]; omega
theorem sh24 : ∀ t, t < 24 → (1 : Int32) <<< (nI t &&& 31) = nI (2 ^ t) := by decide +kernel
theorem lb_gb {p : Nat} (L : Int64) (hp : p < 64) : lush L (nI p) &&& 1 = lN (if gb L p = true then 1 else 0) := by
  obtain ⟨n, hn, rfl⟩ := wb_of L
  rw [lush, wb_bit hn hp, gb_lN hp, Nat.testBit_eq_decide_div_mod_eq]
  by_cases q : n / 2 ^ p % 2 = 1
  · rw [if_pos (decide_eq_true q), q]
  · rw [if_neg (fun z => q (of_decide_eq_true z)), show n / 2 ^ p % 2 = 0 by omega]
theorem takC {N j c i p : Nat} {ow pl : Nat → Int32} {ho : Nat → Int64} {sg : Nat → Int32} {x : Nat} (hj : j < 24) (hc : c < 24) (hi : i < 4) (hp : p < 64) (h1 : ow j = nI c) (h2 : pl j = nI i) (h3 : 2 ≤ i → gb (ho c) p = H4 sg x c) : fX10_isTaken N ow pl ho (nI j) (nI p) = some (if tkB sg x c i = true then 1 else 0) := by
  have key : ∀ (y : Bool), (2 ≤ i → y = H4 sg x c) → bX10_isTaken_25 N ow pl ho (nI j) (if y = true then 1 else 0) = some (if tkB sg x c i = true then 1 else 0) := fun y hy => by
    rw [bX10_isTaken_25, un_bnd hj (by decide), un_cl (by omega), h2]
    rcases (show i = 0 ∨ i = 1 ∨ i = 2 ∨ i = 3 by omega) with e | e | e | e <;> subst e
    · rfl
    · rfl
    · rw [hy (by decide)]
      cases hh : H4 sg x c <;> (simp only [tkB, hh]; rfl)
    · rw [hy (by decide)]
      cases hh : H4 sg x c <;> (simp only [tkB, hh]; rfl)
  rw [fX10_isTaken, un_bnd hj (by decide), un_cl (by omega), h1, un_bnd hc (by decide), un_cl (by omega), lb_gb _ hp]
  cases hg : gb (ho c) p
  · rw [if_neg (show ¬ (false = true) by decide), if_pos (show lg_cmp (lN 0) 0 = 0 by decide)]
    exact key false (fun q => by rw [← h3 q, hg])
  · rw [if_pos rfl, if_neg (show ¬ lg_cmp (lN 1) 0 = 0 by decide)]
    exact key true (fun q => by rw [← h3 q, hg])
theorem runC {N k x s : Nat} {sg wa ow pl sp pn : Nat → Int32} {wl wm wh who : Nat → Int64} (hN : 60 ≤ N) (hX : TX sg k wa ow pl sp pn) (hx : x < 512) (hs : RS sg k x k s) : ∃ wl' wm' wh' who', fX10_nodesRun N sg wa ow pl pn (nI k) (nI x) wl wm wh who = some (nI s, wl', wm', wh', who') := by
  obtain ⟨h, hk, hc, hT, -⟩ := hX
  obtain ⟨wl', wm', wh', who', e, hC⟩ := st_workC (N := N) (w := x / 64) (lo := wl) (mi := wm) (hi := wh) (ho := who) (ch := -6) (sgn := 0) hN h hk (SC_own hc) (by omega) hT (fun i hi => (if_neg (nI_nm6 (by omega))).symm)
  rw [fX10_nodesRun, div64 hx, e, Option.bind_some]
  dsimp only
  have ex : 64 * (x / 64) + x % 64 = x := by omega
  obtain ⟨s', e1, -, e2⟩ := lp (m := k) (g := fun n j (s : Nat) => bX10_nodesRun_17 N sg wa ow pl pn (nI k) n (nI x) (nI s) (nI j) wl' wm' wh' who') (fun j s => 1 ≤ j ∧ RS sg k x j s) (fun s => some (nI s, wl', wm', wh', who')) (fun n s hs => by
    rw [bX10_nodesRun_17, if_pos (nI_le (Nat.le_refl _) (by omega))]) (fun n j s hj hs => by
    obtain ⟨h1, hs⟩ := hs
    obtain ⟨c, i, b1, b2, b3⟩ := par h (by omega) (show 0 < j by omega) hj
    have w4 := wn_le h (show c < k by omega)
    obtain ⟨-, -, t3⟩ := hT c (Nat.zero_le _) (by omega)
    obtain ⟨-, t4, t5⟩ := t3 i b2
    rw [b3] at t4 t5
    have hl := RS_lt hs
    have hl2 : s < 2 ^ 24 := Nat.lt_of_lt_of_le hl (Nat.pow_le_pow_right (by decide) (by omega))
    refine ⟨_, ?_, by omega, RS_step h (by omega) hj (by omega) b1 b2 b3 hs⟩
    rw [bX10_nodesRun_17, if_neg (nI_ge hj (by omega)), un_bnd (show j < 24 by omega) (by decide), un_cl (by omega), t4, bitC (by omega) (by omega), tb_1, rem64 hx, nI_1 j]
    cases q : s.testBit c
    · rw [if_neg (show ¬ (false = true) by decide), if_pos nI_0, Bool.false_and, if_neg (show ¬ (false = true) by decide)]
    · rw [if_pos rfl, if_neg (show ¬ nI 1 = 0 by decide), takC (sg := sg) (x := x) (by omega) (by omega) (show i < 4 by omega) (by omega) t4 t5 (fun q2 => by
        have w := (wn_cases h (show c < k by omega)).1
        have := (hC c (Nat.zero_le _) (by omega)).2 (by omega) (x % 64) (by omega)
        rw [ex] at this
        exact this), Option.bind_some, Bool.true_and, if10]
      by_cases q2 : tkB sg x c i = true
      · rw [if_pos q2, if_pos q2, sh24 j (by omega), nx_or']
      · rw [if_neg q2, if_neg q2]) (k - 1) 1 N 1 (by have := h.1; omega) (by omega) ⟨Nat.le_refl _, RS_one h (by omega)⟩
  have es := RS_uniq h (by omega) e2 hs
  subst es
  exact ⟨wl', wm', wh', who', e1⟩
def MS (sg : Nat → Int32) (k x c s : Nat) : Prop := (∀ i, k ≤ i → s.testBit i = false) ∧ s.testBit 0 = true ∧ ∀ c' i, c' < k → i < wn sg c' → (s.testBit (cn sg c' i) = true ↔ (c' < c ∧ s.testBit c' = true ∧ tkB sg x c' i = true))
theorem MS_step {sg : Nat → Int32} {k x c s s' : Nat} (h : WF sg k) (hk : k ≤ 40) (hc : c < k) (hs : MS sg k x c s) (hn : ∀ i, s'.testBit i = true ↔ (s.testBit i = true ∨ ∃ a, a < wn sg c ∧ i = cn sg c a ∧ s.testBit c = true ∧ tkB sg x c a = true)) : MS sg k x (c + 1) s' := by
  have low : ∀ c', c' ≤ c → (s'.testBit c' = true ↔ s.testBit c' = true) := fun c' hc' => by
    rw [hn]
    refine ⟨fun q => q.elim id (fun q => ?_), Or.inl⟩
    obtain ⟨a, a1, a2, -⟩ := q
    have := (cn_spec h hk hc a (by omega)).1
    omega
  refine ⟨fun i hi => ?_, (hn 0).mpr (Or.inl hs.2.1), fun c' i h1 h2 => ?_⟩
  · apply Bool.eq_false_iff.mpr
    intro q
    rcases (hn i).mp q with q | ⟨a, a1, a2, -⟩
    · rw [hs.1 i hi] at q; cases q
    · have := (cn_spec h hk hc a (by omega)).2.2.2.2 a1
      omega
  · rw [hn, hs.2.2 c' i h1 h2]
    constructor
    · rintro (⟨q1, q2, q3⟩ | ⟨a, a1, a2, a3, a4⟩)
      · exact ⟨by omega, (low c' (by omega)).mpr q2, q3⟩
      · obtain ⟨e1, e2⟩ := own_one h hk h1 hc h2 a1 a2
        subst e1 e2
        exact ⟨by omega, (low c' (by omega)).mpr a3, a4⟩
    · rintro ⟨q1, q2, q3⟩
      by_cases e : c' = c
      · subst e
        exact Or.inr ⟨i, h2, rfl, (low c' (by omega)).mp q2, q3⟩
      · exact Or.inl ⟨by omega, (low c' (by omega)).mp q2, q3⟩
theorem MS_end {sg : Nat → Int32} {k x s : Nat} (hs : MS sg k x k s) : RS sg k x k s := by
  refine ⟨hs.1, hs.2.1, fun c i h1 h2 h3 => ?_⟩
  have q := hs.2.2 c i h1 h2
  cases e : s.testBit (cn sg c i)
  · cases e1 : s.testBit c
    · rfl
    · cases e2 : tkB sg x c i
      · rfl
      · rw [e] at q; exact absurd (q.mpr ⟨h1, e1, e2⟩) (by decide)
  · obtain ⟨q1, q2, q3⟩ := q.mp e
    rw [q2, q3]; rfl
theorem MS_one {sg : Nat → Int32} {k x : Nat} (h : WF sg k) (hk : k ≤ 40) : MS sg k x 0 1 := by
  have b1 : ∀ i, 0 < i → (1 : Nat).testBit i = false := fun i hi => by rw [show (1 : Nat) = 2 ^ 0 from rfl, Nat.testBit_two_pow]; exact decide_eq_false (by omega)
  refine ⟨fun i hi => b1 i (by have := h.1; omega), by decide, fun c i h1 h2 => ?_⟩
  have := (cn_spec h hk h1 i (by omega)).1
  rw [b1 _ (by omega)]
  exact ⟨fun q => absurd q (by decide), fun q => absurd q.1 (Nat.not_lt_zero _)⟩
theorem stdR {N a b : Nat} {c : Int32} (hc : pw c = 4) (ha : a < 8) (hb : b < 8) : fX12_stands N c (nI a) (nI b) = some (if rl c a b = true then 1 else 0) := by
  obtain ⟨h1, h2, h3⟩ := st8 a ha b hb
  rcases pw4 hc with e | e | e <;> subst e
  · refine Eq.trans h1 ?_
    by_cases q : a < b
    · rw [if_pos q, if_pos (show rl 60 a b = true from decide_eq_true q)]
    · rw [if_neg q, if_neg (show ¬ rl 60 a b = true from fun c => q (of_decide_eq_true c))]
  · refine Eq.trans h3 ?_
    by_cases q : a = b
    · rw [if_pos q, if_pos (show rl 61 a b = true from decide_eq_true q)]
    · rw [if_neg q, if_neg (show ¬ rl 61 a b = true from fun c => q (of_decide_eq_true c))]
  · refine Eq.trans h2 ?_
    by_cases q : b < a
    · rw [if_pos q, if_pos (show rl 62 a b = true from decide_eq_true q)]
    · rw [if_neg q, if_neg (show ¬ rl 62 a b = true from fun c => q (of_decide_eq_true c))]
theorem runM {N k x s xi : Nat} {sg ns nz nm vs : Nat → Int32} (hN : 60 ≤ N) (h : WF sg k) (hk : k ≤ 24) (hc : ∀ i, i < k → ∃ c, 33 ≤ c ∧ c < 127 ∧ sg i = nI c) (hxi : xi < 2) (hM : MT sg k xi ns nz nm) (hx : x < 512) (hs : RS sg k x k s) : ∃ vs', fX12_runsOf N ns nz nm (nI xi) (nI x) vs = some (nI s, vs') := by
  obtain ⟨vs', e, hv⟩ := st_ownM (N := N) (vs := vs) hN h hk hc hxi hx hM
  obtain ⟨m1, m2, m3⟩ := hM
  rw [fX12_runsOf, e, Option.bind_some, show (24 : Int32) * nI xi = nI (24 * xi) by rw [show (24 : Int32) = nI 24 from rfl, pk_mul]]
  obtain ⟨s', e1, e2⟩ := lp (m := k) (g := fun n j (s : Nat) => bX12_runsOf_20 N ns nz nm n (nI xi) (nI (24 * xi)) (nI s) (nI j) vs') (fun j s => MS sg k x j s) (fun s => some (nI s, vs')) (fun n s hs => by
    rw [bX12_runsOf_20, un_bnd hxi (by decide), un_cl (by omega), m3, if_pos (nI_le (Nat.le_refl _) (by omega))]) (fun n c s hcl hs => by
    obtain ⟨cc, c1, c2, c3⟩ := hc c hcl
    obtain ⟨hw3, hwm, -⟩ := wn_cases h hcl
    have hl : s < 2 ^ k := Nat.lt_pow_two_of_testBit s (fun i hi => hs.1 i hi)
    have hl2 : s < 2 ^ 24 := Nat.lt_of_lt_of_le hl (Nat.pow_le_pow_right (by decide) (by omega))
    rw [bX12_runsOf_20, un_bnd hxi (by decide), un_cl (show xi < 2 ^ 31 by omega), m3, if_neg (nI_ge hcl (by omega)), nI_add, un_bnd (show 24 * xi + c < 48 by omega) (by decide), un_cl (show 24 * xi + c < 2 ^ 31 by omega), m1 c hcl, c3, pwX12 c2 c1, Option.bind_some, ← c3, hwm, nI_1 c, bitM (by omega) (by omega), tb_1]
    have nxt : ∀ j, j < wn sg c → cn sg c j < k ∧ nI (cn sg c j) + nz (24 * xi + cn sg c j) = nI (cn sg c (j + 1)) := fun j hj => by
      obtain ⟨g1, -, -, -, g5⟩ := cn_spec h (by omega) hcl j (by omega)
      have g2 := g5 hj
      obtain ⟨f1, -⟩ := en_spec h (by omega) g2
      refine ⟨g2, ?_⟩
      rw [m2 _ g2, nI_add]
      congr 1
      show _ = en sg (cn sg c j)
      omega
    have same : (wn sg c = 0 ∨ s.testBit c = false) → MS sg k x (c + 1) s := fun q => MS_step h (by omega) hcl hs (fun i => ⟨Or.inl, fun z => z.elim id (fun ⟨a, a1, a2, a3, a4⟩ => by
      rcases q with q | q
      · omega
      · rw [q] at a3; cases a3)⟩)
    by_cases w0 : wn sg c = 0
    · rw [w0, if_pos (show nI 0 ≤ 0 by decide)]
      exact ⟨s, rfl, same (Or.inl w0)⟩
    rw [if_neg (show ¬ nI (wn sg c) ≤ 0 from by rcases hw3 with q | q | q <;> rw [q] <;> first | exact absurd q w0 | decide)]
    cases qb : s.testBit c
    · rw [if_neg (show ¬ (false = true) by decide), if_neg (show ¬ nI 0 = 1 by decide)]
      exact ⟨s, rfl, same (Or.inr qb)⟩
    rw [if_pos rfl, if_pos (show nI 1 = 1 from rfl)]
    obtain ⟨k0, (n0 : _ = nI (cn sg c 1))⟩ := nxt 0 (by omega)
    obtain ⟨k1, (n1 : _ = nI (cn sg c 2))⟩ := nxt 1 (by omega)
    have e0 : c + 1 = cn sg c 0 := rfl
    have eb : nI (24 * xi + c) + (1 : Int32) = nI (24 * xi + cn sg c 0) := nI_1 (24 * xi + c)
    rw [eb, un_bnd (show 24 * xi + cn sg c 0 < 48 by omega) (by decide), un_cl (show 24 * xi + cn sg c 0 < 2 ^ 31 by omega), show nI (c + 1) + nz (24 * xi + cn sg c 0) = nI (cn sg c 1) from n0, bX12_runsOf_79, show nI c + (1 : Int32) = nI (cn sg c 0) from nI_1 c, sh24 _ (show cn sg c 0 < 24 by omega), sh24 _ (show cn sg c 1 < 24 by omega), nx_or', nx_or', bX12_runsOf_95]
    have t01 : ∀ i, (s ||| (2 ^ cn sg c 0 ||| 2 ^ cn sg c 1)).testBit i = true ↔ (s.testBit i = true ∨ i = cn sg c 0 ∨ i = cn sg c 1) := fun i => by
      rw [Nat.testBit_or, Nat.testBit_or, Nat.testBit_two_pow, Nat.testBit_two_pow, Bool.or_eq_true, Bool.or_eq_true, decide_eq_true_iff, decide_eq_true_iff]
      exact ⟨fun q => q.elim Or.inl (fun q => Or.inr (q.elim (fun q => Or.inl q.symm) (fun q => Or.inr q.symm))), fun q => q.elim Or.inl (fun q => Or.inr (q.elim (fun q => Or.inl q.symm) (fun q => Or.inr q.symm)))⟩
    rcases hw3 with q | q | q
    · exact absurd q w0
    · rw [q, if_neg (show ¬ nI 2 = 4 by decide), nI_1 c]
      refine ⟨_, rfl, MS_step h (by omega) hcl hs (fun i => ?_)⟩
      rw [t01 i]
      constructor
      · rintro (z | z | z)
        · exact Or.inl z
        · exact Or.inr ⟨0, by omega, z, qb, rfl⟩
        · exact Or.inr ⟨1, by omega, z, qb, rfl⟩
      · rintro (z | ⟨a, a1, a2, -⟩)
        · exact Or.inl z
        · rcases (show a = 0 ∨ a = 1 by omega) with e | e <;> subst e
          · exact Or.inr (Or.inl a2)
          · exact Or.inr (Or.inr a2)
    · obtain ⟨k2, (n2 : _ = nI (cn sg c 3))⟩ := nxt 2 (by omega)
      obtain ⟨k3, n3⟩ := nxt 3 (by omega)
      have hp4 : pw (sg c) = 4 := by rw [hwm, q]; rfl
      rw [q, if_pos (show nI 4 = 4 from rfl), nI_add, un_bnd (show 24 * xi + cn sg c 1 < 48 by omega) (by decide), un_cl (show 24 * xi + cn sg c 1 < 2 ^ 31 by omega), n1, bX12_runsOf_115, nI_add, un_bnd (show 24 * xi + cn sg c 2 < 48 by omega) (by decide), un_cl (show 24 * xi + cn sg c 2 < 2 ^ 31 by omega), n2, bX12_runsOf_129, nI_add, un_bnd (show 24 * xi + c < 48 by omega) (by decide), show nI c + (1 : Int32) = nI (cn sg c 0) from nI_1 c, un_bnd (show cn sg c 0 < 24 by omega) (by decide), un_bnd (show cn sg c 1 < 24 by omega) (by decide), un_cl (show 24 * xi + c < 2 ^ 31 by omega), un_cl (show cn sg c 0 < 2 ^ 31 by omega), un_cl (show cn sg c 1 < 2 ^ 31 by omega), m1 c hcl, hv _ k0, hv _ k1, stdR hp4 val_lt val_lt, Option.bind_some, if10, sh24 _ (show cn sg c 2 < 24 by omega), sh24 _ (show cn sg c 3 < 24 by omega), nx_or', nx_or']
      have fin : ∀ a, (a = 2 ∨ a = 3) → (∀ b, (b = 2 ∨ b = 3) → (tkB sg x c b = true ↔ b = a)) → MS sg k x (c + 1) (s ||| (2 ^ cn sg c 0 ||| 2 ^ cn sg c 1) ||| 2 ^ cn sg c a) := fun a ha hb => MS_step h (by omega) hcl hs (fun i => by
        rw [Nat.testBit_or, Nat.testBit_two_pow, Bool.or_eq_true, t01 i, decide_eq_true_iff]
        constructor
        · rintro ((z | z | z) | z)
          · exact Or.inl z
          · exact Or.inr ⟨0, by omega, z, qb, rfl⟩
          · exact Or.inr ⟨1, by omega, z, qb, rfl⟩
          · exact Or.inr ⟨a, by omega, z.symm, qb, (hb a ha).mpr rfl⟩
        · rintro (z | ⟨b, a1, a2, a3, a4⟩)
          · exact Or.inl (Or.inl z)
          · rcases (show b = 0 ∨ b = 1 ∨ (b = 2 ∨ b = 3) by omega) with e | e | e
            · subst e; exact Or.inl (Or.inr (Or.inl a2))
            · subst e; exact Or.inl (Or.inr (Or.inr a2))
            · have := (hb b e).mp a4
              subst this
              exact Or.inr a2.symm)
      have eH : H4 sg x c = rl (sg c) (val sg sg x (cn sg c 0)) (val sg sg x (cn sg c 1)) := rfl
      rw [← eH]
      by_cases qh : H4 sg x c = true
      · rw [if_pos qh]
        refine ⟨_, rfl, fin 2 (Or.inl rfl) (fun b hb => ?_)⟩
        rcases hb with e | e <;> subst e
        · exact ⟨fun _ => rfl, fun _ => qh⟩
        · exact ⟨fun z => (by rw [show tkB sg x c 3 = !(H4 sg x c) from rfl, qh] at z; exact absurd z (by decide)), fun z => by omega⟩
      · rw [if_neg qh]
        refine ⟨_, rfl, fin 3 (Or.inr rfl) (fun b hb => ?_)⟩
        rcases hb with e | e <;> subst e
        · exact ⟨fun z => absurd z qh, fun z => by omega⟩
        · exact ⟨fun _ => rfl, fun _ => by rw [show tkB sg x c 3 = !(H4 sg x c) from rfl, Bool.eq_false_iff.mpr qh]; rfl⟩) k 0 N 1 (by omega) (by omega) (MS_one h (by omega))
  have es := RS_uniq h (by omega) (MS_end e2) hs
  subst es
  exact ⟨vs', e1⟩
theorem s_runs {N k0 k1 : Nat} {s0 w0 o0 l0 p0 n0 s1 w1 o1 l1 p1 n1 ns nz nm vs : Nat → Int32} {wl wm wh who : Nat → Int64} {x1 x2 : Int32} (hN : 600 ≤ N) (h0 : TX s0 k0 w0 o0 l0 p0 n0) (m0 : MT s0 k0 0 ns nz nm) (h1 : TX s1 k1 w1 o1 l1 p1 n1) (m1 : MT s1 k1 1 ns nz nm) :
    ∃ r wl' wm' wh' who' vs', fX11_runs N s0 w0 o0 l0 n0 (nI k0) s1 w1 o1 l1 n1 (nI k1) x1 x2 wl wm wh who = some (r, wl', wm', wh', who') ∧ fX12_runs N ns nz nm x1 x2 vs = some (r, vs') := by
  rw [fX11_runs, fX12_runs, isTxC, inH (n := 2) (by rfl) (by decide), Option.bind_some, Option.bind_some, if01, if01]
  rcases part_cases x1 with c | ⟨c, e⟩
  · rw [if_pos c, if_pos c]; exact ⟨_, wl, wm, wh, who, vs, rfl, rfl⟩
  rw [if_neg c, if_neg c, isInC, arInM, Option.bind_some, Option.bind_some, if01, if01]
  by_cases c3 : x2 < 0 ∨ nI 512 ≤ x2
  · rw [if_pos c3, if_pos c3]; exact ⟨_, wl, wm, wh, who, vs, rfl, rfl⟩
  rw [if_neg c3, if_neg c3]
  obtain ⟨x, hx, rfl⟩ := inx (by decide) c3
  rcases e with e | e
  · subst e
    obtain ⟨s, hs⟩ := RS_ex (x := x) h0.1 (by have := h0.2.1; omega)
    obtain ⟨a1, a2, a3, a4, q1⟩ := runC (N := N) (wl := wl) (wm := wm) (wh := wh) (who := who) (by omega) h0 hx hs
    obtain ⟨vs', q2⟩ := runM (N := N) (vs := vs) (by omega) h0.1 h0.2.1 h0.2.2.1 (show 0 < 2 by decide) m0 hx hs
    rw [if_pos rfl, q1, show fX12_runsOf N ns nz nm 0 (nI x) vs = _ from q2, Option.bind_some, Option.bind_some]
    exact ⟨_, a1, a2, a3, a4, vs', rfl, rfl⟩
  · subst e
    obtain ⟨s, hs⟩ := RS_ex (x := x) h1.1 (by have := h1.2.1; omega)
    obtain ⟨a1, a2, a3, a4, q1⟩ := runC (N := N) (wl := wl) (wm := wm) (wh := wh) (who := who) (by omega) h1 hx hs
    obtain ⟨vs', q2⟩ := runM (N := N) (vs := vs) (by omega) h1.1 h1.2.1 h1.2.2.1 (show 1 < 2 by decide) m1 hx hs
    rw [if_neg (by decide), if_pos rfl, q1, show fX12_runsOf N ns nz nm 1 (nI x) vs = _ from q2, Option.bind_some, Option.bind_some]
    exact ⟨_, a1, a2, a3, a4, vs', rfl, rfl⟩
