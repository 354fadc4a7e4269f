/-! rank -/
def ahD (up lo : Nat → Int32) (i j : Nat) : Int32 := up j * lo i - up i * lo j
def ahB (up lo : Nat → Int32) (i j : Nat) : Bool := decide (0 < ahD up lo i j ∨ (ahD up lo i j = 0 ∧ ¬ i ≤ j))
theorem ah_self {up lo : Nat → Int32} {i : Nat} : ahB up lo i i = false := by
  refine decide_eq_false (fun c => ?_)
  have e : ahD up lo i i = 0 := by unfold ahD; rw [Int32.sub_self]
  rw [e] at c
  rcases c with c | ⟨-, c⟩
  · exact absurd c (by decide)
  · exact c (Nat.le_refl _)
theorem ah_lt {up lo : Nat → Int32} {i k : Nat} (hi : i < k) : cntB (ahB up lo i) k < k := by
  have h1 := cnt_disj (q := ahB up lo i) (q' := fun j => decide (j = i)) k (fun j hj q c => by
    have e : j = i := of_decide_eq_true c
    subst e
    rw [ah_self] at q; cases q)
  have h2 := cnt_pos (q := fun j => decide (j = i)) k i hi (decide_eq_true rfl)
  omega
theorem ah_if {α : Type} {d : Int32} {i j : Nat} {a b : α} (hi : i < 24) (hj : j < 24) : (if 0 < d then a else if d = 0 then (if nI i ≤ nI j then b else a) else b) = if (0 < d ∨ (d = 0 ∧ ¬ i ≤ j)) then a else b := by
  by_cases q : 0 < d
  · rw [if_pos q, if_pos (Or.inl q)]
  rw [if_neg q]
  by_cases q1 : d = 0
  · rw [if_pos q1]
    by_cases q2 : i ≤ j
    · rw [if_pos (nI_le q2 (by omega)), if_neg (fun c => c.elim q (fun c => c.2 q2))]
    · rw [if_neg (nI_ge (by omega) (by omega)), if_pos (Or.inr ⟨q1, q2⟩)]
  · rw [if_neg q1, if_neg (fun c => c.elim q (fun c => q1 c.1))]
theorem ahC {N i k : Nat} {up lo : Nat → Int32} (hN : 600 ≤ N) (hk : k ≤ 24) (hi : i < k) : fX0_howManyAhead N up lo (nI i) (nI k) = some (nI (cntB (ahB up lo i) k)) := by
  rw [fX0_howManyAhead]
  refine lpd (m := k) (g := fun n j (s : Nat) => bX0_howManyAhead_5 N up lo n (nI i) (nI k) (nI s) (nI j)) (fun j => cntB (ahB up lo i) j) (fun n => ?_) (fun n j hj => ?_) k 0 N (by omega) (by omega)
  · rw [bX0_howManyAhead_5, if_pos (nI_le (Nat.le_refl _) (by omega))]
  · rw [bX0_howManyAhead_5, if_neg (nI_ge hj (by omega)), un_bnd (show j < 24 by omega) (by decide), un_bnd (show i < 24 by omega) (by decide), un_cl (show j < 2 ^ 31 by omega), un_cl (show i < 2 ^ 31 by omega), bX0_howManyAhead_42, nI_1 j, ah_if (by omega) (by omega), show up j * lo i - up i * lo j = ahD up lo i j from rfl]
    by_cases q : ahB up lo i j = true
    · rw [if_pos (of_decide_eq_true q), cnt_t q]
    · rw [if_neg (fun c => q (decide_eq_true c)), cnt_f q]
theorem rk21 {N i k : Nat} {up lo up' lo' ns nz nm mt md vs mn ms df rs ow : Nat → Int32} {x1 il ca tt : Int32} {k6 : Int32 → Int32 → (Nat → Int32) → (Int32) → (Int32) → (Nat → Int32) → (Nat → Int32) → (Nat → Int32) → (Nat → Int32) → (Nat → Int32) → (Nat → Int32) → (Nat → Int32) → Option (Int32 × (Nat → Int32) × (Int32) × (Int32) × (Nat → Int32) × (Nat → Int32) × (Nat → Int32) × (Nat → Int32) × (Nat → Int32) × (Nat → Int32) × (Nat → Int32))} (hN : 600 ≤ N) (hk : k ≤ 24) (hnm : nm 0 = nI k) (hi : i < k) (he : ∀ j, j < k → up' j = up j ∧ lo' j = lo j) : bX12_rank_21 N ns nz nm kn0 mt md tt k6 N x1 (nI i) 0 0 vs il ca mn ms df rs ow up' lo' = if nI (cntB (ahB up lo i) k) = x1 then some (nI i, vs, il, ca, mn, ms, df, rs, ow, up', lo') else k6 x1 (nI (i + 1)) vs il ca mn ms df rs ow up' lo' := by
  refine lpd (m := k) (g := fun n j (s : Nat) => bX12_rank_21 N ns nz nm kn0 mt md tt k6 n x1 (nI i) (nI s) (nI j) vs il ca mn ms df rs ow up' lo') (fun j => cntB (ahB up lo i) j) (fun n => ?_) (fun n j hj => ?_) k 0 N (by omega) (by omega)
  · rw [bX12_rank_21, show nm (Int32.toNatClampNeg 0) = nI k from hnm, if_pos (nI_le (Nat.le_refl _) (by omega)), nI_1 i]
  · rw [bX12_rank_21, show nm (Int32.toNatClampNeg 0) = nI k from hnm, if_neg (nI_ge hj (by omega)), un_bnd (show j < 24 by omega) (by decide), un_bnd (show i < 24 by omega) (by decide), un_cl (show j < 2 ^ 31 by omega), un_cl (show i < 2 ^ 31 by omega), bX12_rank_63, nI_1 j, ah_if (by omega) (by omega), (he j hj).1, (he j hj).2, (he i hi).1, (he i hi).2, show up j * lo i - up i * lo j = ahD up lo i j from rfl]
    by_cases q : ahB up lo i j = true
    · rw [if_pos (of_decide_eq_true q), cnt_t q]
    · rw [if_neg (fun c => q (decide_eq_true c)), cnt_f q]
theorem rk_both {N k : Nat} {up lo up' lo' ns nz nm mt md vs mn ms df rs ow : Nat → Int32} {x1 il ca tt : Int32} (hN : 600 ≤ N) (hk : k ≤ 24) (hnm : nm 0 = nI k) (he : ∀ j, j < k → up' j = up j ∧ lo' j = lo j) : ∀ d i nA nB, i + d = k → d < nA → d < nB → ∃ r, bX0_nodeAtPlace_2 N up lo nA x1 (nI k) (nI i) = some r ∧ bX12_rank_6 N ns nz nm kn0 mt md tt nB x1 (nI i) vs il ca mn ms df rs ow up' lo' = some (r, vs, il, ca, mn, ms, df, rs, ow, up', lo') ∧ ((x1 < 0 ∨ nI k ≤ x1) → r = -6) := by
  intro d
  induction d with
  | zero =>
    intro i nA nB hi hA hB
    obtain ⟨nA, rfl⟩ : ∃ z, nA = z + 1 := ⟨nA - 1, by omega⟩
    obtain ⟨nB, rfl⟩ : ∃ z, nB = z + 1 := ⟨nB - 1, by omega⟩
    have e : i = k := by omega
    subst e
    refine ⟨-6, ?_, ?_, fun _ => rfl⟩
    · rw [bX0_nodeAtPlace_2, if_pos (nI_le (Nat.le_refl _) (by omega))]
    · rw [bX12_rank_6, show nm (Int32.toNatClampNeg 0) = nI i from hnm, if_pos (nI_le (Nat.le_refl _) (by omega))]
  | succ d ih =>
    intro i nA nB hi hA hB
    obtain ⟨nA, rfl⟩ : ∃ z, nA = z + 1 := ⟨nA - 1, by omega⟩
    obtain ⟨nB, rfl⟩ : ∃ z, nB = z + 1 := ⟨nB - 1, by omega⟩
    have hlt := ah_lt (up := up) (lo := lo) (i := i) (k := k) (by omega)
    obtain ⟨r, r1, r2, r3⟩ := ih (i + 1) nA nB (by omega) (by omega) (by omega)
    rw [bX0_nodeAtPlace_2, if_neg (nI_ge (show i < k by omega) (by omega)), ahC hN hk (by omega), Option.bind_some, bX12_rank_6, show nm (Int32.toNatClampNeg 0) = nI k from hnm, if_neg (nI_ge (show i < k by omega) (by omega)), rk21 (up := up) (lo := lo) hN hk hnm (by omega) he, nI_1 i]
    by_cases q : nI (cntB (ahB up lo i) k) = x1
    · rw [if_pos q, if_pos q]
      refine ⟨nI i, rfl, rfl, fun c => ?_⟩
      rw [← q] at c
      exact absurd c (fun z => z.elim (nI_pos (by omega)) (nI_ge hlt (by omega)))
    · rw [if_neg q, if_neg q]
      exact ⟨r, r1, r2, r3⟩
theorem s_rank {N k m T k1 : Nat} {sg nd sn ft ns nz nm vs mn ms df rs ow ci cd mt md up lw wa wo pl sp pn s1 w1 o1 l1 n1 bu bl rb : Nat → Int32} {ti td : Nat → Nat} {lo mi hi wl wm wh who : Nat → Int64} {il ca x1 : Int32} (hN : 600 ≤ N) (hX : TX sg k wa wo pl sp pn) (h : LH N sg k m nd sn ft lo mi hi ns nz nm) (hI : IL sg m nd sn ft il ca mn ms df rs ow) (hT : TE T ti td ci cd mt md) :
    ∃ r wl' wm' wh' who' bu' bl' rb' vs' il' ca' mn' ms' df' rs' ow' up' lw', fX11_rank N sg wa wo pl pn (nI k) s1 w1 o1 l1 n1 (nI k1) lo mi hi ci cd (nI T) x1 wl wm wh who bu bl rb = some (r, wl', wm', wh', who', bu', bl', rb') ∧ fX12_rank N ns nz nm kn0 mt md (nI T) x1 vs il ca mn ms df rs ow up lw = some (r, vs', il', ca', mn', ms', df', rs', ow', up', lw') ∧ IL sg m nd sn ft il' ca' mn' ms' df' rs' ow' := by
  have hk := hX.2.1
  obtain ⟨R, hR⟩ := Classical.axiomOfChoice (fun t : Nat => RS_ex (x := ti t) hX.1 (by omega))
  obtain ⟨a1, a2, a3, a4, a5, a6, a7, q1, q2⟩ := weighC (R := R) (wl := wl) (wm := wm) (wh := wh) (who := who) (up := bu) (lw := bl) (rb := rb) hN hX h.rx.2.2.2.1 hT (fun t _ => hR t)
  obtain ⟨vs', il', ca', mn', ms', df', rs', ow', up', lw', p1, p2, p3⟩ := blM (R := R) (vs := vs) (up := up) (lw := lw) hN h hI hT (fun t _ => hR t)
  have he : ∀ j, j < k → up' j = a5 j ∧ lw' j = a6 j := fun j hj => ⟨(p3 j hj).1.trans (q2 j hj).1.symm, (p3 j hj).2.trans (q2 j hj).2.symm⟩
  obtain ⟨r, r1, r2, r3⟩ := rk_both (x1 := x1) (ns := ns) (nz := nz) (mt := mt) (md := md) (vs := vs') (mn := mn') (ms := ms') (df := df') (rs := rs') (ow := ow') (il := il') (ca := ca') (tt := nI T) hN hk h.2.2.2.1.2.2 he k 0 N N (by omega) (by omega) (by omega)
  rw [fX11_rank, fX12_rank, isNoC, Option.bind_some, if01, p1, Option.bind_some]
  dsimp only
  rw [show bX12_rank_6 N ns nz nm kn0 mt md (nI T) N x1 0 vs' il' ca' mn' ms' df' rs' ow' up' lw' = _ from r2]
  by_cases c1 : x1 < 0 ∨ nI k ≤ x1
  · rw [if_pos c1, r3 c1]; exact ⟨_, wl, wm, wh, who, bu, bl, rb, vs', il', ca', mn', ms', df', rs', ow', up', lw', rfl, rfl, p2⟩
  rw [if_neg c1, q1, Option.bind_some]
  dsimp only
  rw [fX0_nodeAtPlace, show bX0_nodeAtPlace_2 N a5 a6 N x1 (nI k) 0 = _ from r1, Option.bind_some]
  exact ⟨r, a1, a2, a3, a4, a5, a6, a7, vs', il', ca', mn', ms', df', rs', ow', up', lw', rfl, rfl, p2⟩
