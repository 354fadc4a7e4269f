/-! the pad: say, wipe, fault -/
def IPad (k : Nat) (ps ms : Nat → Int32) : Prop := k ≤ 40 ∧ ∀ i, i < k → ps i = ms i ∧ ∃ c, 33 ≤ c ∧ c < 127 ∧ ps i = nI c
theorem st_say {N k : Nat} {ps ms : Nat → Int32} {x : Int32} (h : IPad k ps ms) : ∃ (r : Int32) (ps' ms' : Nat → Int32) (k' : Nat), fX11_say N x ps (nI k) = some (r, ps', nI k') ∧ fX12_say N x ms (nI k) = some (r, ms', nI k') ∧ IPad k' ps' ms' := by
  have h1 : x < (33 : Int32) ↔ x.toInt < 33 := Int32.lt_iff_toInt_lt
  have h2 : x ≤ (126 : Int32) ↔ x.toInt ≤ 126 := Int32.le_iff_toInt_le
  rw [fX11_say, fX12_say, inI, Option.bind_some]
  show ∃ (r : Int32) (ps' ms' : Nat → Int32) (k' : Nat), _ ∧ (if (if (33 : Int) ≤ x.toInt ∧ x.toInt ≤ 126 then (1 : Int32) else 0) = 0 then _ else _) = _ ∧ _
  by_cases c1 : x.toInt < 33
  · rw [if_pos (h1.mpr c1), if_neg (show ¬ ((33 : Int) ≤ x.toInt ∧ x.toInt ≤ 126) by omega), if_pos rfl]
    exact ⟨_, _, _, k, rfl, rfl, h⟩
  · rw [if_neg (fun q => c1 (h1.mp q))]
    by_cases c2 : x.toInt ≤ 126
    · rw [if_pos (h2.mpr c2), if_pos (show ((33 : Int) ≤ x.toInt ∧ x.toInt ≤ 126) by omega), if_neg (show ¬ (1 : Int32) = 0 by decide)]
      by_cases c3 : k = 40
      · subst c3
        rw [if_neg (show ¬ nI 40 < (40 : Int32) by decide), if_pos (show nI 40 = (40 : Int32) from rfl)]
        exact ⟨_, _, _, 40, rfl, rfl, h⟩
      · have hk : k < 40 := Nat.lt_of_le_of_ne h.1 c3
        rw [if_pos (show nI k < (40 : Int32) from nI_lt hk (by decide)), if_neg (show ¬ nI k = (40 : Int32) from fun q => c3 ((nI_eq (by omega) (by decide)).mp q)), un_bnd hk (by decide), un_bnd hk (by decide)]
        refine ⟨_, _, _, k + 1, by rw [← nI_1], by rw [← nI_1], by omega, fun i hi => ?_⟩
        rw [un_ub (by omega), un_ub (by omega)]
        by_cases q : i = k
        · rw [if_pos q, if_pos q]
          have e0 : (33 : Int) ≤ x.toInt := by omega
          refine ⟨rfl, x.toInt.toNat, by omega, by omega, ?_⟩
          apply Int32.toInt_inj.mp
          rw [nI_toInt (by omega)]
          omega
        · rw [if_neg q, if_neg q]
          exact h.2 i (by omega)
    · rw [if_neg (fun q => c2 (h2.mp q)), if_neg (show ¬ ((33 : Int) ≤ x.toInt ∧ x.toInt ≤ 126) by omega), if_pos rfl]
      exact ⟨_, _, _, k, rfl, rfl, h⟩
theorem pw_cases (c : Int32) : pw c = 2 ∨ pw c = 4 ∨ pw c = 0 ∨ pw c = -1 := by
  unfold pw
  split
  · exact Or.inl rfl
  · split
    · exact Or.inr (Or.inl rfl)
    · split
      · exact Or.inr (Or.inr (Or.inl rfl))
      · exact Or.inr (Or.inr (Or.inr rfl))
def Wt (sg : Nat → Int32) : Nat → Int
  | 0 => 1
  | p + 1 => Wt sg p + (pw (sg p)).toInt - 1
def sumL (l : Nat → Nat) : Nat → Nat
  | 0 => l 0
  | o + 1 => sumL l o + l (o + 1)
theorem sumL_congr {l l' : Nat → Nat} : ∀ o, (∀ j, j ≤ o → l j = l' j) → sumL l o = sumL l' o := by
  intro o
  induction o with
  | zero => intro h; exact h 0 (Nat.le_refl 0)
  | succ o ih => intro h; show sumL l o + l (o + 1) = sumL l' o + l' (o + 1); rw [ih (fun j hj => h j (by omega)), h (o + 1) (Nat.le_refl _)]
theorem sumL_top {l : Nat → Nat} {m : Nat} : ∀ o, m ≤ o → (∀ j, m < j → j ≤ o → l j = 0) → sumL l o = sumL l m := by
  intro o
  induction o with
  | zero => intro h _; rw [show m = 0 by omega]
  | succ o ih =>
    intro h hz
    by_cases q : m = o + 1
    · rw [q]
    · show sumL l o + l (o + 1) = _
      rw [ih (by omega) (fun j h1 h2 => hz j h1 (by omega)), hz (o + 1) (by omega) (Nat.le_refl _)]
      rfl
theorem sumL_ge {l : Nat → Nat} : ∀ o, l o ≤ sumL l o := by
  intro o
  cases o with
  | zero => exact Nat.le_refl _
  | succ o => show l (o + 1) ≤ sumL l o + l (o + 1); omega
theorem sumL_dec {l : Nat → Nat} {o : Nat} (h : l o ≠ 0) : sumL (fun j => if j = o then l o - 1 else l j) o + 1 = sumL l o := by
  cases o with
  | zero => show (if 0 = 0 then l 0 - 1 else l 0) + 1 = l 0; rw [if_pos rfl]; omega
  | succ o =>
    show sumL _ o + (if o + 1 = o + 1 then l (o + 1) - 1 else l (o + 1)) + 1 = sumL l o + l (o + 1)
    rw [if_pos rfl, sumL_congr (l' := l) o (fun j hj => if_neg (by omega))]
    omega
theorem dl_pos {N m : Nat} {lk : Nat → Int32} (hm : ¬ lk m = 0) : ∀ d n, m ≤ d → d < 10 → (∀ j, m < j → j ≤ d → lk j = 0) → d < n → bX5_deepestLack_2 N lk n (nI d) = some (nI m) := by
  intro d
  induction d with
  | zero =>
    intro n h1 h2 h3 h4
    obtain ⟨n, rfl⟩ : ∃ k, n = k + 1 := ⟨n - 1, by omega⟩
    have e : m = 0 := by omega
    subst e
    rw [bX5_deepestLack_2, if_neg (nI_pos (by decide)), un_bnd (by omega) (by decide), un_cl (by decide), if_neg hm]
  | succ d ih =>
    intro n h1 h2 h3 h4
    obtain ⟨n, rfl⟩ : ∃ k, n = k + 1 := ⟨n - 1, by omega⟩
    rw [bX5_deepestLack_2, if_neg (nI_pos (by omega)), un_bnd h2 (by decide), un_cl (by omega)]
    by_cases q : m = d + 1
    · subst q
      rw [if_neg hm]
    · rw [if_pos (h3 (d + 1) (by omega) (Nat.le_refl _)), pk_m1]
      exact ih n (by omega) (by omega) (fun j g1 g2 => h3 j g1 (by omega)) (by omega)
theorem dl_neg {N : Nat} {lk : Nat → Int32} : ∀ d n, d < 10 → (∀ j, j ≤ d → lk j = 0) → d + 1 < n → bX5_deepestLack_2 N lk n (nI d) = some (-1) := by
  intro d
  induction d with
  | zero =>
    intro n h2 h3 h4
    obtain ⟨n, rfl⟩ : ∃ k, n = k + 1 := ⟨n - 1, by omega⟩
    obtain ⟨n, rfl⟩ : ∃ k, n = k + 1 := ⟨n - 1, by omega⟩
    rw [bX5_deepestLack_2, if_neg (nI_pos (by decide)), un_bnd (by omega) (by decide), un_cl (by decide), if_pos (h3 0 (Nat.le_refl 0))]
    rfl
  | succ d ih =>
    intro n h2 h3 h4
    obtain ⟨n, rfl⟩ : ∃ k, n = k + 1 := ⟨n - 1, by omega⟩
    rw [bX5_deepestLack_2, if_neg (nI_pos (by omega)), un_bnd h2 (by decide), un_cl (by omega), if_pos (h3 (d + 1) (Nat.le_refl _)), pk_m1]
    exact ih n (by omega) (fun j g => h3 j (by omega)) (by omega)
/-- the reference takes full ones off -/
theorem pop_m {N : Nat} {ms : Nat → Int32} {sm x3 : Int32} {k6 : Int32 → Int32 → Int32 → (Nat → Int32) → Option (Int32 × (Nat → Int32))} {l : Nat → Nat} (hl4 : ∀ i, l i ≤ 4) : ∀ (j n : Nat) (due : Nat → Int32), 1 ≤ j → j ≤ 10 → due j = 0 → (∀ i, 1 ≤ i → i < j → due i = nI (l i + 1)) → j < n →
    ∃ (m : Nat) (due' : Nat → Int32), m < j ∧ (m = 0 ∨ l m ≠ 0) ∧ (∀ i, m < i → i < j → l i = 0) ∧ bX12_fault_58 N ms sm k6 n (nI j) x3 due = bX12_fault_87 N ms sm k6 (nI m) x3 due' ∧ (∀ i, 1 ≤ i → i < m → due' i = nI (l i + 1)) ∧ (m ≠ 0 → due' m = nI (l m)) := by
  intro j
  induction j with
  | zero => intro n due h; omega
  | succ j ih =>
    intro n due _ hj h0 hd hn
    obtain ⟨n, rfl⟩ : ∃ k, n = k + 1 := ⟨n - 1, by omega⟩
    rw [bX12_fault_58, if_neg (nI_nle (by omega) (by omega)), un_bnd (by omega) (by decide), un_cl (by omega), if_pos h0, pk_m1, un_bnd (by omega) (by decide)]
    by_cases hj0 : j = 0
    · subst hj0
      obtain ⟨n, rfl⟩ : ∃ k, n = k + 1 := ⟨n - 1, by omega⟩
      refine ⟨0, upd due (Int32.toNatClampNeg (nI 0)) (due (Int32.toNatClampNeg (nI 0)) - 1), by omega, Or.inl rfl, fun i h1 h2 => by omega, ?_, fun i h1 h2 => by omega, fun q => absurd rfl q⟩
      rw [bX12_fault_58, if_pos (show nI 0 ≤ 0 by decide)]
    · have e1 : ∀ i, upd due (Int32.toNatClampNeg (nI j)) (due (Int32.toNatClampNeg (nI j)) - 1) i = if i = j then nI (l j) else due i := fun i => by
        rw [un_ub (by omega), un_cl (by omega), hd j (by omega) (by omega), nI_pred]
      generalize upd due (Int32.toNatClampNeg (nI j)) (due (Int32.toNatClampNeg (nI j)) - 1) = due1 at e1
      by_cases hz : l j = 0
      · obtain ⟨m, due', g1, g2, g3, g4, g5, g6⟩ := ih n due1 (by omega) (by omega) (by rw [e1, if_pos rfl, hz]; rfl) (fun i h1 h2 => by rw [e1, if_neg (by omega)]; exact hd i h1 (by omega)) (by omega)
        refine ⟨m, due', by omega, g2, fun i h1 h2 => ?_, g4, g5, g6⟩
        by_cases q : i = j
        · rw [q]; exact hz
        · exact g3 i h1 (by omega)
      · obtain ⟨n, rfl⟩ : ∃ k, n = k + 1 := ⟨n - 1, by omega⟩
        refine ⟨j, due1, by omega, Or.inr hz, fun i h1 h2 => by omega, ?_, fun i h1 h2 => ?_, fun _ => by rw [e1, if_pos rfl]⟩
        · rw [bX12_fault_58, if_neg (nI_nle (by omega) (by omega)), un_bnd (by omega) (by decide), un_cl (by omega), e1, if_pos rfl, if_neg (nI_ne0 (by omega) (by have := hl4 j; omega))]
        · rw [e1, if_neg (by omega)]; exact hd i h1 (by omega)

def FS (sg : Nat → Int32) (d p : Nat) (lk due : Nat → Int32) (x1 x2 : Int32) : Prop := d ≤ 9 ∧ ((x1 = 0 ∧ x2 = 1 ∧ (∀ j, j ≤ d → lk j = 0) ∧ Wt sg p = 0) ∨ (x2 = 0 ∧ ∃ (o : Nat) (l : Nat → Nat), x1 = nI o ∧ o ≤ d ∧ (∀ j, j ≤ d → lk j = nI (l j)) ∧ (∀ j, l j ≤ 4) ∧ l o ≠ 0 ∧ (∀ j, o < j → j ≤ d → l j = 0) ∧ (∀ i, 1 ≤ i → i < o → due i = nI (l i + 1)) ∧ (o ≠ 0 → due o = nI (l o)) ∧ (o = 0 → l 0 = 1) ∧ (o ≠ 0 → l 0 = 0) ∧ (sumL l o : Int) = Wt sg p))
/-- what a pad without fault is -/
def WF (sg : Nat → Int32) (k : Nat) : Prop := 1 ≤ k ∧ (∀ i, i < k → pw (sg i) = 0 ∨ pw (sg i) = 2 ∨ pw (sg i) = 4) ∧ (∀ p, p < k → 0 < Wt sg p) ∧ Wt sg k = 0
theorem fault_sim {N k : Nat} {ps ms : Nat → Int32} (hN : 60 ≤ N) (h : IPad k ps ms) : ∀ (rem p : Nat), p + rem = k → ∀ (nA nB d : Nat) (lk due : Nat → Int32) (x1 x2 : Int32), rem < nA → rem < nB → (∀ i, i < p → pw (ps i) = 0 ∨ pw (ps i) = 2 ∨ pw (ps i) = 4) → (∀ q, q < p → 0 < Wt ps q) → FS ps d p lk due x1 x2 →
    ∃ (r : Int32) (lk' due' : Nat → Int32), bX5_firstFault_11 N ps (nI k) nA (nI d) (nI p) lk = some (r, lk') ∧ bX12_fault_6 N ms (nI k) nB x1 x2 (nI p) due = some (r, due') ∧ ((r = -6 ∧ (∀ i, i < k → pw (ps i) = 0 ∨ pw (ps i) = 2 ∨ pw (ps i) = 4) ∧ (∀ q, q < k → 0 < Wt ps q) ∧ Wt ps k = 0) ∨ ∃ j, j ≤ 40 ∧ r = nI j) := by
  have hk40 := h.1
  intro rem
  induction rem with
  | zero =>
    intro p hp nA nB d lk due x1 x2 hA hB hw hpos hF
    obtain ⟨nA, rfl⟩ : ∃ k, nA = k + 1 := ⟨nA - 1, by omega⟩
    obtain ⟨nB, rfl⟩ : ∃ k, nB = k + 1 := ⟨nB - 1, by omega⟩
    have e : p = k := by omega
    subst e
    rw [bX5_firstFault_11, bX12_fault_6, if_pos (nI_le (Nat.le_refl p) (by omega)), if_pos (nI_le (Nat.le_refl p) (by omega))]
    obtain ⟨hd9, ⟨e1, e2, hz, hW⟩ | ⟨e2, o, l, e1, ho, hlk, hl4, hlo, hz, hd1, hd2, h01, h02, hs⟩⟩ := hF
    · rw [fX5_deepestLack, dl_neg d N (by omega) hz (by omega), Option.bind_some, if_neg (show ¬ (0 : Int32) ≤ -1 by decide), e2, if_neg (show ¬ (1 : Int32) = 0 by decide)]
      exact ⟨_, _, _, rfl, rfl, Or.inl ⟨rfl, hw, hpos, hW⟩⟩
    · have hne : ¬ lk o = 0 := by rw [hlk o ho]; exact nI_ne0 (by omega) (by have := hl4 o; omega)
      rw [fX5_deepestLack, dl_pos hne d N ho (by omega) (fun j g1 g2 => by rw [hlk j g2, hz j g1 g2]; rfl) (by omega), Option.bind_some, if_pos (nI_pos' (by omega)), e2, if_pos rfl]
      exact ⟨_, _, _, rfl, rfl, Or.inr ⟨p, by omega, rfl⟩⟩
  | succ rem ih =>
    intro p hp nA nB d lk due x1 x2 hA hB hw hpos hF
    obtain ⟨nA, rfl⟩ : ∃ k, nA = k + 1 := ⟨nA - 1, by omega⟩
    obtain ⟨nB, rfl⟩ : ∃ k, nB = k + 1 := ⟨nB - 1, by omega⟩
    have hpk : p < k := by omega
    obtain ⟨hsame, cc, hc33, hc127, hcv⟩ := h.2 p hpk
    rw [bX5_firstFault_11, bX12_fault_6, if_neg (nI_ge hpk (by omega)), if_neg (nI_ge hpk (by omega)), un_bnd (show p < 40 by omega) (by decide), un_cl (by omega), ← hsame, hcv, pwX12 hc127 hc33, Option.bind_some]
    obtain ⟨hd9, ⟨e1, e2, hz, hW⟩ | ⟨e2, o, l, e1, ho, hlk, hl4, hlo, hz, hd1, hd2, h01, h02, hs⟩⟩ := hF
    · rw [fX5_deepestLack, dl_neg d N (by omega) hz (by omega), Option.bind_some, if_pos (show (-1 : Int32) < 0 by decide), e2, if_neg (show ¬ (1 : Int32) = 0 by decide)]
      exact ⟨_, _, _, rfl, rfl, Or.inr ⟨p, by omega, rfl⟩⟩
    · have hne : ¬ lk o = 0 := by rw [hlk o ho]; exact nI_ne0 (by omega) (by have := hl4 o; omega)
      rw [fX5_deepestLack, dl_pos hne d N ho (by omega) (fun j g1 g2 => by rw [hlk j g2, hz j g1 g2]; rfl) (by omega), Option.bind_some, if_neg (nI_pos (by omega)), un_bnd (show p < 40 by omega) (by decide), un_cl (by omega), fX5_mayStand, pwX9 (by omega) hc127 hc33, Option.bind_some, e2, if_pos rfl]
      have hWp : Wt ps (p + 1) = Wt ps p + (pw (nI cc)).toInt - 1 := by rw [← hcv]; rfl
      have hpos' : ∀ q, q < p + 1 → 0 < Wt ps q := fun q hq => by
        by_cases qe : q = p
        · rw [qe, ← hs]; have := sumL_ge (l := l) o; omega
        · exact hpos q (by omega)
      have hdec : ∀ j, upd lk o (lk o - 1) j = if j = o then nI (l o - 1) else lk j := fun j => by
        by_cases q : j = o
        · rw [q, pk_us, if_pos rfl, hlk o ho]
          obtain ⟨v, hv⟩ : ∃ v, l o = v + 1 := ⟨l o - 1, by omega⟩
          rw [hv, nI_pred]
          rfl
        · rw [pk_un q, if_neg q]
      rcases (show (∃ w : Nat, (w = 2 ∨ w = 4) ∧ pw (nI cc) = nI w) ∨ pw (nI cc) = 0 ∨ pw (nI cc) = -1 by
        rcases pw_cases (nI cc) with q | q | q | q
        · exact Or.inl ⟨2, Or.inl rfl, q⟩
        · exact Or.inl ⟨4, Or.inr rfl, q⟩
        · exact Or.inr (Or.inl q)
        · exact Or.inr (Or.inr q)) with ⟨w, hw24, hpw⟩ | hp0 | hpm
      · have hw1 : 1 ≤ w ∧ w ≤ 4 := by omega
        rw [hpw, if_neg (nI_ne0 (by omega) (by omega)), if_neg (nI_nle (by omega) (by omega)), if_neg (nI_pos (by omega)), if_neg (nI_nle (by omega) (by omega)), e1]
        by_cases ho9 : o = 9
        · rw [if_pos (show (9 : Int32) ≤ nI o by rw [ho9]; decide), Option.bind_some, if_pos rfl, if_neg (show ¬ nI o < (9 : Int32) by rw [ho9]; decide)]
          exact ⟨_, _, _, rfl, rfl, Or.inr ⟨p, by omega, rfl⟩⟩
        · rw [if_neg (show ¬ (9 : Int32) ≤ nI o from nI_ge (a := o) (b := 9) (by omega) (by decide)), Option.bind_some, if_neg (show ¬ (1 : Int32) = 0 by decide), un_bnd (show o < 10 by omega) (by decide), Option.bind_some, if_neg (nI_nle (by omega) (by omega)), if_pos (show nI o < (9 : Int32) from nI_lt (a := o) (b := 9) (by omega) (by decide)), bX12_fault_47, nI_1, nI_1, un_bnd (show o + 1 < 41 by omega) (by decide), un_bnd (show o + 1 < 10 by omega) (by decide), un_cl (show o + 1 < 2 ^ 31 by omega)]
          obtain ⟨M, rfl⟩ : ∃ M, N = M + 1 := ⟨N - 1, by omega⟩
          rw [bX12_fault_58, if_neg (nI_nle (by omega) (by omega)), un_bnd (show o + 1 < 41 by omega) (by decide), un_cl (show o + 1 < 2 ^ 31 by omega), pk_us, if_neg (nI_ne0 (by omega) (by omega)), bX12_fault_87, if_neg (nI_ne0 (by omega) (by omega)), nI_1]
          have hsd := sumL_dec hlo
          have hdw : ∀ j, upd due (o + 1) (nI w) j = if j = o + 1 then nI w else due j := fun j => by
            by_cases q : j = o + 1
            · rw [q, pk_us, if_pos rfl]
            · rw [pk_un q, if_neg q]
          have hlw : ∀ j, upd (upd lk o (lk o - 1)) (o + 1) (nI w) j = if j = o + 1 then nI w else if j = o then nI (l o - 1) else lk j := fun j => by
            by_cases q : j = o + 1
            · rw [q, pk_us, if_pos rfl]
            · rw [pk_un q, if_neg q, hdec]
          obtain ⟨l', e3⟩ : ∃ l' : Nat → Nat, ∀ j, l' j = if j = o + 1 then w else if j = o then l o - 1 else l j := ⟨_, fun _ => rfl⟩
          refine ih (p + 1) (by omega) nA nB (o + 1) _ _ _ _ (by omega) (by omega) (fun i hi => ?_) hpos' ⟨by omega, Or.inr ⟨rfl, o + 1, l', rfl, Nat.le_refl _, fun j hj => ?_, fun j => ?_, ?_, fun j h1 h2 => by omega, fun i h1 h2 => ?_, fun _ => ?_, fun q => by omega, fun _ => ?_, ?_⟩⟩
          · by_cases q : i = p
            · rw [q, hcv, hpw]
              rcases hw24 with q2 | q2
              · exact Or.inr (Or.inl (by rw [q2]; rfl))
              · exact Or.inr (Or.inr (by rw [q2]; rfl))
            · exact hw i (by omega)
          · rw [hlw, e3]
            by_cases q : j = o + 1
            · rw [if_pos q, if_pos q]
            · rw [if_neg q, if_neg q]
              by_cases q2 : j = o
              · rw [if_pos q2, if_pos q2]
              · rw [if_neg q2, if_neg q2]; exact hlk j (by omega)
          · rw [e3]
            split
            · exact hw1.2
            · split
              · have := hl4 o; omega
              · exact hl4 j
          · rw [e3, if_pos rfl]; omega
          · rw [hdw, if_neg (by omega), e3, if_neg (by omega)]
            by_cases q : i = o
            · rw [if_pos q, q, hd2 (by omega), show l o - 1 + 1 = l o by omega]
            · rw [if_neg q]; exact hd1 i h1 (by omega)
          · rw [hdw, if_pos rfl, e3, if_pos rfl]
          · rw [e3, if_neg (by omega)]
            by_cases q : o = 0
            · rw [if_pos q.symm, q, h01 q]
            · rw [if_neg (fun q2 => q q2.symm)]; exact h02 q
          · rw [hWp, hpw, nI_toInt (by omega), ← hs]
            show ((sumL l' o + l' (o + 1) : Nat) : Int) = _
            rw [e3, if_pos rfl, sumL_congr (l' := fun j => if j = o then l o - 1 else l j) o (fun j hj => by rw [e3, if_neg (by omega)])]
            omega
      · rw [hp0, if_pos rfl, Option.bind_some, if_neg (show ¬ (1 : Int32) = 0 by decide), un_bnd (show o < 10 by omega) (by decide), Option.bind_some, if_pos (show (0 : Int32) ≤ 0 by decide), if_neg (show ¬ (0 : Int32) < 0 by decide), if_pos (show (0 : Int32) ≤ 0 by decide), bX12_fault_47, e1, nI_1, nI_1, un_bnd (show o + 1 < 41 by omega) (by decide), un_cl (by omega)]
        have hsd := sumL_dec hlo
        obtain ⟨l', hl'⟩ : ∃ l' : Nat → Nat, l' = fun j => if j = o then l o - 1 else l j := ⟨_, rfl⟩
        rw [← hl'] at hsd
        have e3 : ∀ j, l' j = if j = o then l o - 1 else l j := fun j => by rw [hl']
        have hl4' : ∀ j, l' j ≤ 4 := fun j => by
          rw [e3]
          split
          · have := hl4 o; omega
          · exact hl4 j
        have hd0 : ∀ j, upd due (o + 1) 0 j = if j = o + 1 then 0 else due j := fun j => by
          by_cases q : j = o + 1
          · rw [q, pk_us, if_pos rfl]
          · rw [pk_un q, if_neg q]
        have hlk' : ∀ j, j ≤ o → upd lk o (lk o - 1) j = nI (l' j) := fun j hj => by
          rw [hdec, e3]
          by_cases q : j = o
          · rw [if_pos q, if_pos q]
          · rw [if_neg q, if_neg q]; exact hlk j (by omega)
        obtain ⟨m, due', g1, g2, g3, g4, g5, g6⟩ := pop_m (N := N) (ms := ms) (sm := nI k) (x3 := nI p) (k6 := bX12_fault_6 N ms (nI k) nB) hl4' (o + 1) N (upd due (o + 1) 0) (by omega) (by omega) (by rw [hd0, if_pos rfl]) (fun i h1 h2 => by
          rw [hd0, if_neg (by omega), e3]
          by_cases q : i = o
          · rw [if_pos q, q, hd2 (by omega), show l o - 1 + 1 = l o by omega]
          · rw [if_neg q]; exact hd1 i h1 (by omega)) (by omega)
        rw [g4, bX12_fault_87, nI_1]
        have hw' : ∀ i, i < p + 1 → pw (ps i) = 0 ∨ pw (ps i) = 2 ∨ pw (ps i) = 4 := fun i hi => by
          by_cases q : i = p
          · rw [q, hcv]; exact Or.inl hp0
          · exact hw i (by omega)
        have hW1 : Wt ps (p + 1) = (sumL l' o : Int) := by
          rw [hWp, hp0, ← hs]
          show (sumL l o : Int) + 0 - 1 = _
          omega
        have hl00 : o ≠ 0 → l' 0 = 0 := fun q => by rw [e3, if_neg (fun q2 => q q2.symm)]; exact h02 q
        by_cases hm0 : m = 0
        · subst hm0
          rw [if_pos (show nI 0 = 0 from rfl)]
          have hall : ∀ j, j ≤ o → l' j = 0 := fun j hj => by
            by_cases q : j = 0
            · rw [q]
              by_cases q2 : o = 0
              · rw [e3, if_pos q2.symm, q2, h01 q2]
              · exact hl00 q2
            · exact g3 j (by omega) (by omega)
          refine ih (p + 1) (by omega) nA nB o _ due' _ _ (by omega) (by omega) hw' hpos' ⟨by omega, Or.inl ⟨rfl, rfl, fun j hj => by rw [hlk' j hj, hall j hj]; rfl, ?_⟩⟩
          rw [hW1, sumL_top (m := 0) o (by omega) (fun j h1 h2 => hall j h2)]
          show ((l' 0 : Nat) : Int) = 0
          rw [hall 0 (by omega)]
          rfl
        · rw [if_neg (nI_ne0 (n := m) (by omega) (by omega))]
          refine ih (p + 1) (by omega) nA nB o _ due' _ _ (by omega) (by omega) hw' hpos' ⟨by omega, Or.inr ⟨rfl, m, l', rfl, by omega, hlk', hl4', g2.resolve_left hm0, fun j h1 h2 => g3 j h1 (by omega), g5, g6, fun q => absurd q hm0, fun _ => hl00 (by omega), ?_⟩⟩
          rw [hW1, sumL_top (m := m) o (by omega) (fun j h1 h2 => g3 j h1 (by omega))]
      · rw [hpm, if_neg (show ¬ (-1 : Int32) = 0 by decide), if_pos (show (-1 : Int32) ≤ 0 by decide), Option.bind_some, if_pos rfl, if_pos (show (-1 : Int32) < 0 by decide)]
        exact ⟨_, _, _, rfl, rfl, Or.inr ⟨p, by omega, rfl⟩⟩

/-- fault: both answer alike; without a fault the pad is a text -/
theorem st_fault {N k : Nat} {ps ms lk due : Nat → Int32} (hN : 60 ≤ N) (h : IPad k ps ms) : ∃ (r : Int32) (lk' due' : Nat → Int32), fX5_firstFault N ps (nI k) lk = some (r, lk') ∧ fX12_fault N ms (nI k) due = some (r, due') ∧ ((r = -6 ∧ WF ps k) ∨ ∃ j, j ≤ 40 ∧ r = nI j) := by
  have hk := h.1
  have hFS : FS ps 0 0 (upd lk (Int32.toNatClampNeg (0 : Int32)) 1) due 0 0 := by
    refine ⟨by omega, Or.inr ⟨rfl, 0, fun j => if j = 0 then 1 else 0, rfl, by omega, fun j hj => ?_, fun j => ?_, by decide, fun j h1 h2 => by omega, fun i h1 h2 => by omega, fun q => absurd rfl q, fun _ => rfl, fun q => absurd rfl q, rfl⟩⟩
    · have e : j = 0 := by omega
      subst e
      show upd lk 0 1 0 = _
      rw [pk_us]
      rfl
    · show (if j = 0 then 1 else 0) ≤ 4
      split <;> omega
  obtain ⟨r, lk', due', h1, h2, h3⟩ := fault_sim hN h k 0 (by omega) N N 0 _ due 0 0 (by omega) (by omega) (fun i hi => by omega) (fun q hq => by omega) hFS
  refine ⟨r, lk', due', h1, h2, ?_⟩
  rcases h3 with ⟨e, g1, g2, g3⟩ | h3
  · refine Or.inl ⟨e, ?_, g1, g2, g3⟩
    by_cases q : k = 0
    · rw [q] at g3; exact absurd (show (1 : Int) = 0 from g3) (by decide)
    · omega
  · exact Or.inr h3
