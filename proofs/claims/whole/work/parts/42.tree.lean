/-! texts: where a text that begins at a place ends; the parts of a node -/
def enF (sg : Nat → Int32) (T : Int) : Nat → Nat → Nat
  | 0, j => j
  | f + 1, j => if Wt sg j = T then j else enF sg T f (j + 1)
theorem enF_eq {sg : Nat → Int32} {T : Int} : ∀ (f j e : Nat), j ≤ e → e < j + f → Wt sg e = T → (∀ m, j ≤ m → m < e → Wt sg m ≠ T) → enF sg T f j = e := by
  intro f
  induction f with
  | zero => intro j e h1 h2; omega
  | succ f ih =>
    intro j e h1 h2 h3 h4
    rw [enF]
    by_cases q : j = e
    · subst q; rw [if_pos h3]
    · rw [if_neg (h4 j (Nat.le_refl j) (by omega))]
      exact ih (j + 1) e (by omega) (by omega) h3 (fun m g1 g2 => h4 m (by omega) g2)
def en (sg : Nat → Int32) (i : Nat) : Nat := enF sg (Wt sg i - 1) 60 (i + 1)
/-- the parts of node i: where each begins; behind the last: where the node ends -/
def cn (sg : Nat → Int32) (i : Nat) : Nat → Nat
  | 0 => i + 1
  | j + 1 => en sg (cn sg i j)
def wn (sg : Nat → Int32) (i : Nat) : Nat := (pw (sg i)).toInt.toNat
theorem wn_cases {sg : Nat → Int32} {k i : Nat} (h : WF sg k) (hi : i < k) : (wn sg i = 0 ∨ wn sg i = 2 ∨ wn sg i = 4) ∧ pw (sg i) = nI (wn sg i) ∧ (pw (sg i)).toInt = (wn sg i : Int) := by
  unfold wn
  rcases h.2.1 i hi with q | q | q <;> rw [q] <;> exact ⟨by decide, by decide, by decide⟩
theorem Wt_succ {sg : Nat → Int32} {k i : Nat} (h : WF sg k) (hi : i < k) : Wt sg (i + 1) = Wt sg i + (wn sg i : Int) - 1 := by
  show Wt sg i + (pw (sg i)).toInt - 1 = _
  rw [(wn_cases h hi).2.2]
theorem en_least {sg : Nat → Int32} {k i : Nat} (h : WF sg k) (hi : i < k) : ∀ d j, j + d = k → i < j → (∀ m, i < m → m < j → Wt sg i ≤ Wt sg m) → ∃ e, j ≤ e ∧ e ≤ k ∧ Wt sg e = Wt sg i - 1 ∧ ∀ m, i < m → m < e → Wt sg i ≤ Wt sg m := by
  have h0 := h.2.2.1 i hi
  have hk := h.2.2.2
  have stepge : ∀ j, i < j → j ≤ k → (∀ m, i < m → m < j → Wt sg i ≤ Wt sg m) → Wt sg i - 1 ≤ Wt sg j := fun j hj hjk hm => by
    obtain ⟨p, rfl⟩ : ∃ p, j = p + 1 := ⟨j - 1, by omega⟩
    have e := Wt_succ h (i := p) (by omega)
    by_cases q : p = i
    · subst q; omega
    · have := hm p (by omega) (by omega); omega
  intro d
  induction d with
  | zero =>
    intro j hj hij hm
    have e : j = k := by omega
    subst e
    exact ⟨j, Nat.le_refl _, Nat.le_refl _, by have := stepge j hij (Nat.le_refl _) hm; omega, hm⟩
  | succ d ih =>
    intro j hj hij hm
    have s1 := stepge j hij (by omega) hm
    by_cases q : Wt sg j = Wt sg i - 1
    · exact ⟨j, Nat.le_refl _, by omega, q, hm⟩
    · obtain ⟨e, g1, g2, g3, g4⟩ := ih (j + 1) (by omega) (by omega) (fun m m1 m2 => by
        by_cases qm : m = j
        · rw [qm]; omega
        · exact hm m m1 (by omega))
      exact ⟨e, by omega, g2, g3, g4⟩
theorem en_spec {sg : Nat → Int32} {k i : Nat} (h : WF sg k) (hk : k ≤ 40) (hi : i < k) : i < en sg i ∧ en sg i ≤ k ∧ Wt sg (en sg i) = Wt sg i - 1 ∧ ∀ m, i < m → m < en sg i → Wt sg i ≤ Wt sg m := by
  obtain ⟨e, g1, g2, g3, g4⟩ := en_least h hi (k - (i + 1)) (i + 1) (by omega) (by omega) (fun m m1 m2 => by omega)
  have ee : en sg i = e := enF_eq 60 (i + 1) e g1 (by omega) g3 (fun m m1 m2 => by have := g4 m (by omega) m2; omega)
  rw [ee]
  exact ⟨by omega, g2, g3, g4⟩
theorem en_uniq {sg : Nat → Int32} {k i e : Nat} (h : WF sg k) (hk : k ≤ 40) (hi : i < k) (h1 : i < e) (h2 : Wt sg e = Wt sg i - 1) (h3 : ∀ m, i < m → m < e → Wt sg i ≤ Wt sg m) : en sg i = e := by
  obtain ⟨g1, g2, g3, g4⟩ := en_spec h hk hi
  rcases Nat.lt_trichotomy (en sg i) e with q | q | q
  · have := h3 _ g1 q; omega
  · exact q
  · have := g4 e h1 q; omega
theorem cn_spec {sg : Nat → Int32} {k i : Nat} (h : WF sg k) (hk : k ≤ 40) (hi : i < k) : ∀ j, j ≤ wn sg i → i < cn sg i j ∧ cn sg i j ≤ k ∧ Wt sg (cn sg i j) = Wt sg i - 1 + ((wn sg i : Int) - j) ∧ (∀ m, i < m → m < cn sg i j → Wt sg i ≤ Wt sg m) ∧ (j < wn sg i → cn sg i j < k) := by
  have h0 := h.2.2.1 i hi
  have lt_k : ∀ p, p ≤ k → 0 < Wt sg p → p < k := fun p hp hw => by
    rcases Nat.lt_or_ge p k with q | q
    · exact q
    · have e : p = k := by omega
      rw [e, h.2.2.2] at hw; omega
  intro j
  induction j with
  | zero =>
    intro _
    have e := Wt_succ h hi
    refine ⟨Nat.lt_succ_self i, hi, by show Wt sg (i + 1) = _; rw [e]; omega, fun m m1 m2 => ?_, fun q => lt_k _ hi ?_⟩
    · have : m < i + 1 := m2
      omega
    · show 0 < Wt sg (i + 1)
      rw [e]; omega
  | succ j ih =>
    intro hj
    obtain ⟨g1, g2, g3, g4, g5⟩ := ih (by omega)
    have hc := g5 (by omega)
    obtain ⟨f1, f2, f3, f4⟩ := en_spec h hk hc
    refine ⟨Nat.lt_trans g1 f1, f2, ?_, fun m m1 m2 => ?_, fun q => lt_k _ f2 ?_⟩
    · show Wt sg (en sg (cn sg i j)) = _
      rw [f3, g3]; omega
    · rcases Nat.lt_or_ge m (cn sg i j) with q | q
      · exact g4 m m1 q
      · by_cases qe : m = cn sg i j
        · rw [qe, g3]; omega
        · have := f4 m (by omega) m2
          omega
    · show 0 < Wt sg (en sg (cn sg i j))
      rw [f3, g3]; omega
theorem cn_end {sg : Nat → Int32} {k i : Nat} (h : WF sg k) (hk : k ≤ 40) (hi : i < k) : cn sg i (wn sg i) = en sg i := by
  obtain ⟨g1, g2, g3, g4, -⟩ := cn_spec h hk hi (wn sg i) (Nat.le_refl _)
  exact (en_uniq h hk hi g1 (by rw [g3]; omega) g4).symm
theorem en_root {sg : Nat → Int32} {k : Nat} (h : WF sg k) (hk : k ≤ 40) : en sg 0 = k :=
  en_uniq h hk h.1 h.1 (by rw [h.2.2.2]; rfl) (fun m m1 m2 => by have := h.2.2.1 m m2; show (1 : Int) ≤ _; omega)
theorem cn_lt {sg : Nat → Int32} {k i : Nat} (h : WF sg k) (hk : k ≤ 40) (hi : i < k) {j : Nat} (hj : j < wn sg i) : cn sg i j < cn sg i (j + 1) := (en_spec h hk ((cn_spec h hk hi j (by omega)).2.2.2.2 hj)).1
theorem cn_mono {sg : Nat → Int32} {k i : Nat} (h : WF sg k) (hk : k ≤ 40) (hi : i < k) {j : Nat} : ∀ d, j + d ≤ wn sg i → cn sg i j ≤ cn sg i (j + d) := by
  intro d
  induction d with
  | zero => intro _; exact Nat.le_refl _
  | succ d ih => intro hd; exact Nat.le_of_lt (Nat.lt_of_le_of_lt (ih (by omega)) (cn_lt h hk hi (by omega)))
/-- what lies between: in an earlier part -/
theorem cn_in {sg : Nat → Int32} {k i c : Nat} (h : WF sg k) (hk : k ≤ 40) (hi : i < k) (hic : i < c) : ∀ j, j ≤ wn sg i → c < cn sg i j → ∃ j', j' < j ∧ cn sg i j' ≤ c ∧ c < cn sg i (j' + 1) := by
  intro j
  induction j with
  | zero => intro _ hc; have : c < i + 1 := hc; omega
  | succ j ih =>
    intro hj hc
    rcases Nat.lt_or_ge c (cn sg i j) with q | q
    · obtain ⟨j', a1, a2, a3⟩ := ih (by omega) q
      exact ⟨j', by omega, a2, a3⟩
    · exact ⟨j, by omega, q, hc⟩
theorem en_nest {sg : Nat → Int32} {k d c : Nat} (h : WF sg k) (hk : k ≤ 40) (hd : d < k) (h1 : d ≤ c) (h2 : c < en sg d) : en sg c ≤ en sg d := by
  obtain ⟨g1, g2, g3, g4⟩ := en_spec h hk hd
  obtain ⟨f1, f2, f3, f4⟩ := en_spec h hk (i := c) (by omega)
  have hw : Wt sg d ≤ Wt sg c := by
    by_cases q : d = c
    · rw [q]; omega
    · exact g4 c (by omega) h2
  rcases Nat.lt_or_ge (en sg d) (en sg c) with q | q
  · have := f4 (en sg d) h2 q; omega
  · exact q
/-- a node has one owner, and one place there -/
theorem own_one {sg : Nat → Int32} {k i c j j' : Nat} (h : WF sg k) (hk : k ≤ 40) (hi : i < k) (hc : c < k) (hj : j < wn sg i) (hj' : j' < wn sg c) (e : cn sg i j = cn sg c j') : i = c ∧ j = j' := by
  have key : ∀ {i c j j' : Nat}, i < k → c < k → j < wn sg i → j' < wn sg c → cn sg i j = cn sg c j' → ¬ i < c := by
    intro i c j j' hi hc hj hj' e hlt
    obtain ⟨g1, g2, g3, g4, g5⟩ := cn_spec h hk hi j (by omega)
    obtain ⟨f1, f2, f3, f4, f5⟩ := cn_spec h hk hc j' (by omega)
    obtain ⟨a, a1, a2, a3⟩ := cn_in h hk hi hlt j (by omega) (by rw [e]; exact f1)
    have hd := (cn_spec h hk hi a (by omega)).2.2.2.2 (by omega)
    have n1 := en_nest h hk hd a2 a3
    have n2 : cn sg c j' < en sg c := by
      rw [← cn_end h hk hc]
      have m1 := cn_mono h hk hc (j := j' + 1) (wn sg c - (j' + 1)) (by omega)
      rw [show j' + 1 + (wn sg c - (j' + 1)) = wn sg c by omega] at m1
      exact Nat.lt_of_lt_of_le (cn_lt h hk hc hj') m1
    have n3 : cn sg i (a + 1) ≤ cn sg i j := by
      have m1 := cn_mono h hk hi (j := a + 1) (j - (a + 1)) (by omega)
      rw [show a + 1 + (j - (a + 1)) = j by omega] at m1
      exact m1
    have n4 : en sg (cn sg i a) = cn sg i (a + 1) := rfl
    omega
  have e1 : i = c := by
    rcases Nat.lt_trichotomy i c with q | q | q
    · exact absurd q (key hi hc hj hj' e)
    · exact q
    · exact absurd q (key hc hi hj' hj e.symm)
  subst e1
  refine ⟨rfl, ?_⟩
  have inj : ∀ {a b : Nat}, a < b → b < wn sg i → cn sg i a < cn sg i b := fun {a b} hab hb => by
    have m1 := cn_mono h hk hi (j := a + 1) (b - (a + 1)) (by omega)
    rw [show a + 1 + (b - (a + 1)) = b by omega] at m1
    exact Nat.lt_of_lt_of_le (cn_lt h hk hi (by omega)) m1
  rcases Nat.lt_trichotomy j j' with q | q | q
  · have := inj q hj'; omega
  · exact q
  · have := inj q hj; omega
