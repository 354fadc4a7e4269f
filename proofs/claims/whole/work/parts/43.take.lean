/-! the class reads a text: take, joinParts -/
theorem Wt_congr {sg sg' : Nat → Int32} {k : Nat} (h : ∀ i, i < k → sg i = sg' i) : ∀ p, p ≤ k → Wt sg p = Wt sg' p := by
  intro p
  induction p with
  | zero => intro _; rfl
  | succ p ih =>
    intro hp
    show Wt sg p + (pw (sg p)).toInt - 1 = Wt sg' p + (pw (sg' p)).toInt - 1
    rw [ih (by omega), h p (by omega)]
theorem WF_congr {sg sg' : Nat → Int32} {k : Nat} (h : ∀ i, i < k → sg i = sg' i) (hw : WF sg k) : WF sg' k :=
  ⟨hw.1, fun i hi => by rw [← h i hi]; exact hw.2.1 i hi, fun p hp => by rw [← Wt_congr h p (by omega)]; exact hw.2.2.1 p hp, by rw [← Wt_congr h k (Nat.le_refl k)]; exact hw.2.2.2⟩
def TXs (sg : Nat → Int32) (k i : Nat) (wa ow pl sp pn : Nat → Int32) : Prop := ∀ c, i ≤ c → c < k → wa c = nI (wn sg c) ∧ sp c = nI (en sg c - c) ∧ ∀ j, j < wn sg c → pn (4 * c + j) = nI (cn sg c j) ∧ ow (cn sg c j) = nI c ∧ pl (cn sg c j) = nI j
theorem wn_le {sg : Nat → Int32} {k i : Nat} (h : WF sg k) (hi : i < k) : wn sg i ≤ 4 := by
  rcases (wn_cases h hi).1 with q | q | q <;> omega
theorem join_loop {N k i : Nat} {sg wa sp : Nat → Int32} (h : WF sg k) (hk : k ≤ 24) (hi : i < k) (hwi : wa i = nI (wn sg i)) (hsp : ∀ c, i < c → c < k → sp c = nI (en sg c - c)) : ∀ (d j n : Nat), j + d = wn sg i → d < n → ∀ (ow pl pn : Nat → Int32),
    (∀ c, i < c → c < k → ∀ j, j < wn sg c → pn (4 * c + j) = nI (cn sg c j) ∧ ow (cn sg c j) = nI c ∧ pl (cn sg c j) = nI j) → (∀ j', j' < j → pn (4 * i + j') = nI (cn sg i j') ∧ ow (cn sg i j') = nI i ∧ pl (cn sg i j') = nI j') →
    ∃ ow' pl' pn', bX9_joinParts_21 N sg (nI k) n (nI i) (nI (cn sg i j)) (nI j) wa ow pl sp pn = some (wa, ow', pl', upd sp i (nI (en sg i - i)), pn') ∧ ow' 0 = ow 0 ∧
      (∀ c, i ≤ c → c < k → ∀ j, j < wn sg c → pn' (4 * c + j) = nI (cn sg c j) ∧ ow' (cn sg c j) = nI c ∧ pl' (cn sg c j) = nI j) := by
  have hk40 : k ≤ 40 := by omega
  have hw4 := wn_le h hi
  intro d
  induction d with
  | zero =>
    intro j n hj hn ow pl pn h1 h2
    obtain ⟨n, rfl⟩ : ∃ m, n = m + 1 := ⟨n - 1, by omega⟩
    have ej : j = wn sg i := by omega
    subst ej
    have hce := cn_end h hk40 hi
    obtain ⟨e1, e2, -, -⟩ := en_spec h hk40 hi
    refine ⟨ow, pl, pn, ?_, rfl, fun c hc1 hc2 j9 hj9 => ?_⟩
    · rw [bX9_joinParts_21, un_bnd (by omega) (by decide), un_cl (by omega), hwi, if_pos (nI_le (Nat.le_refl _) (by omega)), bX9_joinParts_79, un_bnd (by omega) (by decide), un_cl (by omega), hce, pk_sub (by omega)]
    · by_cases q : c = i
      · subst q; exact h2 j9 hj9
      · exact h1 c (by omega) hc2 j9 hj9
  | succ d ih =>
    intro j n hj hn ow pl pn h1 h2
    obtain ⟨n, rfl⟩ : ∃ m, n = m + 1 := ⟨n - 1, by omega⟩
    obtain ⟨g1, g2, -, -, g5⟩ := cn_spec h hk40 hi j (by omega)
    have hck := g5 (by omega)
    obtain ⟨f1, f2, -, -⟩ := en_spec h hk40 hck
    have e4 : (4 : Int32) * nI i + nI j = nI (4 * i + j) := by
      rw [show (4 : Int32) = nI 4 from rfl, pk_mul, nI_add]
    rw [bX9_joinParts_21, un_bnd (by omega) (by decide), un_cl (by omega), hwi, if_neg (nI_ge (by omega) (by omega)), if_neg (nI_ge hck (by omega)), e4, un_bnd (by omega) (by decide), un_bnd (by omega) (by decide), un_cl (by omega), un_cl (by omega), hsp _ g1 hck, nI_add, show cn sg i j + (en sg (cn sg i j) - cn sg i j) = cn sg i (j + 1) by show _ = en sg (cn sg i j); omega, nI_1]
    obtain ⟨ow', pl', pn', r1, r2, r3⟩ := ih (j + 1) n (by omega) (by omega) (upd ow (cn sg i j) (nI i)) (upd pl (cn sg i j) (nI j)) (upd pn (4 * i + j) (nI (cn sg i j))) (fun c hc1 hc2 j' hj' => by
      have hne : cn sg c j' ≠ cn sg i j := fun q => by have := (own_one h hk40 hc2 hi hj' (by omega) q).1; omega
      have h4 := wn_le h hc2
      rw [pk_un (by omega), pk_un hne, pk_un hne]
      exact h1 c hc1 hc2 j' hj') (fun j' hj' => by
      by_cases q : j' = j
      · subst q; rw [pk_us, pk_us, pk_us]; exact ⟨rfl, rfl, rfl⟩
      · have hne : cn sg i j' ≠ cn sg i j := fun q2 => q (own_one h hk40 hi hi (by omega) (by omega) q2).2
        rw [pk_un (by omega), pk_un hne, pk_un hne]
        exact h2 j' (by omega))
    exact ⟨ow', pl', pn', r1, by rw [r2, pk_un (by omega)], r3⟩
theorem take_loop {N k : Nat} {sg ps : Nat → Int32} (hN : 60 ≤ N) (h : WF sg k) (hk : k ≤ 24) (hs : ∀ i, i < k → ∃ c, 33 ≤ c ∧ c < 127 ∧ sg i = nI c) : ∀ (m n : Nat) (wa ow pl sp pn : Nat → Int32), m ≤ k → m < n → TXs sg k m wa ow pl sp pn →
    ∃ wa' ow' pl' sp' pn', bX9_take_20 N ps n (nI m - 1) sg wa ow pl sp pn (nI k) = some (sg, wa', ow', pl', sp', pn', nI k) ∧ ow' 0 = ow 0 ∧ TXs sg k 0 wa' ow' pl' sp' pn' := by
  intro m
  induction m with
  | zero =>
    intro n wa ow pl sp pn hm hn hT
    obtain ⟨n, rfl⟩ : ∃ m, n = m + 1 := ⟨n - 1, by omega⟩
    exact ⟨wa, ow, pl, sp, pn, by rw [bX9_take_20, if_pos (show nI 0 - 1 < 0 by decide)], rfl, hT⟩
  | succ m ih =>
    intro n wa ow pl sp pn hm hn hT
    obtain ⟨n, rfl⟩ : ∃ m, n = m + 1 := ⟨n - 1, by omega⟩
    obtain ⟨c, c1, c2, c3⟩ := hs m (by omega)
    have hwm := (wn_cases h (i := m) (by omega)).2.1
    have e0 : nI m + 1 = nI (cn sg m 0) := nI_1 m
    rw [bX9_take_20, nI_pred, if_neg (nI_pos (by omega)), fX9_joinParts, un_bnd (by omega) (by decide), un_cl (by omega), c3, pwX9 (by omega) c2 c1, Option.bind_some, ← c3, hwm, e0]
    obtain ⟨ow', pl', pn', r1, r2, r3⟩ := join_loop (N := N) (wa := upd wa m (nI (wn sg m))) (sp := sp) h hk (i := m) (by omega) pk_us (fun c hc1 hc2 => (hT c (by omega) hc2).2.1) (wn sg m) 0 N (by omega) (by have := wn_le h (i := m) (by omega); omega) ow pl pn (fun c hc1 hc2 j hj => (hT c (by omega) hc2).2.2 j hj) (fun j' hj' => by omega)
    have e00 : nI 0 = (0 : Int32) := rfl
    rw [e00] at r1
    rw [r1, Option.bind_some]
    have em : nI m + (-1) = nI m - 1 := (Int32.sub_eq_add_neg (nI m) 1).symm
    rw [em]
    obtain ⟨wa2, ow2, pl2, sp2, pn2, q1, q2, q3⟩ := ih n (upd wa m (nI (wn sg m))) ow' pl' (upd sp m (nI (en sg m - m))) pn' (by omega) (by omega) (fun c hc1 hc2 => by
      by_cases q : c = m
      · subst q; rw [pk_us, pk_us]; exact ⟨rfl, rfl, fun j hj => r3 c (Nat.le_refl _) hc2 j hj⟩
      · rw [pk_un q, pk_un q]
        exact ⟨(hT c (by omega) hc2).1, (hT c (by omega) hc2).2.1, fun j hj => r3 c (by omega) hc2 j hj⟩)
    exact ⟨wa2, ow2, pl2, sp2, pn2, q1, by rw [q2, r2], q3⟩
theorem st_take {N k : Nat} {ps ts wa ow pl sp pn : Nat → Int32} {cnt : Int32} (hN : 60 ≤ N) (h : WF ps k) (hk : k ≤ 24) (hs : ∀ i, i < k → ∃ c, 33 ≤ c ∧ c < 127 ∧ ps i = nI c) : ∃ ts' wa' ow' pl' sp' pn', fX9_take N ps (nI k) ts wa ow pl sp pn cnt = some (ts', wa', ow', pl', sp', pn', nI k) ∧ (∀ i, i < k → ts' i = ps i) ∧ WF ts' k ∧ ow' 0 = ow 0 ∧ TXs ts' k 0 wa' ow' pl' sp' pn' := by
  have e1 : ∀ i, i < k → va_cpy ps ts (Int32.toNatClampNeg 0) (Int32.toNatClampNeg 0) (Int32.toNatClampNeg (nI k)) i = ps i := fun i hi => by
    rw [un_cl (by omega), cp_0, pk_cpy_in (by omega) (by omega)]
    rw [Nat.sub_zero, Nat.zero_add]
  obtain ⟨ts', hts⟩ : ∃ t, t = va_cpy ps ts (Int32.toNatClampNeg 0) (Int32.toNatClampNeg 0) (Int32.toNatClampNeg (nI k)) := ⟨_, rfl⟩
  rw [← hts] at e1
  have hw : WF ts' k := WF_congr (fun i hi => (e1 i hi).symm) h
  obtain ⟨wa', ow', pl', sp', pn', r1, r2, r3⟩ := take_loop (N := N) (ps := ps) hN hw hk (fun i hi => by rw [e1 i hi]; exact hs i hi) k N wa ow pl sp pn (Nat.le_refl _) (by omega) (fun c h1 h2 => by omega)
  refine ⟨ts', wa', ow', pl', sp', pn', ?_, e1, hw, r2, r3⟩
  rw [fX9_take, cpg, if_neg (nI_pos (by omega)), un_cl (by omega), if_neg (by omega), if_neg (by omega)]
  rw [un_cl (by omega)] at hts
  rw [← hts]
  exact r1
