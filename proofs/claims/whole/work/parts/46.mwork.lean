/-! the reference's work: the row of values -/
theorem wkM_loop {N k x b : Nat} {sg sc ns nz nm : Nat → Int32} {ch sgn : Int32} (h : WF sg k) (hk : k ≤ 24) (hs : SC sg sc k) (hb : b ≤ 24) (hx : x < 512) (hns : ∀ i, i < k → ns (b + i) = sg i) (hnz : ∀ i, i < k → nz (b + i) = nI (en sg i - i)) (hch : ∀ i, i < k → sc i = if nI i = ch then sgn else sg i) : ∀ (m n : Nat) (vs : Nat → Int32), m ≤ k → m < n → (∀ c, m ≤ c → c < k → vs c = nI (val sg sc x c)) →
    ∃ vs', bX12_work_16 N ns nz nm n (nI x) ch sgn (nI b) (nI m - 1) vs = some vs' ∧ ∀ c, c < k → vs' c = nI (val sg sc x c) := by
  have hk40 : k ≤ 40 := by omega
  intro m
  induction m with
  | zero =>
    intro n vs hm hn hv
    obtain ⟨n, rfl⟩ : ∃ j, n = j + 1 := ⟨n - 1, by omega⟩
    exact ⟨vs, by rw [bX12_work_16, if_pos (show nI 0 - 1 < 0 by decide)], fun c hc => hv c (by omega) hc⟩
  | succ m ih =>
    intro n vs hm hn hv
    obtain ⟨n, rfl⟩ : ∃ j, n = j + 1 := ⟨n - 1, by omega⟩
    have hmk : m < k := by omega
    obtain ⟨hpw, cc, c1, c2, c3⟩ := hs m hmk
    obtain ⟨hw3, hwm, -⟩ := wn_cases h hmk
    have hve := val_eq (x := x) h hk hs hmk
    have em : nI m + (-1) = nI m - 1 := (Int32.sub_eq_add_neg (nI m) 1).symm
    have e42 : bX12_work_16 N ns nz nm (n + 1) (nI x) ch sgn (nI b) (nI (m + 1) - 1) vs = bX12_work_42 N ns nz nm (bX12_work_16 N ns nz nm n) (nI x) ch sgn (nI b) (nI m) (sc m) vs := by
      rw [bX12_work_16, nI_pred, if_neg (nI_pos (by omega)), hch m hmk]
      by_cases q : nI m = ch
      · rw [if_pos q, if_pos q]
      · rw [if_neg q, if_neg q, nI_add, un_bnd (by omega) (by decide), un_cl (by omega), hns m hmk]
    have fin : ∀ r : Nat, r = val sg sc x m → ∃ vs', bX12_work_16 N ns nz nm n (nI x) ch sgn (nI b) (nI m - 1) (upd vs m (nI r)) = some vs' ∧ ∀ c, c < k → vs' c = nI (val sg sc x c) := fun r hr =>
      ih n (upd vs m (nI r)) (by omega) (by omega) (fun c hc1 hc2 => by
        by_cases q : c = m
        · rw [q, pk_us, hr]
        · rw [pk_un q]; exact hv c (by omega) hc2)
    have kid : ∀ j, j < wn sg m → m < cn sg m j ∧ cn sg m j < k ∧ vs (cn sg m j) = nI (val sg sc x (cn sg m j)) := fun j hj => by
      obtain ⟨g1, -, -, -, g5⟩ := cn_spec h hk40 hmk j (by omega)
      have := g5 hj
      exact ⟨g1, this, hv _ (by omega) this⟩
    have nxt : ∀ j, j < wn sg m → nI (cn sg m j) + nz (b + cn sg m j) = nI (cn sg m (j + 1)) := fun j hj => by
      obtain ⟨g1, g2, -⟩ := kid j hj
      obtain ⟨f1, -⟩ := en_spec h hk40 g2
      rw [hnz _ g2, nI_add]
      congr 1
      show _ = en sg (cn sg m j)
      omega
    have e0 : nI m + 1 = nI (cn sg m 0) := nI_1 m
    rw [e42, bX12_work_42, c3, pwX12 c2 c1, Option.bind_some, ← c3, isiM, Option.bind_some, hpw, hwm]
    rcases hw3 with hw | hw | hw
    · rw [hw]
      have hp0 : pw (sc m) = 0 := by rw [hpw, hwm, hw]; rfl
      rcases lfM (v1 := val sg sc x (cn sg m 0)) (v2 := val sg sc x (cn sg m 1)) (v3 := val sg sc x (cn sg m 2)) (v4 := val sg sc x (cn sg m 3)) hp0 hx with ⟨q1, q2⟩ | ⟨q1, q2⟩
      · rw [if_pos q1, if_neg (show ¬ (1 : Int32) = 0 by decide), un_bnd (by omega) (by decide), un_cl (by omega), q2, em]
        exact fin _ hve.symm
      · rw [if_neg q1, if_pos rfl, if_pos (show nI 0 = 0 from rfl), un_bnd (by omega) (by decide), un_cl (by omega), q2, em]
        exact fin _ hve.symm
    · have hp2 : pw (sc m) = 2 := by rw [hpw, hwm, hw]; rfl
      have hni : ¬ ((97 : Int) ≤ (sc m).toInt ∧ (sc m).toInt ≤ 99) := by
        rcases pw2 hp2 with q | q | q | q | q <;> rw [q] <;> decide
      obtain ⟨k00, k01, k02⟩ := kid 0 (by omega)
      obtain ⟨k10, k11, k12⟩ := kid 1 (by omega)
      rw [if_neg hni, if_pos rfl, hw, if_neg (show ¬ nI 2 = 0 by decide), nI_add]
      have e1 : nI (b + m) + 1 = nI (b + cn sg m 0) := nI_1 (b + m)
      rw [e1, un_bnd (by omega) (by decide), un_cl (show b + cn sg m 0 < 2 ^ 31 by omega), e0, (show nI (cn sg m 0) + nz (b + cn sg m 0) = nI (cn sg m 1) from nxt 0 (by omega)), bX12_work_120, if_pos (show nI 2 = 2 from rfl), e0, un_bnd (by omega) (by decide), un_bnd (by omega) (by decide), un_cl (show cn sg m 0 < 2 ^ 31 by omega), un_cl (show cn sg m 1 < 2 ^ 31 by omega), k02, k12, actM (x := x) (v3 := val sg sc x (cn sg m 2)) (v4 := val sg sc x (cn sg m 3)) hp2 val_lt val_lt, Option.bind_some, un_bnd (by omega) (by decide), un_cl (by omega), em]
      exact fin _ hve.symm
    · have hp4 : pw (sc m) = 4 := by rw [hpw, hwm, hw]; rfl
      have hni : ¬ ((97 : Int) ≤ (sc m).toInt ∧ (sc m).toInt ≤ 99) := by
        rcases pw4 hp4 with q | q | q <;> rw [q] <;> decide
      obtain ⟨k00, k01, k02⟩ := kid 0 (by omega)
      obtain ⟨k10, k11, k12⟩ := kid 1 (by omega)
      obtain ⟨k20, k21, k22⟩ := kid 2 (by omega)
      obtain ⟨k30, k31, k32⟩ := kid 3 (by omega)
      rw [if_neg hni, if_pos rfl, hw, if_neg (show ¬ nI 4 = 0 by decide), nI_add]
      have e1 : nI (b + m) + 1 = nI (b + cn sg m 0) := nI_1 (b + m)
      rw [e1, un_bnd (by omega) (by decide), un_cl (show b + cn sg m 0 < 2 ^ 31 by omega), e0, (show nI (cn sg m 0) + nz (b + cn sg m 0) = nI (cn sg m 1) from nxt 0 (by omega)), bX12_work_120, if_neg (show ¬ nI 4 = 2 by decide), nI_add, un_bnd (by omega) (by decide), un_cl (show b + cn sg m 1 < 2 ^ 31 by omega), (show nI (cn sg m 1) + nz (b + cn sg m 1) = nI (cn sg m 2) from nxt 1 (by omega)), bX12_work_172, nI_add, un_bnd (by omega) (by decide), un_cl (show b + cn sg m 2 < 2 ^ 31 by omega), (show nI (cn sg m 2) + nz (b + cn sg m 2) = nI (cn sg m 3) from nxt 2 (by omega)), bX12_work_187, e0, un_bnd (by omega) (by decide), un_bnd (by omega) (by decide), un_cl (show cn sg m 0 < 2 ^ 31 by omega), un_cl (show cn sg m 1 < 2 ^ 31 by omega), k02, k12]
      obtain ⟨r, r1, r2⟩ := stdM (N := N) (x := x) (v3 := val sg sc x (cn sg m 2)) (v4 := val sg sc x (cn sg m 3)) hp4 (val_lt (sg := sg) (sc := sc) (x := x) (i := cn sg m 0)) (val_lt (sg := sg) (sc := sc) (x := x) (i := cn sg m 1))
      rw [r1, Option.bind_some]
      rcases r2 with ⟨q1, q2⟩ | ⟨q1, q2⟩
      · rw [if_pos q1, un_bnd (by omega) (by decide), un_cl (show cn sg m 3 < 2 ^ 31 by omega), k32, bX12_work_234, un_bnd (by omega) (by decide), un_cl (by omega), em]
        exact fin _ (by rw [hve, q2])
      · rw [if_neg q1, un_bnd (by omega) (by decide), un_cl (show cn sg m 2 < 2 ^ 31 by omega), k22, bX12_work_234, un_bnd (by omega) (by decide), un_cl (by omega), em]
        exact fin _ (by rw [hve, q2])
theorem st_workM {N k x xi : Nat} {sg sc ns nz nm vs : Nat → Int32} {ch sgn : Int32} (hN : 60 ≤ N) (h : WF sg k) (hk : k ≤ 24) (hs : SC sg sc k) (hxi : xi < 2) (hx : x < 512) (hns : ∀ i, i < k → ns (24 * xi + i) = sg i) (hnz : ∀ i, i < k → nz (24 * xi + i) = nI (en sg i - i)) (hnm : nm xi = nI k) (hch : ∀ i, i < k → sc i = if nI i = ch then sgn else sg i) : ∃ vs', fX12_work N ns nz nm (nI xi) (nI x) ch sgn vs = some vs' ∧ ∀ c, c < k → vs' c = nI (val sg sc x c) := by
  have hx24 : (24 : Int32) * nI xi = nI (24 * xi) := by rw [show (24 : Int32) = nI 24 from rfl, pk_mul]
  rw [fX12_work, un_bnd hxi (by decide), un_cl (by omega), hx24, hnm]
  exact wkM_loop h hk hs (by omega) hx hns hnz hch k N vs (Nat.le_refl k) (by omega) (fun c h1 h2 => by omega)
