/-! the class's work: the rows of bits of all nodes -/
/-- whether a relation holds -/
def rl (c : Int32) (a b : Nat) : Bool := if c = 60 then decide (a < b) else if c = 62 then decide (b < a) else decide (a = b)
theorem stp_rl {c : Int32} {x v1 v2 v3 v4 : Nat} (h : pw c = 4) : stp c x v1 v2 v3 v4 = if rl c v1 v2 = true then v3 else v4 := by
  rcases pw4 h with e | e | e <;> subst e
  · show (if v1 < v2 then v3 else v4) = if decide (v1 < v2) = true then v3 else v4
    simp only [decide_eq_true_eq]
  · show (if v1 = v2 then v3 else v4) = if decide (v1 = v2) = true then v3 else v4
    simp only [decide_eq_true_eq]
  · show (if v2 < v1 then v3 else v4) = if decide (v2 < v1) = true then v3 else v4
    simp only [decide_eq_true_eq]
/-- nodes from m on are worked out for the inputs of word w -/
def CW (sg sc : Nat → Int32) (k w m : Nat) (lo mi hi ho : Nat → Int64) : Prop := ∀ c, m ≤ c → c < k → B3 (lo c) (mi c) (hi c) (fun p => val sg sc (64 * w + p) c) ∧ (wn sg c = 4 → ∀ p, p < 64 → gb (ho c) p = rl (sc c) (val sg sc (64 * w + p) (cn sg c 0)) (val sg sc (64 * w + p) (cn sg c 1)))
theorem part_o {N c j : Nat} {pn : Nat → Int32} {v : Nat} (hc : c < 24) (hj : j < 4) (hp : pn (4 * c + j) = nI v) : fX9_partOf N pn (nI c) (nI j) = some (nI v) := by
  have e : (4 : Int32) * nI c + nI j = nI (4 * c + j) := by rw [show (4 : Int32) = nI 4 from rfl, pk_mul, nI_add]
  rw [fX9_partOf, e, un_bnd (by omega) (by decide), un_cl (by omega), hp]
theorem cw_loop {N k w : Nat} {sg sc wa ow pl sp pn : Nat → Int32} {ch sgn : Int32} (h : WF sg k) (hk : k ≤ 24) (hs : SC sg sc k) (hw8 : w < 8) (hT : TXs sg k 0 wa ow pl sp pn) (hch : ∀ i, i < k → sc i = if nI i = ch then sgn else sg i) : ∀ (m n : Nat) (lo mi hi ho : Nat → Int64), m ≤ k → m < n → CW sg sc k w m lo mi hi ho →
    ∃ lo' mi' hi' ho', bX10_workOut_8 N sg wa pn (nI k) n ch sgn (nI w) (nI m - 1) lo mi hi ho = some (lo', mi', hi', ho') ∧ CW sg sc k w 0 lo' mi' hi' ho' := by
  have hk40 : k ≤ 40 := by omega
  intro m
  induction m with
  | zero =>
    intro n lo mi hi ho hm hn hv
    obtain ⟨n, rfl⟩ : ∃ j, n = j + 1 := ⟨n - 1, by omega⟩
    exact ⟨lo, mi, hi, ho, by rw [bX10_workOut_8, if_pos (show nI 0 - 1 < 0 by decide)], hv⟩
  | succ m ih =>
    intro n lo mi hi ho hm hn hv
    obtain ⟨n, rfl⟩ : ∃ j, n = j + 1 := ⟨n - 1, by omega⟩
    have hmk : m < k := by omega
    have hm24 : m < 24 := by omega
    obtain ⟨hpw, cc, c1, c2, c3⟩ := hs m hmk
    obtain ⟨hw3, hwm, -⟩ := wn_cases h hmk
    obtain ⟨hwa, -, hkids⟩ := hT m (by omega) hmk
    have hve : ∀ x, val sg sc x m = _ := fun x => val_eq (x := x) h hk hs hmk
    have em : nI m + (-1) = nI m - 1 := (Int32.sub_eq_add_neg (nI m) 1).symm
    have e30 : bX10_workOut_8 N sg wa pn (nI k) (n + 1) ch sgn (nI w) (nI (m + 1) - 1) lo mi hi ho = bX10_workOut_30 N sg wa pn (nI k) (bX10_workOut_8 N sg wa pn (nI k) n) ch sgn (nI w) (nI m) (sc m) lo mi hi ho := by
      rw [bX10_workOut_8, nI_pred, if_neg (nI_pos (by omega)), hch m hmk]
      by_cases q : nI m = ch
      · rw [if_pos q, if_pos q]
      · rw [if_neg q, if_neg q, un_bnd hm24 (by decide), un_cl (by omega)]
    have fin : ∀ (L M H : Int64) (ho2 : Nat → Int64), B3 L M H (fun p => val sg sc (64 * w + p) m) → (wn sg m = 4 → ∀ p, p < 64 → gb (ho2 m) p = rl (sc m) (val sg sc (64 * w + p) (cn sg m 0)) (val sg sc (64 * w + p) (cn sg m 1))) → (∀ c, c ≠ m → ho2 c = ho c) →
        ∃ lo' mi' hi' ho', bX10_workOut_8 N sg wa pn (nI k) n ch sgn (nI w) (nI m - 1) (vp_updL lo m L) (vp_updL mi m M) (vp_updL hi m H) ho2 = some (lo', mi', hi', ho') ∧ CW sg sc k w 0 lo' mi' hi' ho' := fun L M H ho2 hB hr hoe =>
      ih n _ _ _ ho2 (by omega) (by omega) (fun c hc1 hc2 => by
        by_cases q : c = m
        · subst q; rw [pk_uLs, pk_uLs, pk_uLs]; exact ⟨hB, hr⟩
        · rw [pk_uLn q, pk_uLn q, pk_uLn q, hoe c q]; exact hv c (by omega) hc2)
    have kid : ∀ j, j < wn sg m → cn sg m j < 24 ∧ B3 (lo (cn sg m j)) (mi (cn sg m j)) (hi (cn sg m j)) (fun p => val sg sc (64 * w + p) (cn sg m j)) ∧ fX9_partOf N pn (nI m) (nI j) = some (nI (cn sg m j)) := fun j hj => by
      obtain ⟨g1, -, -, -, g5⟩ := cn_spec h hk40 hmk j (by omega)
      have g6 := g5 hj
      have := wn_le h hmk
      exact ⟨by omega, (hv _ (by omega) g6).1, part_o hm24 (by omega) (hkids j hj).1⟩
    have v8 : ∀ (a b : Nat) (p : Nat), val sg sc (64 * w + p) a < 8 ∧ val sg sc (64 * w + p) b < 8 := fun _ _ _ => ⟨val_lt, val_lt⟩
    rw [e30, bX10_workOut_30, un_bnd hm24 (by decide), un_cl (by omega), hwa]
    rcases hw3 with hw | hw | hw
    · have hp0 : pw (sc m) = 0 := by rw [hpw, hwm, hw]; rfl
      rw [hw, if_pos (show nI 0 = 0 from rfl)]
      obtain ⟨L, M, H, e, hB⟩ := o_leaf (N := N) (m := m) (w := w) (v1 := 0) (v2 := 0) (v3 := 0) (v4 := 0) (lo := lo) (mi := mi) (hi := hi) hm24 hw8 hp0
      rw [e, Option.bind_some, em]
      refine fin L M H ho (fun p hp => ?_) (fun q => by omega) (fun _ _ => rfl)
      have e2 : val sg sc (64 * w + p) m = stp (sc m) (64 * w + p) 0 0 0 0 := (hve _).trans (stp_congr (fun q => by rw [hp0] at q; exact absurd q (by decide)) (fun q => by rw [hp0] at q; exact absurd q (by decide)))
      show gb L p = (val sg sc (64 * w + p) m).testBit 0 ∧ gb M p = (val sg sc (64 * w + p) m).testBit 1 ∧ gb H p = (val sg sc (64 * w + p) m).testBit 2
      rw [e2]
      exact hB p hp
    · have hp2 : pw (sc m) = 2 := by rw [hpw, hwm, hw]; rfl
      obtain ⟨k0, b0, p0⟩ := kid 0 (by omega)
      obtain ⟨k1, b1, p1⟩ := kid 1 (by omega)
      rw [hw, if_neg (show ¬ nI 2 = 0 by decide), if_pos (show nI 2 = 2 from rfl), show fX9_partOf N pn (nI m) (0 : Int32) = some (nI (cn sg m 0)) from p0, Option.bind_some, show fX9_partOf N pn (nI m) (1 : Int32) = some (nI (cn sg m 1)) from p1, Option.bind_some]
      have act : ∃ L M H, fX10_putAct N (nI m) (sc m) (nI (cn sg m 0)) (nI (cn sg m 1)) lo mi hi = some (vp_updL lo m L, vp_updL mi m M, vp_updL hi m H) ∧ B3 L M H (fun p => val sg sc (64 * w + p) m) := by
        have conv : ∀ {L M H : Int64} {f : Nat → Nat}, B3 L M H f → (∀ p, val sg sc (64 * w + p) m = f p) → B3 L M H (fun p => val sg sc (64 * w + p) m) := fun {L M H f} hB he p hp => by
          show gb L p = (val sg sc (64 * w + p) m).testBit 0 ∧ gb M p = (val sg sc (64 * w + p) m).testBit 1 ∧ gb H p = (val sg sc (64 * w + p) m).testBit 2
          rw [he p]; exact hB p hp
        rw [fX10_putAct]
        rcases pw2 hp2 with e | e | e | e | e
        · rw [if_pos e]
          obtain ⟨L, M, H, e1, hB⟩ := o_pro (N := N) hm24 k0 k1 b0 b1 (v8 _ _)
          exact ⟨L, M, H, by rw [e1, Option.bind_some], conv hB (fun p => by rw [hve, e]; rfl)⟩
        · rw [if_neg (by rw [e]; decide), if_pos e]
          obtain ⟨L, M, H, e1, hB⟩ := o_sum (N := N) hm24 k0 k1 b0 b1 (v8 _ _)
          exact ⟨L, M, H, by rw [e1, Option.bind_some], conv hB (fun p => by rw [hve, e]; rfl)⟩
        · rw [if_neg (by rw [e]; decide), if_neg (by rw [e]; decide), if_pos e]
          obtain ⟨L, M, H, e1, hB⟩ := o_dif (N := N) hm24 k0 k1 b0 b1 (v8 _ _)
          exact ⟨L, M, H, by rw [e1, Option.bind_some], conv hB (fun p => by rw [hve, e]; rfl)⟩
        · rw [if_neg (by rw [e]; decide), if_neg (by rw [e]; decide), if_neg (by rw [e]; decide), if_neg (by rw [e]; decide)]
          obtain ⟨Q, e0, hQ⟩ := o_bel (N := N) k0 k1 b0 b1 (v8 _ _)
          rw [e0, Option.bind_some]
          obtain ⟨L, M, H, e1, hB⟩ := o_cho (N := N) hm24 k1 k0 b1 b0 hQ
          refine ⟨L, M, H, by rw [e1, Option.bind_some], conv hB (fun p => ?_)⟩
          rw [hve, e]
          show (if val sg sc (64 * w + p) (cn sg m 0) ≤ val sg sc (64 * w + p) (cn sg m 1) then val sg sc (64 * w + p) (cn sg m 1) else val sg sc (64 * w + p) (cn sg m 0)) = if decide (val sg sc (64 * w + p) (cn sg m 0) < val sg sc (64 * w + p) (cn sg m 1)) = true then val sg sc (64 * w + p) (cn sg m 1) else val sg sc (64 * w + p) (cn sg m 0)
          simp only [decide_eq_true_eq]
          split <;> split <;> omega
        · rw [if_neg (by rw [e]; decide), if_neg (by rw [e]; decide), if_neg (by rw [e]; decide), if_pos e]
          obtain ⟨Q, e0, hQ⟩ := o_bel (N := N) k0 k1 b0 b1 (v8 _ _)
          rw [e0, Option.bind_some]
          obtain ⟨L, M, H, e1, hB⟩ := o_cho (N := N) hm24 k0 k1 b0 b1 hQ
          refine ⟨L, M, H, by rw [e1, Option.bind_some], conv hB (fun p => ?_)⟩
          rw [hve, e]
          show (if val sg sc (64 * w + p) (cn sg m 1) ≤ val sg sc (64 * w + p) (cn sg m 0) then val sg sc (64 * w + p) (cn sg m 1) else val sg sc (64 * w + p) (cn sg m 0)) = if decide (val sg sc (64 * w + p) (cn sg m 0) < val sg sc (64 * w + p) (cn sg m 1)) = true then val sg sc (64 * w + p) (cn sg m 0) else val sg sc (64 * w + p) (cn sg m 1)
          simp only [decide_eq_true_eq]
          split <;> split <;> omega
      obtain ⟨L, M, H, e, hB⟩ := act
      rw [e, Option.bind_some, em]
      exact fin L M H ho hB (fun q => by omega) (fun _ _ => rfl)
    · have hp4 : pw (sc m) = 4 := by rw [hpw, hwm, hw]; rfl
      obtain ⟨k0, b0, p0⟩ := kid 0 (by omega)
      obtain ⟨k1, b1, p1⟩ := kid 1 (by omega)
      obtain ⟨k2, b2, p2⟩ := kid 2 (by omega)
      obtain ⟨k3, b3, p3⟩ := kid 3 (by omega)
      rw [hw, if_neg (show ¬ nI 4 = 0 by decide), if_neg (show ¬ nI 4 = 2 by decide), fX10_putRel, show fX9_partOf N pn (nI m) (0 : Int32) = some (nI (cn sg m 0)) from p0, Option.bind_some, show fX9_partOf N pn (nI m) (1 : Int32) = some (nI (cn sg m 1)) from p1, Option.bind_some]
      have rest : ∀ Q : Int64, (∀ p, p < 64 → gb Q p = rl (sc m) (val sg sc (64 * w + p) (cn sg m 0)) (val sg sc (64 * w + p) (cn sg m 1))) → ∃ L M H, bX10_putRel_63 N pn (nI m) (nI m) Q lo mi hi ho = some (vp_updL lo m L, vp_updL mi m M, vp_updL hi m H, vp_updL ho m Q) ∧ B3 L M H (fun p => val sg sc (64 * w + p) m) := fun Q hQ => by
        rw [bX10_putRel_63, un_bnd hm24 (by decide), un_bnd hm24 (by decide), show fX9_partOf N pn (nI m) (2 : Int32) = some (nI (cn sg m 2)) from p2, Option.bind_some, show fX9_partOf N pn (nI m) (3 : Int32) = some (nI (cn sg m 3)) from p3, Option.bind_some, un_cl (by omega), pk_uLs]
        obtain ⟨L, M, H, e1, hB⟩ := o_cho (N := N) (m := m) hm24 k2 k3 b2 b3 hQ
        refine ⟨L, M, H, by rw [e1, Option.bind_some], fun p hp => ?_⟩
        have e2 : val sg sc (64 * w + p) m = _ := (hve (64 * w + p)).trans (stp_rl hp4)
        show gb L p = (val sg sc (64 * w + p) m).testBit 0 ∧ gb M p = (val sg sc (64 * w + p) m).testBit 1 ∧ gb H p = (val sg sc (64 * w + p) m).testBit 2
        rw [e2]
        exact hB p hp
      have wrap : ∀ Q : Int64, (∀ p, p < 64 → gb Q p = rl (sc m) (val sg sc (64 * w + p) (cn sg m 0)) (val sg sc (64 * w + p) (cn sg m 1))) → ∃ lo' mi' hi' ho', Option.bind (bX10_putRel_63 N pn (nI m) (nI m) Q lo mi hi ho) (fun (wk_low_16, wk_mid_17, wk_high_18, wk_holds_19) => bX10_workOut_8 N sg wa pn (nI k) n ch sgn (nI w) (nI m + (-1)) wk_low_16 wk_mid_17 wk_high_18 wk_holds_19) = some (lo', mi', hi', ho') ∧ CW sg sc k w 0 lo' mi' hi' ho' := fun Q hQ => by
        obtain ⟨L, M, H, e, hB⟩ := rest Q hQ
        rw [e, Option.bind_some, em]
        exact fin L M H _ hB (fun _ p hp => by rw [pk_uLs]; exact hQ p hp) (fun c hc => pk_uLn hc)
      rcases pw4 hp4 with e | e | e
      · rw [if_pos e]
        obtain ⟨Q, e0, hQ⟩ := o_bel (N := N) k0 k1 b0 b1 (v8 _ _)
        rw [e0, Option.bind_some]
        exact wrap Q (fun p hp => by rw [hQ p hp, e]; rfl)
      · rw [if_neg (by rw [e]; decide), if_neg (by rw [e]; decide)]
        obtain ⟨Q, e0, hQ⟩ := o_sam (N := N) k0 k1 b0 b1 (v8 _ _)
        rw [e0, Option.bind_some]
        exact wrap Q (fun p hp => by rw [hQ p hp, e]; rfl)
      · rw [if_neg (by rw [e]; decide), if_pos e]
        obtain ⟨Q, e0, hQ⟩ := o_bel (N := N) k1 k0 b1 b0 (v8 _ _)
        rw [e0, Option.bind_some]
        exact wrap Q (fun p hp => by rw [hQ p hp, e]; rfl)
theorem st_workC {N k w : Nat} {sg sc wa ow pl sp pn : Nat → Int32} {ch sgn : Int32} {lo mi hi ho : Nat → Int64} (hN : 60 ≤ N) (h : WF sg k) (hk : k ≤ 24) (hs : SC sg sc k) (hw8 : w < 8) (hT : TXs sg k 0 wa ow pl sp pn) (hch : ∀ i, i < k → sc i = if nI i = ch then sgn else sg i) : ∃ lo' mi' hi' ho', fX10_workOut N sg wa pn (nI k) ch sgn (nI w) lo mi hi ho = some (lo', mi', hi', ho') ∧ CW sg sc k w 0 lo' mi' hi' ho' := by
  rw [fX10_workOut]
  exact cw_loop h hk hs hw8 hT hch k N lo mi hi ho (Nat.le_refl k) (by omega) (fun c h1 h2 => by omega)
