/-! wished -/
theorem cnt_ix2 {q r r' : Nat → Bool} : ∀ j, (∀ i, i < j → q i = true → r' (cntB q i) = r i) → cntB (fun s => q s && r s) j = cntB r' (cntB q j) := by
  intro j
  induction j with
  | zero => intro _; rfl
  | succ j ih =>
    intro h
    have ii := ih (fun i hi => h i (by omega))
    rw [cntB, ii, show cntB q (j + 1) = cntB q j + (if q j = true then 1 else 0) from rfl]
    cases e : q j
    · rfl
    · have e2 := h j (by omega) e
      show cntB r' (cntB q j) + (if (true && r j) = true then 1 else 0) = cntB r' (cntB q j) + (if r' (cntB q j) = true then 1 else 0)
      rw [e2, Bool.true_and]
def hcN (q : Nat → Bool) (F : Nat → Nat) (G : Nat → Nat → Nat) (m x : Nat) : Nat := cntB (fun j => q j && dif (G j) F x) m
def wbS (h : Nat → Nat) : Nat → Nat × Nat
  | 0 => (512, 0)
  | x + 1 => if h x ≤ (wbS h x).2 then wbS h x else (x, h x)
theorem wbS_le {h : Nat → Nat} {b : Nat} (hb : ∀ x, h x ≤ b) : ∀ x, (wbS h x).2 ≤ b := by
  intro x
  induction x with
  | zero => exact Nat.zero_le _
  | succ x ih =>
    rw [wbS]
    split
    · exact ih
    · exact hb x
theorem wbS_congr {h h' : Nat → Nat} : ∀ x, (∀ y, y < x → h y = h' y) → wbS h x = wbS h' x := by
  intro x
  induction x with
  | zero => intro _; rfl
  | succ x ih => intro e; rw [wbS, wbS, ih (fun y hy => e y (by omega)), e x (by omega)]
theorem gaC {N m w : Nat} {F : Nat → Nat} {G : Nat → Nat → Nat} {ft bs : Nat → Int32} {lo mi hi hu : Nat → Int64} (hN : 600 ≤ N) (h : RX lo mi hi m F G) (hw : w < 8) : ∃ hu', fX4_gatherHidden N lo mi hi ft (nI m) bs (nI w) hu = some (nI (cntB (qh ft bs) m), hu') ∧ ∀ i, i < m → qh ft bs i = true → ∀ p, p < 64 → gb (hu' (cntB (qh ft bs) i)) p = dif (G i) F (64 * w + p) := by
  obtain ⟨hm, hF, hG, r0, rG⟩ := h
  obtain ⟨hu', e1, e2⟩ := lp (m := m) (g := fun n j (s : Nat → Int64) => bX4_gatherHidden_4 N lo mi hi ft (nI m) bs n (nI w) (nI (cntB (qh ft bs) j)) (nI j) s) (fun j s => ∀ i, i < j → qh ft bs i = true → ∀ p, p < 64 → gb (s (cntB (qh ft bs) i)) p = dif (G i) F (64 * w + p)) (fun s => some (nI (cntB (qh ft bs) m), s)) (fun n s hs => by
    rw [bX4_gatherHidden_4, if_pos (nI_le (Nat.le_refl _) (by omega))]) (fun n j s hj hs => by
    have hle := cntB_le (q := qh ft bs) j
    obtain ⟨L, l1, l2⟩ := st_unlike (N := N) (w := w) (rG j hj) r0 (hG j) hF (by omega) (by decide) hw
    rw [bX4_gatherHidden_4, if_neg (nI_ge hj (by omega)), hidC1 (by omega), Option.bind_some, if10, show (2 : Int32) + nI j = nI (2 + j) from nI_add 2 j, show fX7_unlike N lo mi hi (nI (2 + j)) 0 (nI w) = _ from l1, Option.bind_some, nI_1 j]
    by_cases q : qh ft bs j = true
    · rw [if_pos q, un_bnd (show cntB (qh ft bs) j < 96 by omega) (by decide), un_cl (by omega), cnt_t q]
      refine ⟨vp_updL s (cntB (qh ft bs) j) L, rfl, fun i hi hq p hp => ?_⟩
      by_cases e : i = j
      · subst e; rw [pk_uLs]; exact l2 p hp
      · have m1 := cntB_mono (q := qh ft bs) (show i + 1 ≤ j by omega)
        rw [cntB, if_pos hq] at m1
        rw [pk_uLn (by omega)]
        exact hs i (by omega) hq p hp
    · rw [if_neg q]
      refine ⟨s, by rw [show cntB (qh ft bs) (j + 1) = cntB (qh ft bs) j by rw [cntB, if_neg q]; rfl], fun i hi hq => ?_⟩
      by_cases e : i = j
      · subst e; exact absurd hq q
      · exact hs i (by omega) hq) m 0 N hu (by omega) (by omega) (fun i hi => absurd hi (Nat.not_lt_zero _))
  exact ⟨hu', e1, e2⟩
theorem wiC {N m w : Nat} {F : Nat → Nat} {G : Nat → Nat → Nat} {q : Nat → Bool} {hu : Nat → Int64} (hN : 600 ≤ N) (hm : m ≤ 96) (hw : w < 8) (hu1 : ∀ i, i < m → q i = true → ∀ p, p < 64 → gb (hu (cntB q i)) p = dif (G i) F (64 * w + p)) : fX4_findWishedIn N hu (nI w) (nI (cntB q m)) (enc (wbS (hcN q F G m) (64 * w)).1) (nI (wbS (hcN q F G m) (64 * w)).2) = some (enc (wbS (hcN q F G m) (64 * (w + 1))).1, nI (wbS (hcN q F G m) (64 * (w + 1))).2) := by
  have hc := cntB_le (q := q) m
  have hle : ∀ x, hcN q F G m x ≤ 96 := fun x => Nat.le_trans (cntB_le m) hm
  rw [fX4_findWishedIn]
  refine lpd (m := 64) (g := fun n p (s : Int32 × Int32) => bX4_findWishedIn_2 N hu n (nI w) (nI (cntB q m)) (nI p) s.1 s.2) (fun p => (enc (wbS (hcN q F G m) (64 * w + p)).1, nI (wbS (hcN q F G m) (64 * w + p)).2)) (fun n => ?_) (fun n p hp => ?_) 64 0 N (by omega) (by omega)
  · dsimp only
    rw [bX4_findWishedIn_2, if_pos (show (64 : Int32) ≤ nI 64 by decide)]
    rfl
  · dsimp only
    rw [bX4_findWishedIn_2, if_neg (show ¬ (64 : Int32) ≤ nI p from nI_ge (b := 64) hp (by decide))]
    have e14 : ∀ (k2 : Int32 → Int32 → Int32 → Int32 → Int32 → Option (Int32 × Int32)) (a b : Int32), bX4_findWishedIn_14 N hu k2 N (nI w) (nI (cntB q m)) (nI p) 0 0 a b = if nI (hcN q F G m (64 * w + p)) ≤ b then k2 (nI w) (nI (cntB q m)) (nI (p + 1)) a b else k2 (nI w) (nI (cntB q m)) (nI (p + 1)) (nI (64 * w + p)) (nI (hcN q F G m (64 * w + p))) := fun k2 a b => by
      have ec : hcN q F G m (64 * w + p) = cntB (fun s => gb (hu s) p) (cntB q m) := cnt_ix2 (r := fun j => dif (G j) F (64 * w + p)) m (fun i hi hq => hu1 i hi hq p hp)
      rw [ec]
      refine lpd (m := cntB q m) (g := fun n s (z : Nat) => bX4_findWishedIn_14 N hu k2 n (nI w) (nI (cntB q m)) (nI p) (nI z) (nI s) a b) (fun s => cntB (fun s => gb (hu s) p) s) (fun n => ?_) (fun n s hs => ?_) (cntB q m) 0 N (by omega) (by omega)
      · rw [bX4_findWishedIn_14, if_pos (nI_le (Nat.le_refl _) (by omega)), nI_1 p, show nI w * (64 : Int32) + nI p = nI (64 * w + p) by rw [show (64 : Int32) = nI 64 from rfl, pk_mul, nI_add, Nat.mul_comm]]
      · rw [bX4_findWishedIn_14, if_neg (nI_ge hs (by omega)), un_bnd (show s < 96 by omega) (by decide), un_cl (by omega), ba_gb _ hp, Option.bind_some, nI_add, nI_1 s]
        rfl
    rw [e14, show 64 * w + (p + 1) = (64 * w + p) + 1 from rfl, wbS]
    have l1 := wbS_le hle (64 * w + p)
    have l2 := hle (64 * w + p)
    by_cases z : hcN q F G m (64 * w + p) ≤ (wbS (hcN q F G m) (64 * w + p)).2
    · rw [if_pos (nI_le z (by omega)), if_pos z]
    · rw [if_neg (nI_ge (by omega) (by omega)), if_neg z, show enc (64 * w + p) = nI (64 * w + p) from enc_n (by omega)]
theorem wsC {N m : Nat} {F : Nat → Nat} {G : Nat → Nat → Nat} {ft bs : Nat → Int32} {lo mi hi hu : Nat → Int64} {a b : Int32} (hN : 600 ≤ N) (h : RX lo mi hi m F G) : ∃ hu', fX4_findWished N lo mi hi ft (nI m) bs a b hu = some (enc (wbS (hcN (qh ft bs) F G m) 512).1, nI (wbS (hcN (qh ft bs) F G m) 512).2, hu') := by
  rw [fX4_findWished]
  obtain ⟨hu', e1, -⟩ := lp (m := 8) (g := fun n w (s : Nat → Int64) => bX4_findWished_13 N lo mi hi ft (nI m) bs n (nI w) (enc (wbS (hcN (qh ft bs) F G m) (64 * w)).1) (nI (wbS (hcN (qh ft bs) F G m) (64 * w)).2) s) (fun _ _ => True) (fun s => some (enc (wbS (hcN (qh ft bs) F G m) 512).1, nI (wbS (hcN (qh ft bs) F G m) 512).2, s)) (fun n s hs => by
    rw [bX4_findWished_13, if_pos (show (8 : Int32) ≤ nI 8 by decide)]) (fun n w s hw hs => by
    obtain ⟨hu', g1, g2⟩ := gaC (ft := ft) (bs := bs) (hu := s) hN h hw
    rw [bX4_findWished_13, if_neg (show ¬ (8 : Int32) ≤ nI w from nI_ge (b := 8) hw (by decide)), g1, Option.bind_some]
    dsimp only
    rw [wiC hN h.1 hw g2, Option.bind_some]
    dsimp only
    rw [nI_1 w]
    exact ⟨hu', rfl, trivial⟩) 8 0 N hu (by omega) (by omega) trivial
  exact ⟨hu', e1⟩
theorem wsM {N m : Nat} {F : Nat → Nat} {G : Nat → Nat → Nat} {bs ns nz nm mt vs mn ms df rs ow nt : Nat → Int32} {x1 il tt : Int32} (hN : 600 ≤ N) (hm : m ≤ 96) (h : LX m F G (nI m) rs ow) (hF : ∀ x, F x < 8) (hG : ∀ j x, G j x < 8) (hb : ∀ j, j < m → nt j = bs j) : bX12_wished_22 N ns nz nm kn0 mt tt N x1 (-6) 0 0 vs il (nI m) mn ms df rs ow nt = some (if x1 = 0 then enc (wbS (hcN (fun j => decide (bs j = 0)) F G m) 512).1 else nI (wbS (hcN (fun j => decide (bs j = 0)) F G m) 512).2, vs, il, nI m, mn, ms, df, rs, ow, nt) := by
  have hle : ∀ x, hcN (fun j => decide (bs j = 0)) F G m x ≤ 96 := fun x => Nat.le_trans (cntB_le m) hm
  refine lpd (m := 512) (g := fun n x (s : Int32 × Int32) => bX12_wished_22 N ns nz nm kn0 mt tt n x1 s.1 s.2 (nI x) vs il (nI m) mn ms df rs ow nt) (fun x => (enc (wbS (hcN (fun j => decide (bs j = 0)) F G m) x).1, nI (wbS (hcN (fun j => decide (bs j = 0)) F G m) x).2)) (fun n => ?_) (fun n x hx => ?_) 512 0 N (by omega) (by omega)
  · dsimp only
    rw [bX12_wished_22, if_pos (show (512 : Int32) ≤ nI 512 by decide)]
    by_cases d : x1 = 0
    · rw [if_pos d, if_pos d]
    · rw [if_neg d, if_neg d]
  · dsimp only
    rw [bX12_wished_22, if_neg (show ¬ (512 : Int32) ≤ nI x from nI_ge (b := 512) hx (by decide))]
    have e36 : ∀ (k2 : Int32 → Int32 → Int32 → Int32 → (Nat → Int32) → (Int32) → (Int32) → (Nat → Int32) → (Nat → Int32) → (Nat → Int32) → (Nat → Int32) → (Nat → Int32) → (Nat → Int32) → Option (Int32 × (Nat → Int32) × (Int32) × (Int32) × (Nat → Int32) × (Nat → Int32) × (Nat → Int32) × (Nat → Int32) × (Nat → Int32) × (Nat → Int32))) (a b : Int32), bX12_wished_36 N ns nz nm kn0 mt tt k2 N x1 a b (nI x) 0 0 vs il (nI m) mn ms df rs ow nt = if nI (hcN (fun j => decide (bs j = 0)) F G m x) ≤ b then k2 x1 a b (nI (x + 1)) vs il (nI m) mn ms df rs ow nt else k2 x1 (nI x) (nI (hcN (fun j => decide (bs j = 0)) F G m x)) (nI (x + 1)) vs il (nI m) mn ms df rs ow nt := fun k2 a b => by
      unfold hcN
      refine lpd (m := m) (g := fun n j (z : Nat) => bX12_wished_36 N ns nz nm kn0 mt tt k2 n x1 a b (nI x) (nI z) (nI j) vs il (nI m) mn ms df rs ow nt) (fun j => cntB (fun j => decide (bs j = 0) && dif (G j) F x) j) (fun n => ?_) (fun n j hj => ?_) m 0 N (by omega) (by omega)
      · rw [bX12_wished_36, if_pos (nI_le (Nat.le_refl _) (by omega)), nI_1 x]
      · have g8 := hG j x
        have f8 := hF x
        rw [bX12_wished_36, if_neg (nI_ge hj (by omega)), un_bnd (show j < 96 by omega) (by decide), un_cl (show j < 2 ^ 31 by omega), hb j hj, show (512 : Int32) * nI j + nI x = nI (512 * j + x) by rw [show (512 : Int32) = nI 512 from rfl, pk_mul, nI_add], un_bnd (show 512 * j + x < 49152 by omega) (by decide), un_bnd hx (by decide), un_cl (show 512 * j + x < 2 ^ 31 by omega), un_cl (show x < 2 ^ 31 by omega), h.2.2 j hj x hx, h.2.1 x hx, nI_1 j]
        by_cases c1 : bs j = 0
        · rw [if_pos c1]
          by_cases c2 : G j x = F x
          · rw [if_pos (by rw [c2]), cnt_f (show ¬ (decide (bs j = 0) && dif (G j) F x) = true from fun c => by
              rw [Bool.and_eq_true] at c
              exact (of_decide_eq_true c.2) c2)]
          · rw [if_neg (fun c => c2 ((nI_eq (by omega) (by omega)).mp c)), cnt_t (show (decide (bs j = 0) && dif (G j) F x) = true by rw [Bool.and_eq_true]; exact ⟨decide_eq_true c1, decide_eq_true c2⟩)]
        · rw [if_neg c1, cnt_f (show ¬ (decide (bs j = 0) && dif (G j) F x) = true from fun c => by
            rw [Bool.and_eq_true] at c
            exact c1 (of_decide_eq_true c.1))]
    rw [e36, wbS]
    have l1 := wbS_le hle x
    have l2 := hle x
    by_cases z : hcN (fun j => decide (bs j = 0)) F G m x ≤ (wbS (hcN (fun j => decide (bs j = 0)) F G m) x).2
    · rw [if_pos (nI_le z (by omega)), if_pos z]
    · rw [if_neg (nI_ge (by omega) (by omega)), if_neg z, show enc x = nI x from enc_n hx]
theorem s_wished {N k m T : Nat} {sg nd sn ft ns nz nm vs mn ms df rs ow ci cd mt md bs nt : Nat → Int32} {ti td : Nat → Nat} {lo mi hi hu : Nat → Int64} {il ca x1 a b : Int32} (hN : 600 ≤ N) (h : LH N sg k m nd sn ft lo mi hi ns nz nm) (hI : IL sg m nd sn ft il ca mn ms df rs ow) (hT : TE T ti td ci cd mt md) (hB : BS sg m nd sn ti T bs) :
    ∃ r a' b' hu' vs' il' ca' mn' ms' df' rs' ow' nt', fX11_wished N lo mi hi ft (nI m) bs x1 a b hu = some (r, a', b', hu') ∧ fX12_wished N ns nz nm kn0 mt (nI T) x1 vs il ca mn ms df rs ow nt = some (r, vs', il', ca', mn', ms', df', rs', ow', nt') ∧ IL sg m nd sn ft il' ca' mn' ms' df' rs' ow' := by
  rw [fX11_wished, fX12_wished, isPaM, Option.bind_some, if01]
  rcases part_cases x1 with c | ⟨c, e⟩
  · rw [if_pos c, if_neg (part_no c).1, if_neg (part_no c).2]
    exact ⟨_, a, b, hu, vs, il, ca, mn, ms, df, rs, ow, nt, rfl, rfl, hI⟩
  obtain ⟨vs', mn', ms', df', rs', ow', nt', q1, q2, q3⟩ := st_fN (vs := vs) (nt := nt) hN h hI hT
  have hr := h.rx
  obtain ⟨hu', g1⟩ := wsC (ft := ft) (bs := bs) (hu := hu) (a := a) (b := b) hN hr
  have ec : wbS (hcN (qh ft bs) (own sg) (gR sg nd sn) m) 512 = wbS (hcN (fun j => decide (bs j = 0)) (own sg) (gR sg nd sn) m) 512 := wbS_congr 512 (fun x hx => cntB_congr m (fun j hj => by
    dsimp only
    have hft := (h.2.2.2.2.2.2.2.1 j hj).2
    have hle := cntB_le (q := dif (gR sg nd sn j) (own sg)) 512
    unfold qh
    by_cases c1 : bs j = 0
    · by_cases c2 : ft j = 0
      · rw [c2] at hft
        have z : cntB (dif (gR sg nd sn j) (own sg)) 512 = 0 := (nI_z (by omega)).mp hft.symm
        have nd : dif (gR sg nd sn j) (own sg) x = false := by
          cases e : dif (gR sg nd sn j) (own sg) x
          · rfl
          · have := cnt_pos 512 x hx e; omega
        rw [nd, Bool.and_false, Bool.and_false]
      · rw [decide_eq_true (show bs j = 0 ∧ ¬ ft j = 0 from ⟨c1, c2⟩), decide_eq_true c1]
    · rw [decide_eq_false (show ¬ (bs j = 0 ∧ ¬ ft j = 0) from fun c => c1 c.1), decide_eq_false c1]))
  rw [if_neg c, q1, Option.bind_some]
  dsimp only
  rw [wsM (bs := bs) hN hr.1 q2.lx own_lt hr.2.2.1 (fun j hj => by rw [q3 j hj, hB j hj]), bX11_wished_12, g1, Option.bind_some]
  dsimp only
  rw [ec]
  rcases e with e | e
  · subst e
    rw [if_pos rfl, if_pos rfl, if_pos rfl]
    exact ⟨_, _, _, hu', vs', 1, nI m, mn', ms', df', rs', ow', nt', rfl, rfl, Or.inr ⟨rfl, q2⟩⟩
  · subst e
    simp only [if_neg (show ¬ (1 : Int32) = 0 by decide), if_pos (show (1 : Int32) = 1 from rfl)]
    exact ⟨_, _, _, hu', vs', 1, nI m, mn', ms', df', rs', ow', nt', rfl, rfl, Or.inr ⟨rfl, q2⟩⟩
