/-! ===== lN n to 2^64: shifts, and, or, masks, one bit ===== -/
theorem wb_tb (n : Nat) : (lN n).toBitVec = BitVec.ofNat 64 n := rfl
theorem wb_inj {a b : Int64} (h : a.toBitVec = b.toBitVec) : a = b := Int64.toBitVec_inj.mp h
theorem wb_tn {n : Nat} (h : n < 2 ^ 64) : (lN n).toBitVec.toNat = n := by rw [wb_tb, BitVec.toNat_ofNat, Nat.mod_eq_of_lt h]
theorem wb_of (x : Int64) : ∃ n, n < 2 ^ 64 ∧ x = lN n := ⟨x.toBitVec.toNat, x.toBitVec.isLt, wb_inj (by rw [wb_tb]; simp)⟩
theorem wb_of32 (x : Int32) : ∃ n, n < 2 ^ 32 ∧ x = nI n := ⟨x.toBitVec.toNat, x.toBitVec.isLt, Int32.toBitVec_inj.mp (by show _ = BitVec.ofNat 32 _; simp)⟩
theorem wb_c : ∀ k, k < 64 → ((nI k).toInt64 &&& 63) = lN k := by decide +kernel
theorem wb_cu : ∀ k, k < 64 → ((nI k).toInt64.toUInt64 &&& Int64.toUInt64 63) = UInt64.ofNat k := by decide +kernel
theorem wb_sm : ∀ k, k < 64 → (BitVec.ofNat 64 k).smod 64 = BitVec.ofNat 64 k := by decide +kernel
theorem wb_pw {a b : Nat} (h : a ≤ b) : 2 ^ b = 2 ^ a * 2 ^ (b - a) := by rw [← Nat.pow_add]; congr 1; omega
theorem wb_lt2 {a b : Nat} (h : a < b) : 2 ^ a < 2 ^ b := Nat.pow_lt_pow_right (by decide) h
theorem wb_mod (n : Nat) : lN n = lN (n % 2 ^ 64) := wb_inj (by rw [wb_tb, wb_tb]; apply BitVec.eq_of_toNat_eq; rw [BitVec.toNat_ofNat, BitVec.toNat_ofNat, Nat.mod_mod])
theorem wb_shr {n k : Nat} (hn : n < 2 ^ 64) (hk : k < 64) : ((lN n).toUInt64 >>> ((nI k).toInt64.toUInt64 &&& Int64.toUInt64 63)).toInt64 = lN (n / 2 ^ k) := by
  rw [wb_cu k hk]
  apply wb_inj
  apply BitVec.eq_of_toNat_eq
  show ((lN n).toUInt64 >>> UInt64.ofNat k).toNat = (BitVec.ofNat 64 _).toNat
  have h1 : (UInt64.ofNat k).toNat = k := by
    show (BitVec.ofNat 64 k).toNat = k
    rw [BitVec.toNat_ofNat, Nat.mod_eq_of_lt (by omega)]
  have h2 : (lN n).toUInt64.toNat = n := wb_tn hn
  rw [UInt64.toNat_shiftRight, h1, h2, Nat.mod_eq_of_lt hk, Nat.shiftRight_eq_div_pow, BitVec.toNat_ofNat, Nat.mod_eq_of_lt (Nat.lt_of_le_of_lt (Nat.div_le_self _ _) hn)]
theorem wb_shl (n : Nat) {k : Nat} (hk : k < 64) : lN n <<< ((nI k).toInt64 &&& 63) = lN (n * 2 ^ k) := by
  rw [wb_c k hk]
  apply wb_inj
  rw [Int64.toBitVec_shiftLeft, wb_tb, wb_tb, wb_tb, wb_sm k hk]
  apply BitVec.eq_of_toNat_eq
  rw [BitVec.shiftLeft_eq', BitVec.toNat_shiftLeft, BitVec.toNat_ofNat, BitVec.toNat_ofNat, BitVec.toNat_ofNat, Nat.mod_eq_of_lt (show k < 2 ^ 64 by omega), Nat.shiftLeft_eq, Nat.mul_mod, Nat.mod_mod, ← Nat.mul_mod]
theorem wb_and {a b : Nat} (ha : a < 2 ^ 64) (hb : b < 2 ^ 64) : lN a &&& lN b = lN (a &&& b) := by
  apply wb_inj
  rw [Int64.toBitVec_and, wb_tb, wb_tb, wb_tb]
  apply BitVec.eq_of_toNat_eq
  rw [BitVec.toNat_and, BitVec.toNat_ofNat, BitVec.toNat_ofNat, BitVec.toNat_ofNat, Nat.mod_eq_of_lt ha, Nat.mod_eq_of_lt hb, Nat.mod_eq_of_lt (Nat.and_lt_two_pow _ hb)]
theorem wb_or {a b : Nat} (ha : a < 2 ^ 64) (hb : b < 2 ^ 64) : lN a ||| lN b = lN (a ||| b) := by
  apply wb_inj
  rw [Int64.toBitVec_or, wb_tb, wb_tb, wb_tb]
  apply BitVec.eq_of_toNat_eq
  rw [BitVec.toNat_or, BitVec.toNat_ofNat, BitVec.toNat_ofNat, BitVec.toNat_ofNat, Nat.mod_eq_of_lt ha, Nat.mod_eq_of_lt hb, Nat.mod_eq_of_lt (Nat.or_lt_two_pow ha hb)]
theorem wb_mask {n k : Nat} (hn : n < 2 ^ 64) (hk : k < 64) : lN n &&& lN (2 ^ k - 1) = lN (n % 2 ^ k) := by
  rw [wb_and hn (by have := wb_lt2 hk; omega), Nat.and_two_pow_sub_one_eq_mod]
theorem wb_a1 {n : Nat} (hn : n < 2 ^ 64) : lN n &&& 1 = lN (n % 2) := wb_mask (k := 1) hn (by decide)
theorem wb_bit {n k : Nat} (hn : n < 2 ^ 64) (hk : k < 64) : ((lN n).toUInt64 >>> ((nI k).toInt64.toUInt64 &&& Int64.toUInt64 63)).toInt64 &&& 1 = lN (n / 2 ^ k % 2) := by
  rw [wb_shr hn hk, wb_a1 (Nat.lt_of_le_of_lt (Nat.div_le_self _ _) hn)]
/-! rows of results -/
theorem gb_lN {n p : Nat} (hp : p < 64) : gb (lN n) p = n.testBit p := by
  unfold gb
  rw [wb_tb, BitVec.getLsbD_ofNat]
  simp [hp]
theorem ba_gb {N p : Nat} (L : Int64) (hp : p < 64) : fX7_bitAt N L (nI p) = some (nI (if gb L p = true then 1 else 0)) := by
  obtain ⟨n, hn, rfl⟩ := wb_of L
  rw [fX7_bitAt, lush, wb_bit hn hp, lN_i, gb_lN hp, Nat.testBit_eq_decide_div_mod_eq]
  by_cases q : n / 2 ^ p % 2 = 1
  · rw [if_pos (decide_eq_true q), q]
  · rw [if_neg (fun z => q (of_decide_eq_true z)), show n / 2 ^ p % 2 = 0 by omega]
def RV (lo mi hi : Nat → Int64) (row : Nat) (f : Nat → Nat) : Prop := ∀ w, w < 8 → B3 (lo (row * 8 + w)) (mi (row * 8 + w)) (hi (row * 8 + w)) (fun p => f (64 * w + p))
theorem cell_e {row w : Nat} : nI row * (8 : Int32) + nI w = nI (row * 8 + w) := by rw [show (8 : Int32) = nI 8 from rfl, pk_mul, nI_add]
theorem row_loop {N k row : Nat} {sg sc wa ow pl sp pn : Nat → Int32} {ch sgn : Int32} (hN : 60 ≤ N) (h : WF sg k) (hk : k ≤ 24) (hs : SC sg sc k) (hT : TXs sg k 0 wa ow pl sp pn) (hch : ∀ i, i < k → sc i = if nI i = ch then sgn else sg i) (hrow : row < 98) : ∀ (d w n : Nat), w + d = 8 → d < n → ∀ (wl wm wh who lo mi hi : Nat → Int64), (∀ w', w' < w → B3 (lo (row * 8 + w')) (mi (row * 8 + w')) (hi (row * 8 + w')) (fun p => val sg sc (64 * w' + p) 0)) →
    ∃ wl' wm' wh' who' lo' mi' hi', bX7_workOutChanged_3 N sg wa pn (nI k) n (nI row) ch sgn (nI w) wl wm wh who lo mi hi = some (wl', wm', wh', who', lo', mi', hi') ∧ RV lo' mi' hi' row (fun x => val sg sc x 0) ∧ ∀ c, (c < row * 8 ∨ row * 8 + 8 ≤ c) → lo' c = lo c ∧ mi' c = mi c ∧ hi' c = hi c := by
  intro d
  induction d with
  | zero =>
    intro w n hw hn wl wm wh who lo mi hi hv
    obtain ⟨n, rfl⟩ : ∃ j, n = j + 1 := ⟨n - 1, by omega⟩
    have e : w = 8 := by omega
    subst e
    exact ⟨wl, wm, wh, who, lo, mi, hi, by rw [bX7_workOutChanged_3, if_pos (show (8 : Int32) ≤ nI 8 by decide)], hv, fun _ _ => ⟨rfl, rfl, rfl⟩⟩
  | succ d ih =>
    intro w n hw hn wl wm wh who lo mi hi hv
    obtain ⟨n, rfl⟩ : ∃ j, n = j + 1 := ⟨n - 1, by omega⟩
    obtain ⟨wl', wm', wh', who', e, hC⟩ := st_workC (N := N) (w := w) (lo := wl) (mi := wm) (hi := wh) (ho := who) hN h hk hs (by omega) hT hch
    rw [bX7_workOutChanged_3, if_neg (show ¬ (8 : Int32) ≤ nI w from nI_ge (a := w) (b := 8) (by omega) (by decide)), e, Option.bind_some]
    dsimp only
    rw [cell_e, un_bnd (by omega) (by decide), un_cl (show row * 8 + w < 2 ^ 31 by omega), cp_0, nI_1]
    obtain ⟨a1, a2, a3, a4, a5, a6, a7, r1, r2, r3⟩ := ih (w + 1) n (by omega) (by omega) wl' wm' wh' who' (vp_updL lo (row * 8 + w) (wl' 0)) (vp_updL mi (row * 8 + w) (wm' 0)) (vp_updL hi (row * 8 + w) (wh' 0)) (fun w' hw' => by
      by_cases q : w' = w
      · subst q; rw [pk_uLs, pk_uLs, pk_uLs]; exact (hC 0 (by omega) h.1).1
      · rw [pk_uLn (by omega), pk_uLn (by omega), pk_uLn (by omega)]; exact hv w' (by omega))
    refine ⟨a1, a2, a3, a4, a5, a6, a7, r1, r2, fun c hc => ?_⟩
    obtain ⟨s1, s2, s3⟩ := r3 c hc
    rw [pk_uLn (by omega)] at s1 s2 s3
    exact ⟨s1, s2, s3⟩
theorem st_row {N k row : Nat} {sg sc wa ow pl sp pn : Nat → Int32} {ch sgn : Int32} {wl wm wh who lo mi hi : Nat → Int64} (hN : 60 ≤ N) (h : WF sg k) (hk : k ≤ 24) (hs : SC sg sc k) (hT : TXs sg k 0 wa ow pl sp pn) (hch : ∀ i, i < k → sc i = if nI i = ch then sgn else sg i) (hrow : row < 98) :
    ∃ wl' wm' wh' who' lo' mi' hi', fX7_workOutChanged N sg wa pn (nI k) (nI row) ch sgn wl wm wh who lo mi hi = some (wl', wm', wh', who', lo', mi', hi') ∧ RV lo' mi' hi' row (fun x => val sg sc x 0) ∧ ∀ c, (c < row * 8 ∨ row * 8 + 8 ≤ c) → lo' c = lo c ∧ mi' c = mi c ∧ hi' c = hi c :=
  row_loop hN h hk hs hT hch hrow 8 0 N (by omega) (by omega) wl wm wh who lo mi hi (fun w' hw' => by omega)
theorem RV.keep {lo mi hi lo' mi' hi' : Nat → Int64} {row : Nat} {f : Nat → Nat} (h : RV lo mi hi row f) (hk : ∀ w, w < 8 → lo' (row * 8 + w) = lo (row * 8 + w) ∧ mi' (row * 8 + w) = mi (row * 8 + w) ∧ hi' (row * 8 + w) = hi (row * 8 + w)) : RV lo' mi' hi' row f := fun w hw => by
  obtain ⟨e1, e2, e3⟩ := hk w hw
  rw [e1, e2, e3]
  exact h w hw
theorem t3 : ∀ v, v < 8 → (if v.testBit 0 = true then 1 else 0) + 2 * (if v.testBit 1 = true then 1 else 0) + 4 * (if v.testBit 2 = true then 1 else 0) = v := by decide
theorem div64 {x : Nat} (hx : x < 512) : nI x / (64 : Int32) = nI (x / 64) := pk_div (a := x) (d := 64) (by omega) (by decide) (by decide)
theorem rem64 {x : Nat} (hx : x < 512) : nI x - nI x / (64 : Int32) * (64 : Int32) = nI (x % 64) := pk_rem (a := x) (d := 64) (by omega) (by decide) (by decide)
theorem st_at {N row x : Nat} {lo mi hi : Nat → Int64} {f : Nat → Nat} (h : RV lo mi hi row f) (hf : ∀ x, f x < 8) (hrow : row < 98) (hx : x < 512) : fX7_at N lo mi hi (nI row) (nI x) = some (nI (f x)) := by
  obtain ⟨b0, b1, b2⟩ := h (x / 64) (by omega) (x % 64) (by omega)
  have ex : 64 * (x / 64) + x % 64 = x := by omega
  dsimp only at b0 b1 b2
  rw [ex] at b0 b1 b2
  rw [fX7_at, rem64 hx, div64 hx, cell_e, un_bnd (by omega) (by decide), un_cl (by omega), ba_gb _ (by omega), Option.bind_some, ba_gb _ (by omega), Option.bind_some, ba_gb _ (by omega), Option.bind_some, b0, b1, b2, show (2 : Int32) = nI 2 from rfl, show (4 : Int32) = nI 4 from rfl, pk_mul, pk_mul, nI_add, nI_add, t3 _ (hf x)]
theorem tq_ne : ∀ a, a < 8 → ∀ b, b < 8 → (((a.testBit 0 ^^ b.testBit 0) || (a.testBit 1 ^^ b.testBit 1)) || (a.testBit 2 ^^ b.testBit 2)) = decide (¬ a = b) := by decide +kernel
theorem st_unlike {N r1 r2 w : Nat} {lo mi hi : Nat → Int64} {f g : Nat → Nat} (h1 : RV lo mi hi r1 f) (h2 : RV lo mi hi r2 g) (hf : ∀ x, f x < 8) (hg : ∀ x, g x < 8) (hr1 : r1 < 98) (hr2 : r2 < 98) (hw : w < 8) : ∃ L, fX7_unlike N lo mi hi (nI r1) (nI r2) (nI w) = some L ∧ ∀ p, p < 64 → gb L p = decide (¬ f (64 * w + p) = g (64 * w + p)) := by
  rw [fX7_unlike, cell_e, cell_e, un_bnd (by omega) (by decide), un_bnd (by omega) (by decide), un_cl (show r1 * 8 + w < 2 ^ 31 by omega), un_cl (show r2 * 8 + w < 2 ^ 31 by omega)]
  refine ⟨_, rfl, fun p hp => ?_⟩
  obtain ⟨a0, a1, a2⟩ := h1 w hw p hp
  obtain ⟨b0, b1, b2⟩ := h2 w hw p hp
  simp only [gb_xor, gb_or, a0, a1, a2, b0, b1, b2]
  exact tq_ne _ (hf _) _ (hg _)
theorem st_isUnlike {N r1 r2 x : Nat} {lo mi hi : Nat → Int64} {f g : Nat → Nat} (h1 : RV lo mi hi r1 f) (h2 : RV lo mi hi r2 g) (hf : ∀ x, f x < 8) (hg : ∀ x, g x < 8) (hr1 : r1 < 98) (hr2 : r2 < 98) (hx : x < 512) : fX7_isUnlikeAt N lo mi hi (nI r1) (nI r2) (nI x) = some (if f x = g x then 0 else 1) := by
  obtain ⟨L, e, hL⟩ := st_unlike (N := N) (w := x / 64) h1 h2 hf hg hr1 hr2 (by omega)
  have ex : 64 * (x / 64) + x % 64 = x := by omega
  have hp := hL (x % 64) (by omega)
  rw [ex] at hp
  rw [fX7_isUnlikeAt, rem64 hx, div64 hx, e, Option.bind_some, ba_gb _ (by omega), Option.bind_some, hp]
  by_cases q : f x = g x
  · rw [if_neg (show ¬ decide (¬ f x = g x) = true from fun z => (of_decide_eq_true z) q), if_pos (show nI 0 = 0 from rfl), if_pos q]
  · rw [if_pos (show decide (¬ f x = g x) = true from decide_eq_true q), if_neg (show ¬ nI 1 = 0 by decide), if_neg q]
