/-! the class works out 64 inputs at once: rows of bits -/
def gb (L : Int64) (p : Nat) : Bool := L.toBitVec.getLsbD p
theorem gb_xor (a b : Int64) (p : Nat) : gb (a ^^^ b) p = (gb a p ^^ gb b p) := by unfold gb; rw [Int64.toBitVec_xor, BitVec.getLsbD_xor]
theorem gb_and (a b : Int64) (p : Nat) : gb (a &&& b) p = (gb a p && gb b p) := by unfold gb; rw [Int64.toBitVec_and, BitVec.getLsbD_and]
theorem gb_or (a b : Int64) (p : Nat) : gb (a ||| b) p = (gb a p || gb b p) := by unfold gb; rw [Int64.toBitVec_or, BitVec.getLsbD_or]
theorem gb_m1 : ∀ p, p < 64 → gb (-1) p = true := by decide +kernel
def B3 (lo mi hi : Int64) (v : Nat → Nat) : Prop := ∀ p, p < 64 → gb lo p = (v p).testBit 0 ∧ gb mi p = (v p).testBit 1 ∧ gb hi p = (v p).testBit 2
theorem t_sum : ∀ a, a < 8 → ∀ b, b < 8 → (a.testBit 0 ^^ b.testBit 0) = ((a + b) % 8).testBit 0 ∧ ((a.testBit 1 ^^ b.testBit 1) ^^ (a.testBit 0 && b.testBit 0)) = ((a + b) % 8).testBit 1 ∧ ((a.testBit 2 ^^ b.testBit 2) ^^ ((a.testBit 1 && b.testBit 1) || ((a.testBit 1 ^^ b.testBit 1) && (a.testBit 0 && b.testBit 0)))) = ((a + b) % 8).testBit 2 := by decide +kernel
theorem t_dif : ∀ a, a < 8 → ∀ b, b < 8 → (a.testBit 0 ^^ b.testBit 0) = ((a + 8 - b) % 8).testBit 0 ∧ ((a.testBit 1 ^^ b.testBit 1) ^^ ((a.testBit 0 ^^ true) && b.testBit 0)) = ((a + 8 - b) % 8).testBit 1 ∧ ((a.testBit 2 ^^ b.testBit 2) ^^ (((a.testBit 1 ^^ true) && b.testBit 1) || (((a.testBit 1 ^^ b.testBit 1) ^^ true) && ((a.testBit 0 ^^ true) && b.testBit 0)))) = ((a + 8 - b) % 8).testBit 2 := by decide +kernel
theorem t_pro : ∀ a, a < 8 → ∀ b, b < 8 → (a.testBit 0 && b.testBit 0) = (a * b % 8).testBit 0 ∧ ((a.testBit 1 && b.testBit 0) ^^ (a.testBit 0 && b.testBit 1)) = (a * b % 8).testBit 1 ∧ ((((a.testBit 2 && b.testBit 0) ^^ (a.testBit 1 && b.testBit 1)) ^^ (a.testBit 0 && b.testBit 2)) ^^ ((a.testBit 1 && b.testBit 0) && (a.testBit 0 && b.testBit 1))) = (a * b % 8).testBit 2 := by decide +kernel
theorem t_bel : ∀ a, a < 8 → ∀ b, b < 8 → (((a.testBit 2 ^^ true) && b.testBit 2) || (((a.testBit 2 ^^ b.testBit 2) ^^ true) && (((a.testBit 1 ^^ true) && b.testBit 1) || (((a.testBit 1 ^^ b.testBit 1) ^^ true) && ((a.testBit 0 ^^ true) && b.testBit 0))))) = decide (a < b) := by decide +kernel
theorem t_sam : ∀ a, a < 8 → ∀ b, b < 8 → ((((a.testBit 0 ^^ b.testBit 0) || (a.testBit 1 ^^ b.testBit 1)) || (a.testBit 2 ^^ b.testBit 2)) ^^ true) = decide (a = b) := by decide +kernel
theorem t_cho (q a b : Bool) : ((q && a) || ((q ^^ true) && b)) = if q = true then a else b := by cases q <;> cases a <;> cases b <;> rfl
section
variable {N m x y : Nat} {lo mi hi : Nat → Int64} {vx vy : Nat → Nat}
theorem o_put {L M H : Int64} (hm : m < 24) : fX10_put N (nI m) L M H lo mi hi = some (vp_updL lo m L, vp_updL mi m M, vp_updL hi m H) := by
  rw [fX10_put, un_bnd hm (by decide), un_cl (by omega)]
theorem o_sum (hm : m < 24) (hx : x < 24) (hy : y < 24) (bx : B3 (lo x) (mi x) (hi x) vx) (by_ : B3 (lo y) (mi y) (hi y) vy) (v8 : ∀ p, vx p < 8 ∧ vy p < 8) : ∃ L M H, fX10_putSum N (nI m) (nI x) (nI y) lo mi hi = some (vp_updL lo m L, vp_updL mi m M, vp_updL hi m H) ∧ B3 L M H (fun p => (vx p + vy p) % 8) := by
  rw [fX10_putSum, un_bnd hx (by decide), un_bnd hy (by decide), bX10_putSum_15, un_bnd hx (by decide), un_bnd hy (by decide), bX10_putSum_47, un_bnd hx (by decide), un_bnd hy (by decide), o_put hm, Option.bind_some, un_cl (show x < 2 ^ 31 by omega), un_cl (show y < 2 ^ 31 by omega)]
  refine ⟨_, _, _, rfl, fun p hp => ?_⟩
  obtain ⟨a0, a1, a2⟩ := bx p hp
  obtain ⟨b0, b1, b2⟩ := by_ p hp
  obtain ⟨t0, t1, t2⟩ := t_sum (vx p) (v8 p).1 (vy p) (v8 p).2
  simp only [gb_xor, gb_and, gb_or, a0, a1, a2, b0, b1, b2]
  exact ⟨t0, t1, t2⟩
theorem o_dif (hm : m < 24) (hx : x < 24) (hy : y < 24) (bx : B3 (lo x) (mi x) (hi x) vx) (by_ : B3 (lo y) (mi y) (hi y) vy) (v8 : ∀ p, vx p < 8 ∧ vy p < 8) : ∃ L M H, fX10_putDifference N (nI m) (nI x) (nI y) lo mi hi = some (vp_updL lo m L, vp_updL mi m M, vp_updL hi m H) ∧ B3 L M H (fun p => (vx p + 8 - vy p) % 8) := by
  rw [fX10_putDifference, un_bnd hx (by decide), un_bnd hy (by decide), bX10_putDifference_19, un_bnd hx (by decide), un_bnd hy (by decide), bX10_putDifference_59, un_bnd hx (by decide), un_bnd hy (by decide), o_put hm, Option.bind_some, un_cl (show x < 2 ^ 31 by omega), un_cl (show y < 2 ^ 31 by omega)]
  refine ⟨_, _, _, rfl, fun p hp => ?_⟩
  obtain ⟨a0, a1, a2⟩ := bx p hp
  obtain ⟨b0, b1, b2⟩ := by_ p hp
  obtain ⟨t0, t1, t2⟩ := t_dif (vx p) (v8 p).1 (vy p) (v8 p).2
  simp only [gb_xor, gb_and, gb_or, a0, a1, a2, b0, b1, b2, gb_m1 p hp]
  exact ⟨t0, t1, t2⟩
theorem o_pro (hm : m < 24) (hx : x < 24) (hy : y < 24) (bx : B3 (lo x) (mi x) (hi x) vx) (by_ : B3 (lo y) (mi y) (hi y) vy) (v8 : ∀ p, vx p < 8 ∧ vy p < 8) : ∃ L M H, fX10_putProduct N (nI m) (nI x) (nI y) lo mi hi = some (vp_updL lo m L, vp_updL mi m M, vp_updL hi m H) ∧ B3 L M H (fun p => vx p * vy p % 8) := by
  rw [fX10_putProduct, un_bnd hx (by decide), un_bnd hy (by decide), bX10_putProduct_15, un_bnd hx (by decide), un_bnd hy (by decide), bX10_putProduct_30, un_bnd hx (by decide), un_bnd hy (by decide), bX10_putProduct_73, un_bnd hx (by decide), un_bnd hy (by decide), o_put hm, Option.bind_some, un_cl (show x < 2 ^ 31 by omega), un_cl (show y < 2 ^ 31 by omega)]
  refine ⟨_, _, _, rfl, fun p hp => ?_⟩
  obtain ⟨a0, a1, a2⟩ := bx p hp
  obtain ⟨b0, b1, b2⟩ := by_ p hp
  obtain ⟨t0, t1, t2⟩ := t_pro (vx p) (v8 p).1 (vy p) (v8 p).2
  simp only [gb_xor, gb_and, gb_or, a0, a1, a2, b0, b1, b2]
  exact ⟨t0, t1, t2⟩
theorem o_bel (hx : x < 24) (hy : y < 24) (bx : B3 (lo x) (mi x) (hi x) vx) (by_ : B3 (lo y) (mi y) (hi y) vy) (v8 : ∀ p, vx p < 8 ∧ vy p < 8) : ∃ L, fX10_below N lo mi hi (nI x) (nI y) = some L ∧ ∀ p, p < 64 → gb L p = decide (vx p < vy p) := by
  rw [fX10_below, un_bnd hx (by decide), un_bnd hy (by decide), bX10_below_18, un_bnd hx (by decide), un_bnd hy (by decide), bX10_below_57, un_bnd hx (by decide), un_bnd hy (by decide), un_cl (show x < 2 ^ 31 by omega), un_cl (show y < 2 ^ 31 by omega)]
  refine ⟨_, rfl, fun p hp => ?_⟩
  obtain ⟨a0, a1, a2⟩ := bx p hp
  obtain ⟨b0, b1, b2⟩ := by_ p hp
  simp only [gb_xor, gb_and, gb_or, a0, a1, a2, b0, b1, b2, gb_m1 p hp]
  exact t_bel (vx p) (v8 p).1 (vy p) (v8 p).2
theorem o_sam (hx : x < 24) (hy : y < 24) (bx : B3 (lo x) (mi x) (hi x) vx) (by_ : B3 (lo y) (mi y) (hi y) vy) (v8 : ∀ p, vx p < 8 ∧ vy p < 8) : ∃ L, fX10_same N lo mi hi (nI x) (nI y) = some L ∧ ∀ p, p < 64 → gb L p = decide (vx p = vy p) := by
  rw [fX10_same, un_bnd hx (by decide), un_bnd hy (by decide), un_cl (show x < 2 ^ 31 by omega), un_cl (show y < 2 ^ 31 by omega)]
  refine ⟨_, rfl, fun p hp => ?_⟩
  obtain ⟨a0, a1, a2⟩ := bx p hp
  obtain ⟨b0, b1, b2⟩ := by_ p hp
  simp only [gb_xor, gb_and, gb_or, a0, a1, a2, b0, b1, b2, gb_m1 p hp]
  exact t_sam (vx p) (v8 p).1 (vy p) (v8 p).2
theorem o_cho {L : Int64} {q : Nat → Bool} (hm : m < 24) (hx : x < 24) (hy : y < 24) (bx : B3 (lo x) (mi x) (hi x) vx) (by_ : B3 (lo y) (mi y) (hi y) vy) (hq : ∀ p, p < 64 → gb L p = q p) : ∃ L' M H, fX10_putChoice N (nI m) L (nI x) (nI y) lo mi hi = some (vp_updL lo m L', vp_updL mi m M, vp_updL hi m H) ∧ B3 L' M H (fun p => if q p = true then vx p else vy p) := by
  rw [fX10_putChoice, un_bnd hx (by decide), un_bnd hy (by decide), o_put hm, Option.bind_some, un_cl (show x < 2 ^ 31 by omega), un_cl (show y < 2 ^ 31 by omega)]
  refine ⟨_, _, _, rfl, fun p hp => ?_⟩
  obtain ⟨a0, a1, a2⟩ := bx p hp
  obtain ⟨b0, b1, b2⟩ := by_ p hp
  simp only [gb_xor, gb_and, gb_or, a0, a1, a2, b0, b1, b2, gb_m1 p hp, hq p hp, t_cho]
  by_cases z : q p = true
  · rw [if_pos z, if_pos z, if_pos z, if_pos z]; exact ⟨rfl, rfl, rfl⟩
  · rw [if_neg z, if_neg z, if_neg z, if_neg z]; exact ⟨rfl, rfl, rfl⟩
end
theorem num8 : ∀ n, n < 8 → ∀ p, p < 64 → gb (-((Int32.toInt64 (nI n)) &&& 1)) p = n.testBit 0 ∧ gb (-((Int32.toInt64 (nI n >>> ((1 : Int32) &&& 31))) &&& 1)) p = n.testBit 1 ∧ gb (-((Int32.toInt64 (nI n >>> ((2 : Int32) &&& 31))) &&& 1)) p = n.testBit 2 := by decide +kernel
theorem bin8 : ∀ p, p < 64 → gb (-71777214294589696) p = (p / 8 % 8).testBit 0 ∧ gb (-281470681808896) p = (p / 8 % 8).testBit 1 ∧ gb (-4294967296) p = (p / 8 % 8).testBit 2 := by decide +kernel
theorem cin8 : ∀ p, p < 64 → gb (-6148914691236517206) p = (p % 8).testBit 0 ∧ gb (-3689348814741910324) p = (p % 8).testBit 1 ∧ gb (-1085102592571150096) p = (p % 8).testBit 2 := by decide +kernel
theorem o_num {N m n : Nat} {lo mi hi : Nat → Int64} (hm : m < 24) (hn : n < 8) : ∃ L M H, fX10_putNumber N (nI m) (nI n) lo mi hi = some (vp_updL lo m L, vp_updL mi m M, vp_updL hi m H) ∧ B3 L M H (fun _ => n) := by
  rw [fX10_putNumber, o_put hm, Option.bind_some]
  exact ⟨_, _, _, rfl, fun p hp => num8 n hn p hp⟩
theorem o_leaf {N m w v1 v2 v3 v4 : Nat} {c : Int32} {lo mi hi : Nat → Int64} (hm : m < 24) (hw : w < 8) (hc : pw c = 0) : ∃ L M H, fX10_putLeaf N (nI m) c (nI w) lo mi hi = some (vp_updL lo m L, vp_updL mi m M, vp_updL hi m H) ∧ B3 L M H (fun p => stp c (64 * w + p) v1 v2 v3 v4) := by
  rw [fX10_putLeaf]
  by_cases c1 : c = 97
  · rw [if_pos c1]
    obtain ⟨L, M, H, e, b⟩ := o_num (N := N) (lo := lo) (mi := mi) (hi := hi) hm hw
    refine ⟨L, M, H, by rw [e, Option.bind_some], fun p hp => ?_⟩
    have e2 : stp c (64 * w + p) v1 v2 v3 v4 = w := by
      unfold stp; rw [if_pos c1]; omega
    show gb L p = (stp c (64 * w + p) v1 v2 v3 v4).testBit 0 ∧ gb M p = (stp c (64 * w + p) v1 v2 v3 v4).testBit 1 ∧ gb H p = (stp c (64 * w + p) v1 v2 v3 v4).testBit 2
    rw [e2]; exact b p hp
  rw [if_neg c1]
  by_cases c2 : c = 98
  · rw [if_pos c2]
    rw [o_put hm, Option.bind_some]
    refine ⟨_, _, _, rfl, fun p hp => ?_⟩
    have e2 : stp c (64 * w + p) v1 v2 v3 v4 = p / 8 % 8 := by
      unfold stp; rw [if_neg c1, if_pos c2]; omega
    show gb _ p = (stp c (64 * w + p) v1 v2 v3 v4).testBit 0 ∧ gb _ p = (stp c (64 * w + p) v1 v2 v3 v4).testBit 1 ∧ gb _ p = (stp c (64 * w + p) v1 v2 v3 v4).testBit 2
    rw [e2]; exact bin8 p hp
  rw [if_neg c2]
  by_cases c3 : c = 99
  · rw [if_pos c3]
    rw [o_put hm, Option.bind_some]
    refine ⟨_, _, _, rfl, fun p hp => ?_⟩
    have e2 : stp c (64 * w + p) v1 v2 v3 v4 = p % 8 := by
      unfold stp; rw [if_neg c1, if_neg c2, if_pos c3]; omega
    show gb _ p = (stp c (64 * w + p) v1 v2 v3 v4).testBit 0 ∧ gb _ p = (stp c (64 * w + p) v1 v2 v3 v4).testBit 1 ∧ gb _ p = (stp c (64 * w + p) v1 v2 v3 v4).testBit 2
    rw [e2]; exact cin8 p hp
  rw [if_neg c3]
  have key : ∀ p, p < 64 → c - 48 = nI (stp c (64 * w + p) v1 v2 v3 v4) := fun p hp => by
    rcases lfM (x := 64 * w + p) (v1 := v1) (v2 := v2) (v3 := v3) (v4 := v4) hc (by omega) with ⟨⟨q1, q2⟩, -⟩ | ⟨-, q⟩
    · rcases (show c.toInt = 97 ∨ c.toInt = 98 ∨ c.toInt = 99 by omega) with e | e | e
      · exact absurd (Int32.toInt_inj.mp e) c1
      · exact absurd (Int32.toInt_inj.mp e) c2
      · exact absurd (Int32.toInt_inj.mp e) c3
    · exact q
  have kc : ∀ p, p < 64 → stp c (64 * w + p) v1 v2 v3 v4 = stp c (64 * w + 0) v1 v2 v3 v4 ∨ ¬ (stp c (64 * w + p) v1 v2 v3 v4 < 8 ∧ stp c (64 * w + 0) v1 v2 v3 v4 < 8) := fun p hp => by
    by_cases z : stp c (64 * w + p) v1 v2 v3 v4 < 8 ∧ stp c (64 * w + 0) v1 v2 v3 v4 < 8
    · left
      have := (key p hp).symm.trans (key 0 (by decide))
      exact (nI_eq (by omega) (by omega)).mp this
    · exact Or.inr z
  have lt8 : ∀ p, stp c (64 * w + p) v1 v2 v3 v4 < 8 := fun p => by
    have e := stp_congr (c := c) (x := 64 * w + p) (v1 := v1) (v2 := v2) (v3 := v3) (v4 := v4) (u1 := 0) (u2 := 0) (u3 := 0) (u4 := 0) (fun q => by rw [hc] at q; exact absurd q (by decide)) (fun q => by rw [hc] at q; exact absurd q (by decide))
    rw [e]
    exact stp_lt (by decide) (by decide) (by decide) (by decide)
  rw [key 0 (by decide)]
  obtain ⟨L, M, H, e, b⟩ := o_num (N := N) (lo := lo) (mi := mi) (hi := hi) hm (lt8 0)
  refine ⟨L, M, H, by rw [e, Option.bind_some], fun p hp => ?_⟩
  have e2 := (kc p hp).resolve_right (fun z => z ⟨lt8 p, lt8 0⟩)
  show gb L p = (stp c (64 * w + p) v1 v2 v3 v4).testBit 0 ∧ gb M p = (stp c (64 * w + p) v1 v2 v3 v4).testBit 1 ∧ gb H p = (stp c (64 * w + p) v1 v2 v3 v4).testBit 2
  rw [e2]; exact b p hp
