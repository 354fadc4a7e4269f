/-! the changes of a node: class and reference lay the same -/
def CE (sg : Nat → Int32) (k m : Nat) (nd sn mn ms : Nat → Int32) : Prop := ∀ j, j < m → nd j = mn j ∧ sn j = ms j ∧ ∃ i c, i < k ∧ 33 ≤ c ∧ c < 127 ∧ nd j = nI i ∧ sn j = nI c ∧ pw (nI c) = pw (sg i)
theorem CE.add {sg nd sn mn ms : Nat → Int32} {k m i c : Nat} (h : CE sg k m nd sn mn ms) (hi : i < k) (h1 : 33 ≤ c) (h2 : c < 127) (hp : pw (nI c) = pw (sg i)) : CE sg k (m + 1) (upd nd m (nI i)) (upd sn m (nI c)) (upd mn m (nI i)) (upd ms m (nI c)) := fun j hj => by
  by_cases q : j = m
  · subst q; rw [pk_us, pk_us, pk_us, pk_us]; exact ⟨rfl, rfl, i, c, hi, h1, h2, rfl, rfl, hp⟩
  · rw [pk_un q, pk_un q, pk_un q, pk_un q]; exact h j (by omega)
theorem ap_C {N m : Nat} {x s : Int32} {nd sn : Nat → Int32} (hm : m < 96) : fX1_append N x s nd sn (nI m) = some (upd nd m x, upd sn m s, nI (m + 1)) := by
  rw [fX1_append, if_neg (show ¬ (96 : Int32) ≤ nI m from nI_ge (a := m) (b := 96) hm (by decide)), un_bnd hm (by decide), un_cl (by omega), nI_1]
theorem ap_M {N m : Nat} {x s : Int32} {nd sn : Nat → Int32} (hm : m < 96) : fX12_add N x s (nI m) nd sn = some (nI (m + 1), upd nd m x, upd sn m s) := by
  rw [fX12_add, un_bnd hm (by decide), un_cl (by omega), nI_1]
def fr (g : Nat) : Nat := if g = 0 then 0 else if g = 1 then 5 else 8
def pwk (g : Nat) : Int32 := if g = 0 then 2 else if g = 1 then 4 else 0
theorem len8 : ∀ g, g < 3 → fJ0_length_8abf5 0 g = some (nI (sln g)) ∧ sln g ≤ 5 ∧ fr g + sln g ≤ 11 := by decide +kernel
theorem chr8 : ∀ g, g < 3 → ∀ j, j < sln g → fJ0_charAt_5068e 0 g (nI j) = some (sby g j) ∧ kn0 (fr g + j) = sby g j ∧ 33 ≤ (sby g j).toInt.toNat ∧ (sby g j).toInt.toNat < 127 ∧ sby g j = nI (sby g j).toInt.toNat ∧ pw (sby g j) = pwk g := by decide +kernel
def nb (c : Int32) (g : Nat) : Nat → Nat → Nat
  | 0, _ => 0
  | d + 1, j => (if sby g j = c then 0 else 1) + nb c g d (j + 1)
theorem lst_loop {N k i g : Nat} {c : Int32} {sg ns : Nat → Int32} (hi : i < k) (hg : g < 3) (hp : pwk g = pw (sg i)) : ∀ (d j nA nB m : Nat) (nd sn mn ms : Nat → Int32), j + d = sln g → d < nA → d < nB → m + nb c g d j ≤ 96 → CE sg k m nd sn mn ms →
    ∃ nd' sn' mn' ms', bX1_listOfNode_52 N nA (nI i) c g (nI j) nd sn (nI m) = some (nd', sn', nI (m + nb c g d j)) ∧ bX12_addFor_106 N ns kn0 nB (nI i) c (nI (fr g + sln g)) (nI (fr g + j)) (nI m) mn ms = some (nI (m + nb c g d j), mn', ms') ∧ CE sg k (m + nb c g d j) nd' sn' mn' ms' := by
  obtain ⟨l1, l2, l3⟩ := len8 g hg
  have l1' : fJ0_length_8abf5 N g = some (nI (sln g)) := l1
  intro d
  induction d with
  | zero =>
    intro j nA nB m nd sn mn ms hj hA hB hm hC
    obtain ⟨nA, rfl⟩ : ∃ z, nA = z + 1 := ⟨nA - 1, by omega⟩
    obtain ⟨nB, rfl⟩ : ∃ z, nB = z + 1 := ⟨nB - 1, by omega⟩
    have e : j = sln g := by omega
    subst e
    refine ⟨nd, sn, mn, ms, ?_, ?_, hC⟩
    · rw [bX1_listOfNode_52, sg_lt hg, l1', Option.bind_some, if_pos (nI_le (Nat.le_refl _) (by omega))]; rfl
    · rw [bX12_addFor_106, if_pos (nI_le (Nat.le_refl _) (by omega))]; rfl
  | succ d ih =>
    intro j nA nB m nd sn mn ms hj hA hB hm hC
    obtain ⟨nA, rfl⟩ : ∃ z, nA = z + 1 := ⟨nA - 1, by omega⟩
    obtain ⟨nB, rfl⟩ : ∃ z, nB = z + 1 := ⟨nB - 1, by omega⟩
    obtain ⟨c1, c2, c3, c4, c5, c6⟩ := chr8 g hg j (by omega)
    have c1' : fJ0_charAt_5068e N g (nI j) = some (sby g j) := c1
    rw [bX1_listOfNode_52, sg_lt hg, l1', Option.bind_some, if_neg (nI_ge (by omega) (by omega)), sg_lt hg, c1', Option.bind_some, bX12_addFor_106, if_neg (nI_ge (by omega) (by omega)), un_bnd (by omega) (by decide), un_cl (by omega), c2, nI_1, nI_1]
    have hnb : nb c g (d + 1) j = (if sby g j = c then 0 else 1) + nb c g d (j + 1) := rfl
    by_cases q : sby g j = c
    · rw [if_pos q] at hnb
      rw [if_pos q, if_pos q, hnb, Nat.zero_add]
      exact ih (j + 1) nA nB m nd sn mn ms (by omega) (by omega) (by omega) (by omega) hC
    · rw [if_neg q] at hnb
      rw [if_neg q, if_neg q, sg_lt hg, Option.bind_some, ap_C (by omega), Option.bind_some, ap_M (by omega), Option.bind_some, hnb]
      dsimp only
      obtain ⟨nd', sn', mn', ms', r1, r2, r3⟩ := ih (j + 1) nA nB (m + 1) (upd nd m (nI i)) (upd sn m (sby g j)) (upd mn m (nI i)) (upd ms m (sby g j)) (by omega) (by omega) (by omega) (by omega) (by rw [c5]; exact hC.add hi c3 c4 (by rw [← c5, c6, hp]))
      rw [show m + (1 + nb c g d (j + 1)) = m + 1 + nb c g d (j + 1) by omega]
      exact ⟨nd', sn', mn', ms', r1, r2, r3⟩
theorem nb8 : ∀ c, c < 127 → 33 ≤ c → pw (nI c) = 0 ∨ pw (nI c) = 2 ∨ pw (nI c) = 4 → nb (nI c) (kd (nI c)) (sln (kd (nI c))) 0 ≤ 4 ∧ kd (nI c) < 3 ∧ (¬ ((48 : Int32) ≤ nI c ∧ nI c ≤ 55) → pwk (kd (nI c)) = pw (nI c)) := by decide +kernel
theorem ism8 : ∀ c, c < 127 → fX12_isNumber 0 (nI c) = some (if (48 : Int32) ≤ nI c ∧ nI c ≤ 55 then 1 else 0) := by decide +kernel
theorem nm8a : ∀ c, c < 127 → 33 ≤ c → (48 : Int32) ≤ nI c ∧ nI c ≤ 55 → ((48 : Int32) + (((nI c - 48) + 1) - ((nI c - 48) + 1) / 8 * 8)) = (48 : Int32) + (((nI c - 48) + 1) &&& 7) ∧ ((48 : Int32) + ((((nI c - 48) + 8) - 1) - (((nI c - 48) + 8) - 1) / 8 * 8)) = (48 : Int32) + (((nI c - 48) - 1) &&& 7) := by decide +kernel
theorem nm8b : ∀ c, c < 127 → 33 ≤ c → (48 : Int32) ≤ nI c ∧ nI c ≤ 55 → 33 ≤ ((48 : Int32) + (((nI c - 48) + 1) - ((nI c - 48) + 1) / 8 * 8)).toInt.toNat ∧ ((48 : Int32) + (((nI c - 48) + 1) - ((nI c - 48) + 1) / 8 * 8)).toInt.toNat < 127 ∧ ((48 : Int32) + (((nI c - 48) + 1) - ((nI c - 48) + 1) / 8 * 8)) = nI ((48 : Int32) + (((nI c - 48) + 1) - ((nI c - 48) + 1) / 8 * 8)).toInt.toNat ∧ pw ((48 : Int32) + (((nI c - 48) + 1) - ((nI c - 48) + 1) / 8 * 8)) = pw (nI c) := by decide +kernel
theorem nm8c : ∀ c, c < 127 → 33 ≤ c → (48 : Int32) ≤ nI c ∧ nI c ≤ 55 → 33 ≤ ((48 : Int32) + ((((nI c - 48) + 8) - 1) - (((nI c - 48) + 8) - 1) / 8 * 8)).toInt.toNat ∧ ((48 : Int32) + ((((nI c - 48) + 8) - 1) - (((nI c - 48) + 8) - 1) / 8 * 8)).toInt.toNat < 127 ∧ ((48 : Int32) + ((((nI c - 48) + 8) - 1) - (((nI c - 48) + 8) - 1) / 8 * 8)) = nI ((48 : Int32) + ((((nI c - 48) + 8) - 1) - (((nI c - 48) + 8) - 1) / 8 * 8)).toInt.toNat ∧ pw ((48 : Int32) + ((((nI c - 48) + 8) - 1) - (((nI c - 48) + 8) - 1) / 8 * 8)) = pw (nI c) := by decide +kernel
theorem kd8b : ∀ c, c < 127 → 33 ≤ c → pw (nI c) = 0 ∨ pw (nI c) = 2 ∨ pw (nI c) = 4 → ¬ ((48 : Int32) ≤ nI c ∧ nI c ≤ 55) → kd (nI c) = (if (97 : Int) ≤ (nI c).toInt ∧ (nI c).toInt ≤ 99 then 2 else if pw (nI c) = 2 then 0 else 1) := by decide +kernel
/-- a node's changes: laid alike, at most four -/
theorem st_node {N k i m : Nat} {sg ns nd sn mn ms : Nat → Int32} (hN : 60 ≤ N) (h : WF sg k) (hk : k ≤ 24) (hi : i < k) (hs : ∃ c, 33 ≤ c ∧ c < 127 ∧ sg i = nI c) (hns : ns i = sg i) (hm : m ≤ 92) (hC : CE sg k m nd sn mn ms) :
    ∃ m' nd' sn' mn' ms', m' ≤ m + 4 ∧ fX1_listOfNode N (nI i) (sg i) nd sn (nI m) = some (nd', sn', nI m') ∧ fX12_addFor N ns kn0 (nI i) (nI m) mn ms = some (nI m', mn', ms') ∧ CE sg k m' nd' sn' mn' ms' := by
  obtain ⟨c, c1, c2, c3⟩ := hs
  have hpw := h.2.1 i hi
  rw [c3] at hpw
  obtain ⟨n1, n2, n3⟩ := nb8 c c2 c1 hpw
  by_cases q : (48 : Int32) ≤ nI c ∧ nI c ≤ 55
  · rw [fX1_listOfNode, fX12_addFor, un_bnd (by omega) (by decide), un_cl (by omega), hns, c3, isnN c2, Option.bind_some, show fX12_isNumber N (nI c) = _ from ism8 c c2, Option.bind_some]
    obtain ⟨e1, e2⟩ := nm8a c c2 c1 q
    obtain ⟨a1, a2, a3, a4⟩ := nm8b c c2 c1 q
    obtain ⟨b1, b2, b3, b4⟩ := nm8c c c2 c1 q
    rw [if_pos q, if_neg (show ¬ (1 : Int32) = 0 by decide), if_neg (show ¬ (1 : Int32) = 0 by decide), ap_C (by omega), Option.bind_some, ap_M (by omega), Option.bind_some]
    dsimp only
    rw [ap_C (by omega), Option.bind_some, ap_M (by omega), Option.bind_some, ← e1, ← e2]
    refine ⟨m + 1 + 1, _, _, _, _, by omega, rfl, rfl, ?_⟩
    rw [a3, b3]
    exact (hC.add hi a1 a2 (by rw [← a3, a4, c3])).add hi b1 b2 (by rw [← b3, b4, c3])
  · have n3' := n3 q
    have key : fX12_addFor N ns kn0 (nI i) (nI m) mn ms = bX12_addFor_106 N ns kn0 N (nI i) (nI c) (nI (fr (kd (nI c)) + sln (kd (nI c)))) (nI (fr (kd (nI c)) + 0)) (nI m) mn ms := by
      rw [fX12_addFor, un_bnd (by omega) (by decide), un_cl (by omega), hns, c3, show fX12_isNumber N (nI c) = _ from ism8 c c2, Option.bind_some, if_neg q, if_pos rfl, isiM, Option.bind_some]
      have k9 := kd8b c c2 c1 hpw q
      by_cases k1 : (97 : Int) ≤ (nI c).toInt ∧ (nI c).toInt ≤ 99
      · rw [if_pos k1] at k9
        rw [if_pos k1, if_neg (by decide), bX12_addFor_74, isiM, Option.bind_some, if_pos k1, if_neg (by decide), k9]; rfl
      · rw [if_neg k1] at k9
        by_cases k2 : pw (nI c) = 2
        · rw [if_pos k2] at k9
          rw [if_neg k1, if_pos rfl, pwX12 c2 c1, Option.bind_some, if_pos k2, bX12_addFor_74, isiM, Option.bind_some, if_neg k1, if_pos rfl, pwX12 c2 c1, Option.bind_some, if_pos k2, k9]; rfl
        · rw [if_neg k2] at k9
          rw [if_neg k1, if_pos rfl, pwX12 c2 c1, Option.bind_some, if_neg k2, bX12_addFor_74, isiM, Option.bind_some, if_neg k1, if_pos rfl, pwX12 c2 c1, Option.bind_some, if_neg k2, k9]; rfl
    rw [fX1_listOfNode, c3, isnN c2, Option.bind_some, if_neg q, if_pos rfl, kdX1 (by omega) c2 c1, Option.bind_some, key]
    obtain ⟨l1, l2, l3⟩ := len8 (kd (nI c)) n2
    obtain ⟨nd', sn', mn', ms', r1, r2, r3⟩ := lst_loop (N := N) (ns := ns) (c := nI c) hi n2 (by rw [n3', c3]) (sln (kd (nI c))) 0 N N m nd sn mn ms (by omega) (by omega) (by omega) (by omega) hC
    exact ⟨m + nb (nI c) (kd (nI c)) (sln (kd (nI c))) 0, nd', sn', mn', ms', by omega, r1, r2, r3⟩
