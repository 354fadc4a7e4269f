/-! the counts -/
theorem cnt_t {q : Nat → Bool} {j : Nat} (h : q j = true) : nI (cntB q j) + 1 = nI (cntB q (j + 1)) := by rw [nI_1, cntB, if_pos h]
theorem cnt_f {q : Nat → Bool} {j : Nat} (h : ¬ q j = true) : nI (cntB q j) + 0 = nI (cntB q (j + 1)) := by rw [cntB, if_neg h, show (0 : Int32) = nI 0 from rfl, nI_add]
theorem cntB_le {q : Nat → Bool} : ∀ n, cntB q n ≤ n := by
  intro n
  induction n with
  | zero => exact Nat.le_refl 0
  | succ n ih =>
    rw [cntB]
    by_cases h : q n = true
    · rw [if_pos h]; omega
    · rw [if_neg h]; omega
def bh (bs : Nat → Int32) (i k : Nat) : Bool := decide (¬ bs k = 0 ∧ bs k &&& (bs i ^^^ -1) = 0 ∧ ¬ bs k = bs i)
theorem bhC {N i k : Nat} {bs : Nat → Int32} (hi : i < 96) (hk : k < 96) : fX4_isBehind N bs (nI i) (nI k) = some (if bh bs i k = true then 1 else 0) := by
  rw [fX4_isBehind, un_bnd hk (by decide), un_cl (by omega), un_bnd hi (by decide), un_cl (by omega)]
  unfold bh
  by_cases c1 : bs k = 0
  · rw [if_pos c1, if_neg (by simp [c1])]
  · rw [if_neg c1]
    by_cases c2 : bs k &&& (bs i ^^^ -1) = 0
    · rw [if_pos c2]
      by_cases c3 : bs k = bs i
      · rw [if_pos c3, if_neg (by simp [c3])]
      · rw [if_neg c3, if_pos (decide_eq_true ⟨c1, c2, c3⟩)]
    · rw [if_neg c2, if_neg (fun h => c2 (of_decide_eq_true h).2.1)]
theorem bhM {N i k : Nat} {bs nt : Nat → Int32} (hi : i < 96) (hk : k < 96) (e1 : nt i = bs i) (e2 : nt k = bs k) : fX12_isBehind N nt (nI i) (nI k) = some (if bh bs i k = true then 1 else 0) := by
  rw [fX12_isBehind, un_bnd hk (by decide), un_cl (by omega), un_bnd hi (by decide), un_cl (by omega), e1, e2]
  unfold bh
  by_cases c1 : bs k = 0
  · rw [if_pos c1, if_neg (by simp [c1])]
  · rw [if_neg c1]
    by_cases c2 : bs k &&& (bs i ^^^ -1) = 0
    · rw [if_pos c2]
      by_cases c3 : bs i = bs k
      · rw [if_pos c3, if_neg (by simp [c3])]
      · rw [if_neg c3, if_pos (decide_eq_true ⟨c1, c2, fun e => c3 e.symm⟩)]
    · rw [if_neg c2, if_neg (fun h => c2 (of_decide_eq_true h).2.1)]
theorem if10 {α : Type} {p : Prop} [Decidable p] {a b : α} : (if (if p then (1 : Int32) else 0) = 0 then a else b) = if p then b else a := by
  by_cases h : p
  · rw [if_pos h, if_pos h, if_neg (by decide)]
  · rw [if_neg h, if_neg h, if_pos rfl]
theorem if01 {α : Type} {p : Prop} [Decidable p] {a b : α} : (if (if p then (0 : Int32) else 1) = 0 then a else b) = if p then a else b := by
  by_cases h : p
  · rw [if_pos h, if_pos h, if_pos rfl]
  · rw [if_neg h, if_neg h, if_neg (by decide)]
theorem behC {N m i : Nat} {bs : Nat → Int32} (hN : 600 ≤ N) (hm : m ≤ 96) (hi : i < 96) : fX4_behindHowMany N (nI m) bs (nI i) = some (nI (cntB (bh bs i) m)) := by
  rw [fX4_behindHowMany]
  refine lpd (m := m) (g := fun n j (s : Nat) => bX4_behindHowMany_4 N (nI m) bs n (nI i) (nI s) (nI j)) (cntB (bh bs i)) (fun n => ?_) (fun n j hj => ?_) m 0 N (by omega) (by omega)
  · rw [bX4_behindHowMany_4, if_pos (nI_le (Nat.le_refl _) (by omega))]
  · rw [bX4_behindHowMany_4, if_neg (nI_ge hj (by omega)), bhC hi (by omega), Option.bind_some, if10, nI_1 j]
    by_cases q : bh bs i j = true
    · rw [if_pos q, cnt_t q]
    · rw [if_neg q, cnt_f q]
theorem behM {N m i : Nat} {bs nt : Nat → Int32} (hN : 600 ≤ N) (hm : m ≤ 96) (hi : i < m) (hA : ∀ j, j < m → nt j = bs j) : fX12_behindOf N (nI m) nt (nI i) = some (nI (cntB (bh bs i) m)) := by
  rw [fX12_behindOf]
  refine lpd (m := m) (g := fun n j (s : Nat) => bX12_behindOf_4 N (nI m) nt n (nI i) (nI s) (nI j)) (cntB (bh bs i)) (fun n => ?_) (fun n j hj => ?_) m 0 N (by omega) (by omega)
  · rw [bX12_behindOf_4, if_pos (nI_le (Nat.le_refl _) (by omega))]
  · rw [bX12_behindOf_4, if_neg (nI_ge hj (by omega)), bhM (by omega) (by omega) (hA i hi) (hA j hj), Option.bind_some, if10, nI_1 j]
    by_cases q : bh bs i j = true
    · rw [if_pos q, cnt_t q]
    · rw [if_neg q, cnt_f q]
def qs (ft : Nat → Int32) (j : Nat) : Bool := decide (ft j = 0)
def qn (bs : Nat → Int32) (j : Nat) : Bool := decide (¬ bs j = 0)
def qh (ft bs : Nat → Int32) (j : Nat) : Bool := decide (bs j = 0 ∧ ¬ ft j = 0)
def qf (bs : Nat → Int32) (m j : Nat) : Bool := decide (¬ bs j = 0 ∧ cntB (bh bs j) m = 0)
theorem silC {N m : Nat} {ft : Nat → Int32} (hN : 600 ≤ N) (hm : m ≤ 96) : fX1_silentOnes N ft (nI m) = some (nI (cntB (qs ft) m)) := by
  rw [fX1_silentOnes]
  refine lpd (m := m) (g := fun n j (s : Nat) => bX1_silentOnes_4 N ft (nI m) n (nI s) (nI j)) (cntB (qs ft)) (fun n => ?_) (fun n j hj => ?_) m 0 N (by omega) (by omega)
  · rw [bX1_silentOnes_4, if_pos (nI_le (Nat.le_refl _) (by omega))]
  · rw [bX1_silentOnes_4, if_neg (nI_ge hj (by omega)), un_bnd (show j < 96 by omega) (by decide), un_cl (by omega), nI_1 j]
    by_cases q : ft j = 0
    · rw [if_pos q, cnt_t (q := qs ft) (decide_eq_true q)]
    · rw [if_neg q, cnt_f (q := qs ft) (fun h => q (of_decide_eq_true h))]
theorem notC {N m : Nat} {bs : Nat → Int32} (hN : 600 ≤ N) (hm : m ≤ 96) : fX4_noticedOnes N (nI m) bs = some (nI (cntB (qn bs) m)) := by
  rw [fX4_noticedOnes]
  refine lpd (m := m) (g := fun n j (s : Nat) => bX4_noticedOnes_4 N (nI m) bs n (nI s) (nI j)) (cntB (qn bs)) (fun n => ?_) (fun n j hj => ?_) m 0 N (by omega) (by omega)
  · rw [bX4_noticedOnes_4, if_pos (nI_le (Nat.le_refl _) (by omega))]
  · rw [bX4_noticedOnes_4, if_neg (nI_ge hj (by omega)), un_bnd (show j < 96 by omega) (by decide), un_cl (by omega), nI_1 j]
    by_cases q : bs j = 0
    · rw [if_pos q, cnt_f (q := qn bs) (fun h => (of_decide_eq_true h) q)]
    · rw [if_neg q, cnt_t (q := qn bs) (decide_eq_true q)]
theorem hidC1 {N j : Nat} {ft bs : Nat → Int32} (hj : j < 96) : fX4_isHidden N ft bs (nI j) = some (if qh ft bs j = true then 1 else 0) := by
  rw [fX4_isHidden, un_bnd hj (by decide), un_cl (by omega)]
  unfold qh
  by_cases q : bs j = 0
  · rw [if_pos q]
    by_cases q2 : ft j = 0
    · rw [if_pos q2, if_neg (fun h => (of_decide_eq_true h).2 q2)]
    · rw [if_neg q2, if_pos (decide_eq_true ⟨q, q2⟩)]
  · rw [if_neg q, if_neg (fun h => q (of_decide_eq_true h).1)]
theorem hidC {N m : Nat} {ft bs : Nat → Int32} (hN : 600 ≤ N) (hm : m ≤ 96) : fX4_hiddenOnes N ft (nI m) bs = some (nI (cntB (qh ft bs) m)) := by
  rw [fX4_hiddenOnes]
  refine lpd (m := m) (g := fun n j (s : Nat) => bX4_hiddenOnes_4 N ft (nI m) bs n (nI s) (nI j)) (cntB (qh ft bs)) (fun n => ?_) (fun n j hj => ?_) m 0 N (by omega) (by omega)
  · rw [bX4_hiddenOnes_4, if_pos (nI_le (Nat.le_refl _) (by omega))]
  · rw [bX4_hiddenOnes_4, if_neg (nI_ge hj (by omega)), hidC1 (by omega), Option.bind_some, if10, nI_1 j]
    by_cases q : qh ft bs j = true
    · rw [if_pos q, cnt_t q]
    · rw [if_neg q, cnt_f q]
theorem nI_z {n : Nat} (h : n < 2 ^ 31) : (nI n = 0) ↔ n = 0 := by rw [show (0 : Int32) = nI 0 from rfl, nI_eq h (by decide)]
theorem froC {N m : Nat} {bs : Nat → Int32} (hN : 600 ≤ N) (hm : m ≤ 96) : fX4_frontOnes N (nI m) bs = some (nI (cntB (qf bs m) m)) := by
  rw [fX4_frontOnes]
  refine lpd (m := m) (g := fun n j (s : Nat) => bX4_frontOnes_4 N (nI m) bs n (nI s) (nI j)) (cntB (qf bs m)) (fun n => ?_) (fun n j hj => ?_) m 0 N (by omega) (by omega)
  · rw [bX4_frontOnes_4, if_pos (nI_le (Nat.le_refl _) (by omega))]
  · rw [bX4_frontOnes_4, if_neg (nI_ge hj (by omega)), un_bnd (show j < 96 by omega) (by decide), un_cl (by omega), behC hN hm (by omega), Option.bind_some, nI_1 j]
    have hz := nI_z (n := cntB (bh bs j) m) (by have := @cntB_le (bh bs j) m; omega)
    by_cases q : bs j = 0
    · rw [if_pos q, cnt_f (q := qf bs m) (fun h => (of_decide_eq_true h).1 q)]
    · rw [if_neg q]
      by_cases q2 : nI (cntB (bh bs j) m) = 0
      · rw [if_pos q2, cnt_t (q := qf bs m) (decide_eq_true ⟨q, hz.mp q2⟩)]
      · rw [if_neg q2, cnt_f (q := qf bs m) (fun h => q2 (hz.mpr (of_decide_eq_true h).2))]
def qw (ft bs : Nat → Int32) (m : Nat) (w : Int32) (j : Nat) : Bool := if w = 0 then qs ft j else if w = 1 then qn bs j else if w = 2 then qh ft bs j else qf bs m j
theorem oneM {N m j : Nat} {ft bs df nt : Nat → Int32} {w : Int32} (hN : 600 ≤ N) (hm : m ≤ 96) (hj : j < m) (hA : ∀ j, j < m → nt j = bs j) (hB : ∀ j, j < m → df j = ft j) : fX12_isOne N (nI m) df nt (nI j) w = some (if qw ft bs m w j = true then 1 else 0) := by
  have bn : ∀ (k : Option Int32), bnd (nI j) 96 k = k := fun k => un_bnd (show j < 96 by omega) (by decide)
  rw [fX12_isOne]
  simp only [bn]
  rw [un_cl (by omega), hA j hj, hB j hj, behM hN hm hj hA, Option.bind_some]
  unfold qw
  have hz := nI_z (n := cntB (bh bs j) m) (by have := @cntB_le (bh bs j) m; omega)
  by_cases w0 : w = 0
  · rw [if_pos w0, if_pos w0]
    by_cases q : ft j = 0
    · rw [if_pos q, if_pos (show qs ft j = true from decide_eq_true q)]
    · rw [if_neg q, if_neg (show ¬ qs ft j = true from fun h => q (of_decide_eq_true h))]
  · rw [if_neg w0, if_neg w0]
    by_cases w1 : w = 1
    · rw [if_pos w1, if_pos w1]
      by_cases q : bs j = 0
      · rw [if_pos q, if_neg (show ¬ qn bs j = true from fun h => (of_decide_eq_true h) q)]
      · rw [if_neg q, if_pos (show qn bs j = true from decide_eq_true q)]
    · rw [if_neg w1, if_neg w1]
      by_cases w2 : w = 2
      · rw [if_pos w2, if_pos w2]
        by_cases q : ft j = 0
        · rw [if_pos q, if_neg (show ¬ qh ft bs j = true from fun h => (of_decide_eq_true h).2 q)]
        · rw [if_neg q]
          by_cases q2 : bs j = 0
          · rw [if_pos q2, if_pos (show qh ft bs j = true from decide_eq_true ⟨q2, q⟩)]
          · rw [if_neg q2, if_neg (show ¬ qh ft bs j = true from fun h => q2 (of_decide_eq_true h).1)]
      · rw [if_neg w2, if_neg w2]
        by_cases q : bs j = 0
        · rw [if_pos q, if_neg (show ¬ qf bs m j = true from fun h => (of_decide_eq_true h).1 q)]
        · rw [if_neg q]
          by_cases q2 : nI (cntB (bh bs j) m) = 0
          · rw [if_pos q2, if_pos (show qf bs m j = true from decide_eq_true ⟨q, hz.mp q2⟩)]
          · rw [if_neg q2, if_neg (show ¬ qf bs m j = true from fun h => q2 (hz.mpr (of_decide_eq_true h).2))]
theorem manM {N m : Nat} {ft bs df nt : Nat → Int32} {w : Int32} (hN : 600 ≤ N) (hm : m ≤ 96) (hA : ∀ j, j < m → nt j = bs j) (hB : ∀ j, j < m → df j = ft j) : fX12_manyOf N (nI m) df nt w = some (nI (cntB (qw ft bs m w) m)) := by
  rw [fX12_manyOf]
  refine lpd (m := m) (g := fun n j (s : Nat) => bX12_manyOf_4 N (nI m) df nt n w (nI s) (nI j)) (cntB (qw ft bs m w)) (fun n => ?_) (fun n j hj => ?_) m 0 N (by omega) (by omega)
  · rw [bX12_manyOf_4, if_pos (nI_le (Nat.le_refl _) (by omega))]
  · rw [bX12_manyOf_4, if_neg (nI_ge hj (by omega)), oneM hN hm hj hA hB, Option.bind_some, if10, nI_1 j]
    by_cases q : qw ft bs m w j = true
    · rw [if_pos q, cnt_t q]
    · rw [if_neg q, cnt_f q]
theorem su14 : ∀ n, n < 32 → (((nI n).toUInt32 &&& Int32.toUInt32 31).toBitVec % 32).toNat = n := by decide +kernel
theorem sl14 : ∀ n, n < 32 → ((nI n &&& 31).toBitVec.smod 32).toNat = n := by decide +kernel
theorem bitC {b t : Nat} (hb : b < 2 ^ 31) (ht : t < 32) : iush (nI b) (nI t) &&& 1 = nI (b / 2 ^ t % 2) := by
  unfold iush
  rw [pk_ushrN (by omega) (nI t) t (su14 t ht)]
  exact pk_andN (Nat.lt_of_le_of_lt (Nat.div_le_self _ _) (by omega)) 1 (by decide)
theorem bitM {b t : Nat} (hb : b < 2 ^ 31) (ht : t < 32) : (nI b >>> (nI t &&& 31)) &&& 1 = nI (b / 2 ^ t % 2) := by
  rw [pk_shrN hb (nI t &&& 31) t (sl14 t ht)]
  exact pk_andN (Nat.lt_of_le_of_lt (Nat.div_le_self _ _) (by omega)) 1 (by decide)
def smB (B : Nat → Nat) (t : Nat) : Nat → Nat
  | 0 => 0
  | j + 1 => smB B t j + B j / 2 ^ t % 2
theorem howC {N m t : Nat} {bs : Nat → Int32} {B : Nat → Nat} (hN : 600 ≤ N) (hm : m ≤ 96) (ht : t < 14) (hb : ∀ j, j < m → bs j = nI (B j) ∧ B j < 16384) : fX4_howManyNoticedBy N (nI m) bs (nI t) = some (nI (smB B t m)) := by
  rw [fX4_howManyNoticedBy]
  refine lpd (m := m) (g := fun n j (s : Nat) => bX4_howManyNoticedBy_4 N (nI m) bs n (nI t) (nI s) (nI j)) (smB B t) (fun n => ?_) (fun n j hj => ?_) m 0 N (by omega) (by omega)
  · rw [bX4_howManyNoticedBy_4, if_pos (nI_le (Nat.le_refl _) (by omega))]
  · obtain ⟨b1, b2⟩ := hb j hj
    rw [bX4_howManyNoticedBy_4, if_neg (nI_ge hj (by omega)), un_bnd (show j < 96 by omega) (by decide), un_cl (by omega), b1, bitC (by omega) (by omega), bX4_howManyNoticedBy_28, nI_1 j, nI_add, smB]
def qfl (F ti td : Nat → Nat) (t : Nat) : Bool := decide (¬ F (ti t) = td t)
theorem ffC {N row T t : Nat} {lo mi hi : Nat → Int64} {f ti td : Nat → Nat} {ci cd mt md : Nat → Int32} (h : RV lo mi hi row f) (hf : ∀ x, f x < 8) (hrow : row < 98) (hT : TE T ti td ci cd mt md) (ht : t < T) : fX8_failsFor N lo mi hi ci cd (nI t) (nI row) = some (if qfl f ti td t = true then 1 else 0) := by
  obtain ⟨a1, a2, a3, a4, a5, a6⟩ := hT.2 t ht
  have h14 := hT.1
  have hx := hf (ti t)
  rw [fX8_failsFor, un_bnd (show t < 14 by omega) (by decide), un_cl (by omega), a1, st_at h hf hrow a3, Option.bind_some, a4]
  unfold qfl
  by_cases q : f (ti t) = td t
  · rw [if_pos (by rw [q]), if_neg (fun h => (of_decide_eq_true h) q)]
  · rw [if_neg (fun e => q ((nI_eq (by omega) (by omega)).mp e)), if_pos (decide_eq_true q)]
theorem dfM {N T t : Nat} {F ti td : Nat → Nat} {ci cd mt md ow : Nat → Int32} (ho : ∀ x, x < 512 → ow x = nI (F x)) (hf : ∀ x, F x < 8) (hT : TE T ti td ci cd mt md) (ht : t < T) : fX12_doesFail N ow mt md (nI t) = some (if qfl F ti td t = true then 1 else 0) := by
  obtain ⟨a1, a2, a3, a4, a5, a6⟩ := hT.2 t ht
  have h14 := hT.1
  have hx := hf (ti t)
  rw [fX12_doesFail, un_bnd (show t < 14 by omega) (by decide), un_cl (by omega), a2, un_bnd a3 (by decide), un_cl (by omega), ho _ a3, a5]
  unfold qfl
  by_cases q : F (ti t) = td t
  · rw [if_pos (by rw [q]), if_neg (fun h => (of_decide_eq_true h) q)]
  · rw [if_neg (fun e => q ((nI_eq (by omega) (by omega)).mp e)), if_pos (decide_eq_true q)]
theorem faiC {N T : Nat} {lo mi hi : Nat → Int64} {f ti td : Nat → Nat} {ci cd mt md : Nat → Int32} (hN : 600 ≤ N) (h : RV lo mi hi 0 f) (hf : ∀ x, f x < 8) (hT : TE T ti td ci cd mt md) : fX8_failing N lo mi hi ci cd (nI T) = some (nI (cntB (qfl f ti td) T)) := by
  have h14 := hT.1
  rw [fX8_failing]
  refine lpd (m := T) (g := fun n j (s : Nat) => bX8_failing_4 N lo mi hi ci cd (nI T) n (nI s) (nI j)) (cntB (qfl f ti td)) (fun n => ?_) (fun n j hj => ?_) T 0 N (by omega) (by omega)
  · rw [bX8_failing_4, if_pos (nI_le (Nat.le_refl _) (by omega))]
  · rw [bX8_failing_4, if_neg (nI_ge hj (by omega)), show fX8_failsFor N lo mi hi ci cd (nI j) 0 = _ from ffC h hf (by decide) hT hj, Option.bind_some, if10, nI_1 j]
    by_cases q : qfl f ti td j = true
    · rw [if_pos q, cnt_t q]
    · rw [if_neg q, cnt_f q]
theorem faiM1 {N T : Nat} {F ti td : Nat → Nat} {ci cd mt md ns nz nm vs mn ms df rs ow : Nat → Int32} {il ca : Int32} (hN : 600 ≤ N) (ho : ∀ x, x < 512 → ow x = nI (F x)) (hf : ∀ x, F x < 8) (hT : TE T ti td ci cd mt md) : bX12_failing_8 N ns nz nm kn0 mt md (nI T) N 0 0 vs il ca mn ms df rs ow = some (nI (cntB (qfl F ti td) T), vs, il, ca, mn, ms, df, rs, ow) := by
  have h14 := hT.1
  refine lpd (m := T) (g := fun n j (s : Nat) => bX12_failing_8 N ns nz nm kn0 mt md (nI T) n (nI s) (nI j) vs il ca mn ms df rs ow) (cntB (qfl F ti td)) (fun n => ?_) (fun n j hj => ?_) T 0 N (by omega) (by omega)
  · rw [bX12_failing_8, if_pos (nI_le (Nat.le_refl _) (by omega))]
  · rw [bX12_failing_8, if_neg (nI_ge hj (by omega)), dfM ho hf hT hj, Option.bind_some, if10, nI_1 j]
    by_cases q : qfl F ti td j = true
    · rw [if_pos q, cnt_t q]
    · rw [if_neg q, cnt_f q]
theorem st_faiM {N k m T : Nat} {sg nd sn ft ns nz nm vs mn ms df rs ow ci cd mt md : Nat → Int32} {ti td : Nat → Nat} {lo mi hi : Nat → Int64} {il ca : Int32} (hN : 600 ≤ N) (h : LH N sg k m nd sn ft lo mi hi ns nz nm) (hI : IL sg m nd sn ft il ca mn ms df rs ow) (hT : TE T ti td ci cd mt md) : ∃ vs' mn' ms' df' rs' ow', fX12_failing N ns nz nm kn0 mt md (nI T) vs il ca mn ms df rs ow = some (nI (cntB (qfl (own sg) ti td) T), vs', 1, nI m, mn', ms', df', rs', ow') ∧ LD sg m nd sn ft (nI m) mn' ms' df' rs' ow' := by
  obtain ⟨vs', mn', ms', df', rs', ow', q1, q2⟩ := st_lay2 (vs := vs) hN h hI
  exact ⟨vs', mn', ms', df', rs', ow', by rw [fX12_failing, q1, Option.bind_some]; exact faiM1 hN q2.2.2.1 own_lt hT, q2⟩
