/-! what holds at the start -/
def sg1 : Nat → Int32 := upd (fun _ => 0) 0 48
theorem WF1 : WF sg1 1 := by
  refine ⟨Nat.le_refl _, fun i hi => Or.inl ?_, fun p hp => ?_, ?_⟩
  · have e : i = 0 := by omega
    subst e; rfl
  · have e : p = 0 := by omega
    subst e; decide
  · decide
theorem sg1_c : ∀ i, i < 1 → ∃ c, 33 ≤ c ∧ c < 127 ∧ sg1 i = nI c := fun i hi => by
  have e : i = 0 := by omega
  subst e; exact ⟨48, by decide, by decide, rfl⟩
theorem en1 : en sg1 0 = 1 := en_root WF1 (by decide)
theorem TXi : TX sg1 1 (fun _ => 0) (upd (fun _ => 0) 0 (-6)) (fun _ => 0) (upd (fun _ => 0) 0 1) (fun _ => 0) := by
  refine ⟨WF1, by decide, sg1_c, fun c _ hc => ?_, rfl⟩
  have e : c = 0 := by omega
  subst e
  refine ⟨rfl, by rw [en1]; rfl, fun j hj => ?_⟩
  exact absurd hj (by rw [show wn sg1 0 = 0 from rfl]; exact Nat.not_lt_zero j)
def ns1 : Nat → Int32 := upd (upd (fun _ => 0) 0 48) 24 48
def no1 : Nat → Int32 := upd (upd (fun _ => 0) 0 (-6)) 24 (-6)
def nz1 : Nat → Int32 := upd (upd (fun _ => 0) 0 1) 24 1
def nm1 : Nat → Int32 := upd (upd (fun _ => 0) 0 1) 1 1
theorem MT1 {xi : Nat} (h : xi < 2) : MT sg1 1 xi ns1 nz1 nm1 ∧ MN 1 xi (upd (fun _ => 0) 0 (-6)) no1 := by
  rcases (show xi = 0 ∨ xi = 1 by omega) with e | e <;> subst e
  · refine ⟨⟨fun i hi => ?_, fun i hi => ?_, rfl⟩, fun i hi => ?_⟩ <;> have e : i = 0 := by omega
    all_goals subst e
    · rfl
    · rw [en1]; rfl
    · rfl
  · refine ⟨⟨fun i hi => ?_, fun i hi => ?_, rfl⟩, fun i hi => ?_⟩ <;> have e : i = 0 := by omega
    all_goals subst e
    · rfl
    · rw [en1]; rfl
    · rfl
theorem inv0 {N : Nat} (hN : 20000 ≤ N) : ∃ a1 a2 a3 a4 a5 a6 a7 nd sn ft m bs v1 v2 v3 v4 v5 v6 v7,
    fX11_settleText N sg1 (fun _ => 0) (fun _ => 0) 1 sg1 (fun _ => 0) (fun _ => 0) 1 (fun _ => 0) 0 0 (fun _ => 0) (fun _ => 0) (fun _ => 0) (fun _ => 0) (fun _ => 0) (fun _ => 0) (fun _ => 0) (fun _ => 0) (fun _ => 0) (fun _ => 0) 0 (fun _ => 0) 0 = some (a1, a2, a3, a4, a5, a6, a7, nd, sn, ft, nI m, bs, 0) ∧
    fX11_settleText N sg1 (fun _ => 0) (fun _ => 0) 1 sg1 (fun _ => 0) (fun _ => 0) 1 (fun _ => 0) 0 1 a1 a2 a3 a4 a5 a6 a7 nd sn ft (nI m) bs 0 = some (v1, v2, v3, v4, v5, v6, v7, nd, sn, ft, nI m, bs, 0) ∧
    INV N 0 1 1 m 0 (fun _ => 0) (fun _ => 0) (fun _ => 0) sg1 (fun _ => 0) (upd (fun _ => 0) 0 (-6)) (fun _ => 0) (upd (fun _ => 0) 0 1) (fun _ => 0) sg1 (fun _ => 0) (upd (fun _ => 0) 0 (-6)) (fun _ => 0) (upd (fun _ => 0) 0 1) (fun _ => 0) v5 v6 v7 nd sn ft (fun _ => 0) (fun _ => 0) bs (fun _ => 0) 0 0 0 (fun _ => 0) ns1 no1 nz1 nm1 0 0 (fun _ => 0) (fun _ => 0) (fun _ => 0) (fun _ => 0) (fun _ => 0) (fun _ => 0) (fun _ => 0) := by
  obtain ⟨t3, c24, hts, t5, -⟩ := TXi
  have hT : TE 0 (fun _ => 0) (fun _ => 0) (fun _ => (0 : Int32)) (fun _ => 0) (fun _ => 0) (fun _ => 0) := ⟨by decide, fun t ht => absurd ht (Nat.not_lt_zero _)⟩
  obtain ⟨u1, u2, u3, u4, u5, u6, u7, g1, g2, g3⟩ := st_row (N := N) (row := 0) (ch := -6) (sgn := 0) (wl := fun _ => 0) (wm := fun _ => 0) (wh := fun _ => 0) (who := fun _ => 0) (lo := fun _ => 0) (mi := fun _ => 0) (hi := fun _ => 0) (by omega) t3 c24 (SC_own hts) t5 (fun i hi => (if_neg (nI_nm6 (by omega))).symm) (by decide)
  obtain ⟨a1, a2, a3, a4, a5, a6, a7, nd, sn, ft, m, b1, b2, b3, b4, b5, b6⟩ := st_list (N := N) (nd := fun _ => 0) (sn := fun _ => 0) (ft := fun _ => 0) (cnt := 0) (wl := u1) (wm := u2) (wh := u3) (who := u4) (by omega) t3 c24 hts t5 g2
  have r0' : RV a5 a6 a7 0 (own sg1) := g2.keep (fun w hw => b6 _ (by omega))
  have hL1 : LH N sg1 1 m nd sn ft a5 a6 a7 ns1 nz1 nm1 := ⟨t3, c24, hts, (MT1 (by decide)).1, b2, b3, b4, b5, r0'⟩
  obtain ⟨bs, z1, z2⟩ := st_settle (N := N) (bs := fun _ => 0) (by omega) hL1.rx hT
  obtain ⟨v1, v2, v3, v4, v5, v6, v7, f1, f2, f3⟩ := st_row (N := N) (row := 1) (ch := -6) (sgn := 0) (wl := a1) (wm := a2) (wh := a3) (who := a4) (lo := a5) (mi := a6) (hi := a7) (by omega) t3 c24 (SC_own hts) t5 (fun i hi => (if_neg (nI_nm6 (by omega))).symm) (by decide)
  refine ⟨a1, a2, a3, a4, a5, a6, a7, nd, sn, ft, m, bs, v1, v2, v3, v4, v5, v6, v7, ?_, ?_, ⟨Nat.zero_le _, fun i hi => absurd hi (Nat.not_lt_zero _)⟩, TXi, (MT1 (by decide)).1, (MT1 (by decide)).2, TXi, (MT1 (by decide)).1, (MT1 (by decide)).2, f2, ?_, Or.inl rfl, hT, z2, Or.inl rfl⟩
  · rw [fX11_settleText, if_pos rfl, fX7_workOutText, show fX7_workOutChanged N sg1 (fun _ => 0) (fun _ => 0) 1 0 (-6) 0 (fun _ => 0) (fun _ => 0) (fun _ => 0) (fun _ => 0) (fun _ => 0) (fun _ => 0) (fun _ => 0) = _ from g1, Option.bind_some]
    dsimp only
    rw [Option.bind_some]
    dsimp only
    rw [if_pos rfl, if_pos rfl, show fX1_list N sg1 (fun _ => 0) (fun _ => 0) 1 u1 u2 u3 u4 u5 u6 u7 (fun _ => 0) (fun _ => 0) (fun _ => 0) 0 = _ from b1, Option.bind_some]
    dsimp only
    rw [fX11_settleNotices, show fX4_settle N a5 a6 a7 (nI m) (fun _ => 0) 0 (fun _ => 0) = _ from z1, Option.bind_some, fX2_forget, Option.bind_some, Option.bind_some]
  · rw [fX11_settleText, if_neg (show ¬ (1 : Int32) = 0 by decide), if_pos rfl, fX7_workOutText, show fX7_workOutChanged N sg1 (fun _ => 0) (fun _ => 0) 1 1 (-6) 0 a1 a2 a3 a4 a5 a6 a7 = _ from f1, Option.bind_some]
    dsimp only
    rw [Option.bind_some]
    dsimp only
    rw [if_neg (show ¬ (1 : Int32) = 0 by decide)]
  · obtain ⟨q1, q2, q3, q4, q5, q6, q7, q8, q9⟩ := hL1
    exact ⟨q1, q2, q3, q4, q5, q6, q7, fun j hj => ⟨(q8 j hj).1.keep (fun w hw => f3 _ (by omega)), (q8 j hj).2⟩, q9.keep (fun w hw => f3 _ (by omega))⟩
