/-! the law's roads -/
def GD (N : Nat) (a b : Nat → Nat) (cI cJ cT : ClassId) (ex : Nat) (u v : va_W) : Prop := ex ≤ 14 ∧ ∃ (kp k0 k1 cm T : Nat) (ti td : Nat → Nat) (pd_signs : Nat → Int32) (pd_lacking : Nat → Int32) (t0_signs : Nat → Int32) (t0_wanted : Nat → Int32) (t0_owners : Nat → Int32) (t0_places : Nat → Int32) (t0_spans : Nat → Int32) (t0_partNodes : Nat → Int32) (t1_signs : Nat → Int32) (t1_wanted : Nat → Int32) (t1_owners : Nat → Int32) (t1_places : Nat → Int32) (t1_spans : Nat → Int32) (t1_partNodes : Nat → Int32) (wk_low : Nat → Int64) (wk_mid : Nat → Int64) (wk_high : Nat → Int64) (wk_holds : Nat → Int64) (rs_low : Nat → Int64) (rs_mid : Nat → Int64) (rs_high : Nat → Int64) (ch_nodes : Nat → Int32) (ch_signs : Nat → Int32) (ch_felt : Nat → Int32) (te_inputs : Nat → Int32) (te_dues : Nat → Int32) (no_bits : Nat → Int32) (no_wishedInputs : Int32) (no_wishedMany : Int32) (no_hiddenUnlike : Nat → Int64) (fw_waits : Nat → Int32) (fw_wa : Nat) (fw_order : Nat → Int32) (fw_sum : Int32) (fw_set : Int32) (fw_fresh : Int32) (bl_uppers : Nat → Int32) (bl_lowers : Nat → Int32) (bl_runBits : Nat → Int32) (me_found : Nat → Int32) (me_count : Int32) (pa_lowest : Int32) (pa_steps : Int32) (mo_signs : Nat → Int32) (mo_nodeSign : Nat → Int32) (mo_nodeOn : Nat → Int32) (mo_nodeSize : Nat → Int32) (mo_nodeMany : Nat → Int32) (mo_due : Nat → Int32) (mo_openNode : Nat → Int32) (mo_value : Nat → Int32) (mo_isLaid : Int32) (mo_changes : Int32) (mo_changeNode : Nat → Int32) (mo_changeSign : Nat → Int32) (mo_differs : Nat → Int32) (mo_results : Nat → Int32) (mo_own : Nat → Int32) (mo_testInputs : Nat → Int32) (mo_testDue : Nat → Int32) (mo_noticed : Nat → Int32) (mo_missed : Nat → Int32) (mo_leastFrom : Nat → Int32) (mo_blameUpper : Nat → Int32) (mo_blameLower : Nat → Int32), INV N kp k0 k1 cm T ti td pd_signs t0_signs t0_wanted t0_owners t0_places t0_spans t0_partNodes t1_signs t1_wanted t1_owners t1_places t1_spans t1_partNodes rs_low rs_mid rs_high ch_nodes ch_signs ch_felt te_inputs te_dues no_bits fw_order fw_sum fw_set fw_fresh mo_signs mo_nodeSign mo_nodeOn mo_nodeSize mo_nodeMany mo_isLaid mo_changes mo_changeNode mo_changeSign mo_differs mo_results mo_own mo_testInputs mo_testDue ∧ u = wd_nt_pd_t0_t1_wk_rs_ch_te_no_fw_bl_me_pa a (fun k => k) cI cJ cT pd_signs (nI kp) pd_lacking t0_signs t0_wanted t0_owners t0_places t0_spans t0_partNodes (nI k0) t1_signs t1_wanted t1_owners t1_places t1_spans t1_partNodes (nI k1) wk_low wk_mid wk_high wk_holds rs_low rs_mid rs_high ch_nodes ch_signs ch_felt (nI cm) te_inputs te_dues (nI T) no_bits no_wishedInputs no_wishedMany no_hiddenUnlike fw_waits (2 ^ ex) fw_wa fw_order fw_sum fw_set fw_fresh bl_uppers bl_lowers bl_runBits me_found me_count pa_lowest pa_steps ∧ v = wd_mo a b cI cJ cT mo_signs (nI kp) mo_nodeSign mo_nodeOn mo_nodeSize mo_nodeMany mo_due mo_openNode mo_value mo_isLaid mo_changes mo_changeNode mo_changeSign mo_differs mo_results mo_own kn0 mo_testInputs mo_testDue (nI T) mo_noticed mo_missed mo_leastFrom mo_blameUpper mo_blameLower
/-- what a settling makes: one row at most, and then a longer one -/
theorem st_acc {cond : Prop} {T e0 e1 : Nat} {fr : Int32} (hT : T ≤ 14) (h0 : e0 ≤ 14) (hE : (cond ∧ e1 = (if fr = 0 then (if 2 ^ T ≤ 2 ^ e0 then e0 else T) else e0)) ∨ (¬ cond ∧ e1 = e0)) : ∃ mc ms : Nat, (cond → stA fr (nI T) (2 ^ e0) = (mc, ms)) ∧ (((mc = 0 ∧ ms = 0 ∧ e1 = e0) ∨ (mc = 1 ∧ ms = 2 ^ e1 ∧ e0 < e1)) ∧ e1 ≤ 14) ∧ mc ≤ 1 ∧ ms ≤ 16384 := by
  have hS := p14 hT
  have hE0 := p14 h0
  rcases hE with ⟨hc, hE⟩ | ⟨hc, hE⟩
  · unfold stA
    by_cases q : fr = 0
    · rw [if_pos q] at hE
      rw [if_pos q, sh15 T (by omega), un_cl (by omega)]
      by_cases q2 : 2 ^ T ≤ 2 ^ e0
      · rw [if_pos q2] at hE
        rw [if_pos (show nI (2 ^ T) ≤ Int32.ofNat (2 ^ e0) from nI_le q2 (by omega))]
        exact ⟨0, 0, fun _ => rfl, ⟨Or.inl ⟨rfl, rfl, hE⟩, by omega⟩, by decide, by decide⟩
      · rw [if_neg q2] at hE
        rw [if_neg (show ¬ nI (2 ^ T) ≤ Int32.ofNat (2 ^ e0) from nI_ge (a := 2 ^ e0) (b := 2 ^ T) (by omega) (by omega))]
        subst hE
        refine ⟨1, 2 ^ e1, fun _ => rfl, ⟨Or.inr ⟨rfl, rfl, ?_⟩, hT⟩, by decide, hS⟩
        rcases Nat.lt_or_ge e0 e1 with c | c
        · exact c
        · exact absurd (Nat.pow_le_pow_right (by decide) c) q2
    · rw [if_neg q] at hE
      rw [if_neg q]
      exact ⟨0, 0, fun _ => rfl, ⟨Or.inl ⟨rfl, rfl, hE⟩, by omega⟩, by decide, by decide⟩
  · exact ⟨0, 0, fun h => absurd h hc, ⟨Or.inl ⟨rfl, rfl, hE⟩, by omega⟩, by decide, by decide⟩
section LAW
variable {p : Program} {l : Launch} {e : Env} {s : State} {m : MethodId} {args : Array Value} {below : List Frame} {meth : Method} {c : Code} {H : Heap} {locs : List Loc} {cells slots : Nat} {Q : State → Prop}
variable {rt : Option FieldType} {D : va_G} {A : Nat → Prop} {cI cJ cT : ClassId} {Es : (Nat → Nat) × (Nat → Nat)} {u v : va_W} {ls : Array Slot} {a b : Nat → Nat} {N i L bs ex : Nat} {xs : Nat → Int32}
theorem k_arg {rest : List Value} {pc k : Nat} {kn : Int} (C : CT p s m args meth c RL cL_law 4 rt wsL_law D A (tyl cI cJ cT) Es) (hX : va_X bs L xs s s.heap) (hbl : bs < s.heap.size) (hbA : ¬ A bs) (hL : L ≤ 2048) (B : D2 D A u v s H locs) (hk : i + k < L) (hl : lv_has ls 4 [(0, .ref bs), (1, .ref (a 0)), (2, .ref (b 0)), (3, .int (nI i))]) (d0 : decode cL_law pc = .ok (.aload_n 0, 1)) (d1 : decode cL_law (pc + 1) = .ok (.iload_n 3, 1)) (d2 : decode cL_law (pc + 2) = .ok (.iconst kn, 1)) (hkn : Int32.ofInt kn = nI k) (d3 : decode cL_law (pc + 3) = .ok (.iadd, 1)) (d4 : decode cL_law (pc + 4) = .ok (.iaload, 1))
    (kk : W p l e room_1 s m args below meth c H locs cells slots Q (F0 m (pc + 5) ls (.int (xs (i + k)) :: rest))) : W p l e room_1 s m args below meth c H locs cells slots Q (F0 m pc ls rest) := by
  have hx := C.1.1
  have hb := C.1.2.1
  refine lv_aload_n hx hb d0 rfl (lv_at hl 0 rfl) ?_
  refine lv_iload_n hx hb d1 rfl (lv_at hl 3 rfl) ?_
  refine lv_iconst hx hb d2 hkn ?_
  refine lv_iadd hx hb d3 ?_
  rw [nI_add]
  refine va_sld hx hb hX hbl hbA B.1.2.2 (vp_in_nI hk (by omega)) d4 ?_
  rw [un_cl (show i + k < 2 ^ 31 by omega)]
  exact kk
theorem GD_e {P : va_W → va_W → Prop} (hG : GD N a b cI cJ cT ex u v) (h : ex ≤ 14 → ∀ (kp k0 k1 cm T : Nat) (ti td : Nat → Nat) (pd_signs : Nat → Int32) (pd_lacking : Nat → Int32) (t0_signs : Nat → Int32) (t0_wanted : Nat → Int32) (t0_owners : Nat → Int32) (t0_places : Nat → Int32) (t0_spans : Nat → Int32) (t0_partNodes : Nat → Int32) (t1_signs : Nat → Int32) (t1_wanted : Nat → Int32) (t1_owners : Nat → Int32) (t1_places : Nat → Int32) (t1_spans : Nat → Int32) (t1_partNodes : Nat → Int32) (wk_low : Nat → Int64) (wk_mid : Nat → Int64) (wk_high : Nat → Int64) (wk_holds : Nat → Int64) (rs_low : Nat → Int64) (rs_mid : Nat → Int64) (rs_high : Nat → Int64) (ch_nodes : Nat → Int32) (ch_signs : Nat → Int32) (ch_felt : Nat → Int32) (te_inputs : Nat → Int32) (te_dues : Nat → Int32) (no_bits : Nat → Int32) (no_wishedInputs : Int32) (no_wishedMany : Int32) (no_hiddenUnlike : Nat → Int64) (fw_waits : Nat → Int32) (fw_wa : Nat) (fw_order : Nat → Int32) (fw_sum : Int32) (fw_set : Int32) (fw_fresh : Int32) (bl_uppers : Nat → Int32) (bl_lowers : Nat → Int32) (bl_runBits : Nat → Int32) (me_found : Nat → Int32) (me_count : Int32) (pa_lowest : Int32) (pa_steps : Int32) (mo_signs : Nat → Int32) (mo_nodeSign : Nat → Int32) (mo_nodeOn : Nat → Int32) (mo_nodeSize : Nat → Int32) (mo_nodeMany : Nat → Int32) (mo_due : Nat → Int32) (mo_openNode : Nat → Int32) (mo_value : Nat → Int32) (mo_isLaid : Int32) (mo_changes : Int32) (mo_changeNode : Nat → Int32) (mo_changeSign : Nat → Int32) (mo_differs : Nat → Int32) (mo_results : Nat → Int32) (mo_own : Nat → Int32) (mo_testInputs : Nat → Int32) (mo_testDue : Nat → Int32) (mo_noticed : Nat → Int32) (mo_missed : Nat → Int32) (mo_leastFrom : Nat → Int32) (mo_blameUpper : Nat → Int32) (mo_blameLower : Nat → Int32), INV N kp k0 k1 cm T ti td pd_signs t0_signs t0_wanted t0_owners t0_places t0_spans t0_partNodes t1_signs t1_wanted t1_owners t1_places t1_spans t1_partNodes rs_low rs_mid rs_high ch_nodes ch_signs ch_felt te_inputs te_dues no_bits fw_order fw_sum fw_set fw_fresh mo_signs mo_nodeSign mo_nodeOn mo_nodeSize mo_nodeMany mo_isLaid mo_changes mo_changeNode mo_changeSign mo_differs mo_results mo_own mo_testInputs mo_testDue → P (wd_nt_pd_t0_t1_wk_rs_ch_te_no_fw_bl_me_pa a (fun k => k) cI cJ cT pd_signs (nI kp) pd_lacking t0_signs t0_wanted t0_owners t0_places t0_spans t0_partNodes (nI k0) t1_signs t1_wanted t1_owners t1_places t1_spans t1_partNodes (nI k1) wk_low wk_mid wk_high wk_holds rs_low rs_mid rs_high ch_nodes ch_signs ch_felt (nI cm) te_inputs te_dues (nI T) no_bits no_wishedInputs no_wishedMany no_hiddenUnlike fw_waits (2 ^ ex) fw_wa fw_order fw_sum fw_set fw_fresh bl_uppers bl_lowers bl_runBits me_found me_count pa_lowest pa_steps) (wd_mo a b cI cJ cT mo_signs (nI kp) mo_nodeSign mo_nodeOn mo_nodeSize mo_nodeMany mo_due mo_openNode mo_value mo_isLaid mo_changes mo_changeNode mo_changeSign mo_differs mo_results mo_own kn0 mo_testInputs mo_testDue (nI T) mo_noticed mo_missed mo_leastFrom mo_blameUpper mo_blameLower)) : P u v := by
  obtain ⟨hex, hG⟩ := hG
  obtain ⟨kp, hG⟩ := hG
  obtain ⟨k0, hG⟩ := hG
  obtain ⟨k1, hG⟩ := hG
  obtain ⟨cm, hG⟩ := hG
  obtain ⟨T, hG⟩ := hG
  obtain ⟨ti, hG⟩ := hG
  obtain ⟨td, hG⟩ := hG
  obtain ⟨pd_signs, hG⟩ := hG
  obtain ⟨pd_lacking, hG⟩ := hG
  obtain ⟨t0_signs, hG⟩ := hG
  obtain ⟨t0_wanted, hG⟩ := hG
  obtain ⟨t0_owners, hG⟩ := hG
  obtain ⟨t0_places, hG⟩ := hG
  obtain ⟨t0_spans, hG⟩ := hG
  obtain ⟨t0_partNodes, hG⟩ := hG
  obtain ⟨t1_signs, hG⟩ := hG
  obtain ⟨t1_wanted, hG⟩ := hG
  obtain ⟨t1_owners, hG⟩ := hG
  obtain ⟨t1_places, hG⟩ := hG
  obtain ⟨t1_spans, hG⟩ := hG
  obtain ⟨t1_partNodes, hG⟩ := hG
  obtain ⟨wk_low, hG⟩ := hG
  obtain ⟨wk_mid, hG⟩ := hG
  obtain ⟨wk_high, hG⟩ := hG
  obtain ⟨wk_holds, hG⟩ := hG
  obtain ⟨rs_low, hG⟩ := hG
  obtain ⟨rs_mid, hG⟩ := hG
  obtain ⟨rs_high, hG⟩ := hG
  obtain ⟨ch_nodes, hG⟩ := hG
  obtain ⟨ch_signs, hG⟩ := hG
  obtain ⟨ch_felt, hG⟩ := hG
  obtain ⟨te_inputs, hG⟩ := hG
  obtain ⟨te_dues, hG⟩ := hG
  obtain ⟨no_bits, hG⟩ := hG
  obtain ⟨no_wishedInputs, hG⟩ := hG
  obtain ⟨no_wishedMany, hG⟩ := hG
  obtain ⟨no_hiddenUnlike, hG⟩ := hG
  obtain ⟨fw_waits, hG⟩ := hG
  obtain ⟨fw_wa, hG⟩ := hG
  obtain ⟨fw_order, hG⟩ := hG
  obtain ⟨fw_sum, hG⟩ := hG
  obtain ⟨fw_set, hG⟩ := hG
  obtain ⟨fw_fresh, hG⟩ := hG
  obtain ⟨bl_uppers, hG⟩ := hG
  obtain ⟨bl_lowers, hG⟩ := hG
  obtain ⟨bl_runBits, hG⟩ := hG
  obtain ⟨me_found, hG⟩ := hG
  obtain ⟨me_count, hG⟩ := hG
  obtain ⟨pa_lowest, hG⟩ := hG
  obtain ⟨pa_steps, hG⟩ := hG
  obtain ⟨mo_signs, hG⟩ := hG
  obtain ⟨mo_nodeSign, hG⟩ := hG
  obtain ⟨mo_nodeOn, hG⟩ := hG
  obtain ⟨mo_nodeSize, hG⟩ := hG
  obtain ⟨mo_nodeMany, hG⟩ := hG
  obtain ⟨mo_due, hG⟩ := hG
  obtain ⟨mo_openNode, hG⟩ := hG
  obtain ⟨mo_value, hG⟩ := hG
  obtain ⟨mo_isLaid, hG⟩ := hG
  obtain ⟨mo_changes, hG⟩ := hG
  obtain ⟨mo_changeNode, hG⟩ := hG
  obtain ⟨mo_changeSign, hG⟩ := hG
  obtain ⟨mo_differs, hG⟩ := hG
  obtain ⟨mo_results, hG⟩ := hG
  obtain ⟨mo_own, hG⟩ := hG
  obtain ⟨mo_testInputs, hG⟩ := hG
  obtain ⟨mo_testDue, hG⟩ := hG
  obtain ⟨mo_noticed, hG⟩ := hG
  obtain ⟨mo_missed, hG⟩ := hG
  obtain ⟨mo_leastFrom, hG⟩ := hG
  obtain ⟨mo_blameUpper, hG⟩ := hG
  obtain ⟨mo_blameLower, hG⟩ := hG
  obtain ⟨hv, hu, hw⟩ := hG
  rw [hu, hw]
  exact h hex kp k0 k1 cm T ti td pd_signs pd_lacking t0_signs t0_wanted t0_owners t0_places t0_spans t0_partNodes t1_signs t1_wanted t1_owners t1_places t1_spans t1_partNodes wk_low wk_mid wk_high wk_holds rs_low rs_mid rs_high ch_nodes ch_signs ch_felt te_inputs te_dues no_bits no_wishedInputs no_wishedMany no_hiddenUnlike fw_waits fw_wa fw_order fw_sum fw_set fw_fresh bl_uppers bl_lowers bl_runBits me_found me_count pa_lowest pa_steps mo_signs mo_nodeSign mo_nodeOn mo_nodeSize mo_nodeMany mo_due mo_openNode mo_value mo_isLaid mo_changes mo_changeNode mo_changeSign mo_differs mo_results mo_own mo_testInputs mo_testDue mo_noticed mo_missed mo_leastFrom mo_blameUpper mo_blameLower hv
/-- goes on behind a road -/
def KK (p : Program) (l : Launch) (e : Env) (s : State) (m : MethodId) (args : Array Value) (below : List Frame) (meth : Method) (c : Code) (cells slots : Nat) (Q : State → Prop) (D : va_G) (A : Nat → Prop) (cI cJ cT : ClassId) (ls : Array Slot) (a b : Nat → Nat) (N ex : Nat) : Prop := ∀ (ex' mc ms : Nat) (u' v' : va_W) (H1 : Heap) (locs1 : List Loc), GD N a b cI cJ cT ex' u' v' → D2 D A u' v' s H1 locs1 → ((mc = 0 ∧ ms = 0 ∧ ex' = ex) ∨ (mc = 1 ∧ ms = 2 ^ ex' ∧ ex < ex')) → W p l e room_1 s m args below meth c H1 locs1 (cells + mc) (slots + ms) Q (F0 m 749 ls [])
end LAW
