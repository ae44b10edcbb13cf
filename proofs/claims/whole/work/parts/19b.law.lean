def t_lc_0 : List (Nat × Instr × Nat) := [(216, .aload_n 1, 1), (217, .aload_n 0, 1), (218, .iload 5, 2), (220, .iconst 1, 1), (221, .iadd, 1), (222, .iaload, 1), (223, .aload_n 3, 1), (224, .invokestatic 141, 3), (227, .istore 6, 2), (229, .aload_n 2, 1), (230, .aload_n 0, 1), (231, .iload 5, 2), (233, .iconst 1, 1), (234, .iadd, 1), (235, .iaload, 1), (236, .invokevirtual 146, 3), (239, .istore 7, 2), (241, .aload_n 2, 1), (242, .invokevirtual 147, 3), (245, .iload 6, 2), (247, .if_icmp .eq 5, 3), (252, .iload 6, 2), (254, .ifCond .ne 15, 3), (269, .goto 2207, 3), (257, .aload_n 3, 1), (258, .iconst 0, 1), (259, .laload, 1), (260, .iload 7, 2), (262, .i2l, 1), (263, .lcmp, 1), (264, .ifCond .eq 5, 3), (267, .iconst 0, 1), (268, .ireturn, 1), (250, .iconst 0, 1), (251, .ireturn, 1)]
theorem dt_lc_0 : tblOK code t_lc_0 = true := by decide +kernel
def p_lc_0 (xs : Nat → Int32) (L : Nat) (i : Int32) (σ : Sg) : Option Sg := if ib (i + 1) L then ((p_L_farm (xs (i + 1).toNatClampNeg) σ).bind fun r2 => if ib (i + 1) L then ((p_X7_farm (xs (i + 1).toNatClampNeg) r2.2).bind fun r4 => (p_X7_thrown  r4.2).bind fun r5 => if r5 = r2.1 then (if r2.1 = 0 then (if (lg_cmp (gL r4.2) r4.1.toInt64) = 0 then (some r4.2) else (none)) else (some r4.2)) else (none)) else none) else none
set_option maxRecDepth 20000 in
set_option maxHeartbeats 1000000 in
theorem s_lc_0 {l : Launch} {D : va_G} {ty : Nat → ClassId} {ρ : Nat → Nat → Nat} {N0 : Nat} (S : St l ty ρ N0) {xs : Nat → Int32} {L b : Nat} (i : Int32) (σ σ9 : Sg) (h : p_lc_0 xs L i σ = some σ9) {p : Program} {e : Env} {s : State} {m : MethodId} {args : Array Value} {below : List Frame} {meth : Method} {c : Code} {Q : State → Prop} (K : Cx p l s m args meth c code 9 RL ret D ty ρ N0) (hX : va_X b L xs s s.heap) (hbl : b < s.heap.size) (hbA : ¬ N0 ≤ b) {cs ss : Nat} (hcs : cs + 20 ≤ 603072) (hss : ss + 120 ≤ 7207018) (hk : ∀ c9 s9, c9 ≤ cs + 20 → s9 ≤ ss + 120 → WA p l e room_1 s m args below meth c D ty ρ N0 9 Q 2476 [some (.ref b), some (.ref (ρ 0 0)), some (.ref (ρ 20 0)), some (.ref (ρ 30 0)), some (.ref (ρ 31 0)), some (.int i), none, none, none] [] σ9 c9 s9) : WA p l e room_1 s m args below meth c D ty ρ N0 9 Q 216 [some (.ref b), some (.ref (ρ 0 0)), some (.ref (ρ 20 0)), some (.ref (ρ 30 0)), some (.ref (ρ 31 0)), some (.int i), none, none, none] [] σ cs ss := by
  have dq := @tat _ _ dt_lc_0
  unfold p_lc_0 at h
  refine a_aload_n K (dq 0 rfl) rfl rfl ?_
  refine a_aload_n K (dq 1 rfl) rfl rfl ?_
  refine a_iload K (dq 2 rfl) rfl ?_
  refine a_iconst K (dq 3 rfl) (v := 1) rfl ?_
  refine a_iadd K (dq 4 rfl) ?_
  obtain ⟨c1, h⟩ := ib_some h
  refine a_sld K hX hbl hbA c1 (dq 5 rfl) ?_
  refine a_aload_n K (dq 6 rfl) rfl rfl ?_
  obtain ⟨r2, h2, h⟩ := bnd h
  refine a_callH K (s_L_farm S (xs (i + 1).toNatClampNeg) σ r2 h2) cw_L_farm mh_L_141 (by decide) rfl (rest := []) rfl (Nat.le_of_ble_eq_true rfl) (dq 7 rfl) (by constructor <;> (simp only [rmk, room_1]; omega)) ?_
  refine a_istore K (dq 8 rfl) (Nat.le_of_ble_eq_true rfl) (ls' := [some (.ref b), some (.ref (ρ 0 0)), some (.ref (ρ 20 0)), some (.ref (ρ 30 0)), some (.ref (ρ 31 0)), some (.int i), some (.int r2.1), none, none]) rfl ?_
  refine a_aload_n K (dq 9 rfl) rfl rfl ?_
  refine a_aload_n K (dq 10 rfl) rfl rfl ?_
  refine a_iload K (dq 11 rfl) rfl ?_
  refine a_iconst K (dq 12 rfl) (v := 1) rfl ?_
  refine a_iadd K (dq 13 rfl) ?_
  obtain ⟨c3, h⟩ := ib_some h
  refine a_sld K hX hbl hbA c3 (dq 14 rfl) ?_
  obtain ⟨r4, h4, h⟩ := bnd h
  refine a_callVi K (s_X7_farm S (xs (i + 1).toNatClampNeg) r2.2 r4 h4) v_20 rfl rfl cw_X7_farm ml_L_146 (by decide) rfl (rest := []) rfl (Nat.le_of_ble_eq_true rfl) (dq 15 rfl) (by constructor <;> (simp only [rmk, room_1]; omega)) ?_
  refine a_istore K (dq 16 rfl) (Nat.le_of_ble_eq_true rfl) (ls' := [some (.ref b), some (.ref (ρ 0 0)), some (.ref (ρ 20 0)), some (.ref (ρ 30 0)), some (.ref (ρ 31 0)), some (.int i), some (.int r2.1), some (.int r4.1), none]) rfl ?_
  refine a_aload_n K (dq 17 rfl) rfl rfl ?_
  obtain ⟨r5, h5, h⟩ := bnd h
  refine a_callVi K (s_X7_thrown S  r4.2 r5 h5) v_20 rfl rfl cw_X7_thrown ml_L_147 (by decide) rfl (rest := []) rfl (Nat.le_of_ble_eq_true rfl) (dq 18 rfl) (by constructor <;> (simp only [rmk, room_1]; omega)) ?_
  refine a_iload K (dq 19 rfl) rfl ?_
  refine a_icmp_eq K (tgt := 252) (dq 20 rfl) rfl (fun c6 => ?_) (fun c6 => ?_)
  · have h := ite_t c6 h
    refine a_iload K (dq 21 rfl) rfl ?_
    refine a_if_ne K (tgt := 269) (dq 22 rfl) rfl (fun c7 => ?_) (fun c7 => ?_)
    · have h := ite_f c7 h
      refine a_goto K (tgt := 2476) (dq 23 rfl) rfl ?_
      obtain rfl := Option.some.inj h
      refine a_le2 (ls' := [some (.ref b), some (.ref (ρ 0 0)), some (.ref (ρ 20 0)), some (.ref (ρ 30 0)), some (.ref (ρ 31 0)), some (.int i), none, none, none]) ⟨rfl, rfl, rfl, rfl, rfl, rfl, trivial⟩ ?_
      exact hk _ _ (by simp only [rmk]; omega) (by simp only [rmk]; omega)
    · have h := ite_t c7 h
      refine a_aload_n K (dq 24 rfl) rfl rfl ?_
      refine a_iconst K (dq 25 rfl) (v := 0) rfl ?_
      refine a_lald K (dq 26 rfl) ?_
      refine a_iload K (dq 27 rfl) rfl ?_
      refine a_i2l K (dq 28 rfl) ?_
      refine a_lcmp K (dq 29 rfl) ?_
      refine a_if_eq K (tgt := 269) (dq 30 rfl) rfl (fun c8 => ?_) (fun c8 => ?_)
      · have h := ite_t c8 h
        refine a_goto K (tgt := 2476) (dq 23 rfl) rfl ?_
        obtain rfl := Option.some.inj h
        refine a_le2 (ls' := [some (.ref b), some (.ref (ρ 0 0)), some (.ref (ρ 20 0)), some (.ref (ρ 30 0)), some (.ref (ρ 31 0)), some (.int i), none, none, none]) ⟨rfl, rfl, rfl, rfl, rfl, rfl, trivial⟩ ?_
        exact hk _ _ (by simp only [rmk]; omega) (by simp only [rmk]; omega)
      · have h := ite_f c8 h
        refine a_iconst K (dq 31 rfl) (v := 0) rfl ?_
        cases h
  · have h := ite_f c6 h
    refine a_iconst K (dq 33 rfl) (v := 0) rfl ?_
    cases h
def t_lc_1 : List (Nat × Instr × Nat) := [(272, .aload_n 1, 1), (273, .aload_n 0, 1), (274, .iload 5, 2), (276, .iconst 1, 1), (277, .iadd, 1), (278, .iaload, 1), (279, .aload_n 0, 1), (280, .iload 5, 2), (282, .iconst 2, 1), (283, .iadd, 1), (284, .iaload, 1), (285, .aload_n 3, 1), (286, .invokestatic 150, 3), (289, .istore 6, 2), (291, .aload_n 2, 1), (292, .aload_n 0, 1), (293, .iload 5, 2), (295, .iconst 1, 1), (296, .iadd, 1), (297, .iaload, 1), (298, .aload_n 0, 1), (299, .iload 5, 2), (301, .iconst 2, 1), (302, .iadd, 1), (303, .iaload, 1), (304, .invokevirtual 153, 3), (307, .istore 7, 2), (309, .aload_n 2, 1), (310, .invokevirtual 147, 3), (313, .iload 6, 2), (315, .if_icmp .eq 5, 3), (320, .iload 6, 2), (322, .ifCond .ne 15, 3), (337, .goto 2139, 3), (325, .aload_n 3, 1), (326, .iconst 0, 1), (327, .laload, 1), (328, .iload 7, 2), (330, .i2l, 1), (331, .lcmp, 1), (332, .ifCond .eq 5, 3), (335, .iconst 0, 1), (336, .ireturn, 1), (318, .iconst 0, 1), (319, .ireturn, 1)]
theorem dt_lc_1 : tblOK code t_lc_1 = true := by decide +kernel
def p_lc_1 (xs : Nat → Int32) (L : Nat) (i : Int32) (σ : Sg) : Option Sg := if ib (i + 1) L then (if ib (i + 2) L then ((p_L_lay (xs (i + 1).toNatClampNeg) (xs (i + 2).toNatClampNeg) σ).bind fun r3 => if ib (i + 1) L then (if ib (i + 2) L then ((p_X7_lay (xs (i + 1).toNatClampNeg) (xs (i + 2).toNatClampNeg) r3.2).bind fun r6 => (p_X7_thrown  r6.2).bind fun r7 => if r7 = r3.1 then (if r3.1 = 0 then (if (lg_cmp (gL r6.2) r6.1.toInt64) = 0 then (some r6.2) else (none)) else (some r6.2)) else (none)) else none) else none) else none) else none
set_option maxRecDepth 20000 in
set_option maxHeartbeats 1000000 in
theorem s_lc_1 {l : Launch} {D : va_G} {ty : Nat → ClassId} {ρ : Nat → Nat → Nat} {N0 : Nat} (S : St l ty ρ N0) {xs : Nat → Int32} {L b : Nat} (i : Int32) (σ σ9 : Sg) (h : p_lc_1 xs L i σ = some σ9) {p : Program} {e : Env} {s : State} {m : MethodId} {args : Array Value} {below : List Frame} {meth : Method} {c : Code} {Q : State → Prop} (K : Cx p l s m args meth c code 9 RL ret D ty ρ N0) (hX : va_X b L xs s s.heap) (hbl : b < s.heap.size) (hbA : ¬ N0 ≤ b) {cs ss : Nat} (hcs : cs + 20 ≤ 603072) (hss : ss + 120 ≤ 7207018) (hk : ∀ c9 s9, c9 ≤ cs + 20 → s9 ≤ ss + 120 → WA p l e room_1 s m args below meth c D ty ρ N0 9 Q 2476 [some (.ref b), some (.ref (ρ 0 0)), some (.ref (ρ 20 0)), some (.ref (ρ 30 0)), some (.ref (ρ 31 0)), some (.int i), none, none, none] [] σ9 c9 s9) : WA p l e room_1 s m args below meth c D ty ρ N0 9 Q 272 [some (.ref b), some (.ref (ρ 0 0)), some (.ref (ρ 20 0)), some (.ref (ρ 30 0)), some (.ref (ρ 31 0)), some (.int i), none, none, none] [] σ cs ss := by
  have dq := @tat _ _ dt_lc_1
  unfold p_lc_1 at h
  refine a_aload_n K (dq 0 rfl) rfl rfl ?_
  refine a_aload_n K (dq 1 rfl) rfl rfl ?_
  refine a_iload K (dq 2 rfl) rfl ?_
  refine a_iconst K (dq 3 rfl) (v := 1) rfl ?_
  refine a_iadd K (dq 4 rfl) ?_
  obtain ⟨c1, h⟩ := ib_some h
  refine a_sld K hX hbl hbA c1 (dq 5 rfl) ?_
  refine a_aload_n K (dq 6 rfl) rfl rfl ?_
  refine a_iload K (dq 7 rfl) rfl ?_
  refine a_iconst K (dq 8 rfl) (v := 2) rfl ?_
  refine a_iadd K (dq 9 rfl) ?_
  obtain ⟨c2, h⟩ := ib_some h
  refine a_sld K hX hbl hbA c2 (dq 10 rfl) ?_
  refine a_aload_n K (dq 11 rfl) rfl rfl ?_
  obtain ⟨r3, h3, h⟩ := bnd h
  refine a_callH K (s_L_lay S (xs (i + 1).toNatClampNeg) (xs (i + 2).toNatClampNeg) σ r3 h3) cw_L_lay mh_L_150 (by decide) rfl (rest := []) rfl (Nat.le_of_ble_eq_true rfl) (dq 12 rfl) (by constructor <;> (simp only [rmk, room_1]; omega)) ?_
  refine a_istore K (dq 13 rfl) (Nat.le_of_ble_eq_true rfl) (ls' := [some (.ref b), some (.ref (ρ 0 0)), some (.ref (ρ 20 0)), some (.ref (ρ 30 0)), some (.ref (ρ 31 0)), some (.int i), some (.int r3.1), none, none]) rfl ?_
  refine a_aload_n K (dq 14 rfl) rfl rfl ?_
  refine a_aload_n K (dq 15 rfl) rfl rfl ?_
  refine a_iload K (dq 16 rfl) rfl ?_
  refine a_iconst K (dq 17 rfl) (v := 1) rfl ?_
  refine a_iadd K (dq 18 rfl) ?_
  obtain ⟨c4, h⟩ := ib_some h
  refine a_sld K hX hbl hbA c4 (dq 19 rfl) ?_
  refine a_aload_n K (dq 20 rfl) rfl rfl ?_
  refine a_iload K (dq 21 rfl) rfl ?_
  refine a_iconst K (dq 22 rfl) (v := 2) rfl ?_
  refine a_iadd K (dq 23 rfl) ?_
  obtain ⟨c5, h⟩ := ib_some h
  refine a_sld K hX hbl hbA c5 (dq 24 rfl) ?_
  obtain ⟨r6, h6, h⟩ := bnd h
  refine a_callVi K (s_X7_lay S (xs (i + 1).toNatClampNeg) (xs (i + 2).toNatClampNeg) r3.2 r6 h6) v_20 rfl rfl cw_X7_lay ml_L_153 (by decide) rfl (rest := []) rfl (Nat.le_of_ble_eq_true rfl) (dq 25 rfl) (by constructor <;> (simp only [rmk, room_1]; omega)) ?_
  refine a_istore K (dq 26 rfl) (Nat.le_of_ble_eq_true rfl) (ls' := [some (.ref b), some (.ref (ρ 0 0)), some (.ref (ρ 20 0)), some (.ref (ρ 30 0)), some (.ref (ρ 31 0)), some (.int i), some (.int r3.1), some (.int r6.1), none]) rfl ?_
  refine a_aload_n K (dq 27 rfl) rfl rfl ?_
  obtain ⟨r7, h7, h⟩ := bnd h
  refine a_callVi K (s_X7_thrown S  r6.2 r7 h7) v_20 rfl rfl cw_X7_thrown ml_L_147 (by decide) rfl (rest := []) rfl (Nat.le_of_ble_eq_true rfl) (dq 28 rfl) (by constructor <;> (simp only [rmk, room_1]; omega)) ?_
  refine a_iload K (dq 29 rfl) rfl ?_
  refine a_icmp_eq K (tgt := 320) (dq 30 rfl) rfl (fun c8 => ?_) (fun c8 => ?_)
  · have h := ite_t c8 h
    refine a_iload K (dq 31 rfl) rfl ?_
    refine a_if_ne K (tgt := 337) (dq 32 rfl) rfl (fun c9 => ?_) (fun c9 => ?_)
    · have h := ite_f c9 h
      refine a_goto K (tgt := 2476) (dq 33 rfl) rfl ?_
      obtain rfl := Option.some.inj h
      refine a_le2 (ls' := [some (.ref b), some (.ref (ρ 0 0)), some (.ref (ρ 20 0)), some (.ref (ρ 30 0)), some (.ref (ρ 31 0)), some (.int i), none, none, none]) ⟨rfl, rfl, rfl, rfl, rfl, rfl, trivial⟩ ?_
      exact hk _ _ (by simp only [rmk]; omega) (by simp only [rmk]; omega)
    · have h := ite_t c9 h
      refine a_aload_n K (dq 34 rfl) rfl rfl ?_
      refine a_iconst K (dq 35 rfl) (v := 0) rfl ?_
      refine a_lald K (dq 36 rfl) ?_
      refine a_iload K (dq 37 rfl) rfl ?_
      refine a_i2l K (dq 38 rfl) ?_
      refine a_lcmp K (dq 39 rfl) ?_
      refine a_if_eq K (tgt := 337) (dq 40 rfl) rfl (fun c10 => ?_) (fun c10 => ?_)
      · have h := ite_t c10 h
        refine a_goto K (tgt := 2476) (dq 33 rfl) rfl ?_
        obtain rfl := Option.some.inj h
        refine a_le2 (ls' := [some (.ref b), some (.ref (ρ 0 0)), some (.ref (ρ 20 0)), some (.ref (ρ 30 0)), some (.ref (ρ 31 0)), some (.int i), none, none, none]) ⟨rfl, rfl, rfl, rfl, rfl, rfl, trivial⟩ ?_
        exact hk _ _ (by simp only [rmk]; omega) (by simp only [rmk]; omega)
      · have h := ite_f c10 h
        refine a_iconst K (dq 41 rfl) (v := 0) rfl ?_
        cases h
  · have h := ite_f c8 h
    refine a_iconst K (dq 43 rfl) (v := 0) rfl ?_
    cases h
def t_lc_2 : List (Nat × Instr × Nat) := [(340, .aload_n 1, 1), (341, .aload_n 0, 1), (342, .iload 5, 2), (344, .iconst 1, 1), (345, .iadd, 1), (346, .iaload, 1), (347, .aload_n 0, 1), (348, .iload 5, 2), (350, .iconst 2, 1), (351, .iadd, 1), (352, .iaload, 1), (353, .aload_n 3, 1), (354, .invokestatic 154, 3), (357, .istore 6, 2), (359, .aload_n 2, 1), (360, .aload_n 0, 1), (361, .iload 5, 2), (363, .iconst 1, 1), (364, .iadd, 1), (365, .iaload, 1), (366, .aload_n 0, 1), (367, .iload 5, 2), (369, .iconst 2, 1), (370, .iadd, 1), (371, .iaload, 1), (372, .invokevirtual 156, 3), (375, .istore 7, 2), (377, .aload_n 2, 1), (378, .invokevirtual 147, 3), (381, .iload 6, 2), (383, .if_icmp .eq 5, 3), (388, .iload 6, 2), (390, .ifCond .ne 15, 3), (405, .goto 2071, 3), (393, .aload_n 3, 1), (394, .iconst 0, 1), (395, .laload, 1), (396, .iload 7, 2), (398, .i2l, 1), (399, .lcmp, 1), (400, .ifCond .eq 5, 3), (403, .iconst 0, 1), (404, .ireturn, 1), (386, .iconst 0, 1), (387, .ireturn, 1)]
theorem dt_lc_2 : tblOK code t_lc_2 = true := by decide +kernel
def p_lc_2 (xs : Nat → Int32) (L : Nat) (i : Int32) (σ : Sg) : Option Sg := if ib (i + 1) L then (if ib (i + 2) L then ((p_L_giveUp (xs (i + 1).toNatClampNeg) (xs (i + 2).toNatClampNeg) σ).bind fun r3 => if ib (i + 1) L then (if ib (i + 2) L then ((p_X7_giveUp (xs (i + 1).toNatClampNeg) (xs (i + 2).toNatClampNeg) r3.2).bind fun r6 => (p_X7_thrown  r6.2).bind fun r7 => if r7 = r3.1 then (if r3.1 = 0 then (if (lg_cmp (gL r6.2) r6.1.toInt64) = 0 then (some r6.2) else (none)) else (some r6.2)) else (none)) else none) else none) else none) else none
set_option maxRecDepth 20000 in
set_option maxHeartbeats 1000000 in
theorem s_lc_2 {l : Launch} {D : va_G} {ty : Nat → ClassId} {ρ : Nat → Nat → Nat} {N0 : Nat} (S : St l ty ρ N0) {xs : Nat → Int32} {L b : Nat} (i : Int32) (σ σ9 : Sg) (h : p_lc_2 xs L i σ = some σ9) {p : Program} {e : Env} {s : State} {m : MethodId} {args : Array Value} {below : List Frame} {meth : Method} {c : Code} {Q : State → Prop} (K : Cx p l s m args meth c code 9 RL ret D ty ρ N0) (hX : va_X b L xs s s.heap) (hbl : b < s.heap.size) (hbA : ¬ N0 ≤ b) {cs ss : Nat} (hcs : cs + 20 ≤ 603072) (hss : ss + 120 ≤ 7207018) (hk : ∀ c9 s9, c9 ≤ cs + 20 → s9 ≤ ss + 120 → WA p l e room_1 s m args below meth c D ty ρ N0 9 Q 2476 [some (.ref b), some (.ref (ρ 0 0)), some (.ref (ρ 20 0)), some (.ref (ρ 30 0)), some (.ref (ρ 31 0)), some (.int i), none, none, none] [] σ9 c9 s9) : WA p l e room_1 s m args below meth c D ty ρ N0 9 Q 340 [some (.ref b), some (.ref (ρ 0 0)), some (.ref (ρ 20 0)), some (.ref (ρ 30 0)), some (.ref (ρ 31 0)), some (.int i), none, none, none] [] σ cs ss := by
  have dq := @tat _ _ dt_lc_2
  unfold p_lc_2 at h
  refine a_aload_n K (dq 0 rfl) rfl rfl ?_
  refine a_aload_n K (dq 1 rfl) rfl rfl ?_
  refine a_iload K (dq 2 rfl) rfl ?_
  refine a_iconst K (dq 3 rfl) (v := 1) rfl ?_
  refine a_iadd K (dq 4 rfl) ?_
  obtain ⟨c1, h⟩ := ib_some h
  refine a_sld K hX hbl hbA c1 (dq 5 rfl) ?_
  refine a_aload_n K (dq 6 rfl) rfl rfl ?_
  refine a_iload K (dq 7 rfl) rfl ?_
  refine a_iconst K (dq 8 rfl) (v := 2) rfl ?_
  refine a_iadd K (dq 9 rfl) ?_
  obtain ⟨c2, h⟩ := ib_some h
  refine a_sld K hX hbl hbA c2 (dq 10 rfl) ?_
  refine a_aload_n K (dq 11 rfl) rfl rfl ?_
  obtain ⟨r3, h3, h⟩ := bnd h
  refine a_callH K (s_L_giveUp S (xs (i + 1).toNatClampNeg) (xs (i + 2).toNatClampNeg) σ r3 h3) cw_L_giveUp mh_L_154 (by decide) rfl (rest := []) rfl (Nat.le_of_ble_eq_true rfl) (dq 12 rfl) (by constructor <;> (simp only [rmk, room_1]; omega)) ?_
  refine a_istore K (dq 13 rfl) (Nat.le_of_ble_eq_true rfl) (ls' := [some (.ref b), some (.ref (ρ 0 0)), some (.ref (ρ 20 0)), some (.ref (ρ 30 0)), some (.ref (ρ 31 0)), some (.int i), some (.int r3.1), none, none]) rfl ?_
  refine a_aload_n K (dq 14 rfl) rfl rfl ?_
  refine a_aload_n K (dq 15 rfl) rfl rfl ?_
  refine a_iload K (dq 16 rfl) rfl ?_
  refine a_iconst K (dq 17 rfl) (v := 1) rfl ?_
  refine a_iadd K (dq 18 rfl) ?_
  obtain ⟨c4, h⟩ := ib_some h
  refine a_sld K hX hbl hbA c4 (dq 19 rfl) ?_
  refine a_aload_n K (dq 20 rfl) rfl rfl ?_
  refine a_iload K (dq 21 rfl) rfl ?_
  refine a_iconst K (dq 22 rfl) (v := 2) rfl ?_
  refine a_iadd K (dq 23 rfl) ?_
  obtain ⟨c5, h⟩ := ib_some h
  refine a_sld K hX hbl hbA c5 (dq 24 rfl) ?_
  obtain ⟨r6, h6, h⟩ := bnd h
  refine a_callVi K (s_X7_giveUp S (xs (i + 1).toNatClampNeg) (xs (i + 2).toNatClampNeg) r3.2 r6 h6) v_20 rfl rfl cw_X7_giveUp ml_L_156 (by decide) rfl (rest := []) rfl (Nat.le_of_ble_eq_true rfl) (dq 25 rfl) (by constructor <;> (simp only [rmk, room_1]; omega)) ?_
  refine a_istore K (dq 26 rfl) (Nat.le_of_ble_eq_true rfl) (ls' := [some (.ref b), some (.ref (ρ 0 0)), some (.ref (ρ 20 0)), some (.ref (ρ 30 0)), some (.ref (ρ 31 0)), some (.int i), some (.int r3.1), some (.int r6.1), none]) rfl ?_
  refine a_aload_n K (dq 27 rfl) rfl rfl ?_
  obtain ⟨r7, h7, h⟩ := bnd h
  refine a_callVi K (s_X7_thrown S  r6.2 r7 h7) v_20 rfl rfl cw_X7_thrown ml_L_147 (by decide) rfl (rest := []) rfl (Nat.le_of_ble_eq_true rfl) (dq 28 rfl) (by constructor <;> (simp only [rmk, room_1]; omega)) ?_
  refine a_iload K (dq 29 rfl) rfl ?_
  refine a_icmp_eq K (tgt := 388) (dq 30 rfl) rfl (fun c8 => ?_) (fun c8 => ?_)
  · have h := ite_t c8 h
    refine a_iload K (dq 31 rfl) rfl ?_
    refine a_if_ne K (tgt := 405) (dq 32 rfl) rfl (fun c9 => ?_) (fun c9 => ?_)
    · have h := ite_f c9 h
      refine a_goto K (tgt := 2476) (dq 33 rfl) rfl ?_
      obtain rfl := Option.some.inj h
      refine a_le2 (ls' := [some (.ref b), some (.ref (ρ 0 0)), some (.ref (ρ 20 0)), some (.ref (ρ 30 0)), some (.ref (ρ 31 0)), some (.int i), none, none, none]) ⟨rfl, rfl, rfl, rfl, rfl, rfl, trivial⟩ ?_
      exact hk _ _ (by simp only [rmk]; omega) (by simp only [rmk]; omega)
    · have h := ite_t c9 h
      refine a_aload_n K (dq 34 rfl) rfl rfl ?_
      refine a_iconst K (dq 35 rfl) (v := 0) rfl ?_
      refine a_lald K (dq 36 rfl) ?_
      refine a_iload K (dq 37 rfl) rfl ?_
      refine a_i2l K (dq 38 rfl) ?_
      refine a_lcmp K (dq 39 rfl) ?_
      refine a_if_eq K (tgt := 405) (dq 40 rfl) rfl (fun c10 => ?_) (fun c10 => ?_)
      · have h := ite_t c10 h
        refine a_goto K (tgt := 2476) (dq 33 rfl) rfl ?_
        obtain rfl := Option.some.inj h
        refine a_le2 (ls' := [some (.ref b), some (.ref (ρ 0 0)), some (.ref (ρ 20 0)), some (.ref (ρ 30 0)), some (.ref (ρ 31 0)), some (.int i), none, none, none]) ⟨rfl, rfl, rfl, rfl, rfl, rfl, trivial⟩ ?_
        exact hk _ _ (by simp only [rmk]; omega) (by simp only [rmk]; omega)
      · have h := ite_f c10 h
        refine a_iconst K (dq 41 rfl) (v := 0) rfl ?_
        cases h
  · have h := ite_f c8 h
    refine a_iconst K (dq 43 rfl) (v := 0) rfl ?_
    cases h
def t_lc_3 : List (Nat × Instr × Nat) := [(408, .aload_n 1, 1), (409, .aload_n 0, 1), (410, .iload 5, 2), (412, .iconst 1, 1), (413, .iadd, 1), (414, .iaload, 1), (415, .aload_n 3, 1), (416, .invokestatic 157, 3), (419, .istore 6, 2), (421, .aload_n 2, 1), (422, .aload_n 0, 1), (423, .iload 5, 2), (425, .iconst 1, 1), (426, .iadd, 1), (427, .iaload, 1), (428, .invokevirtual 159, 3), (431, .istore 7, 2), (433, .aload_n 2, 1), (434, .invokevirtual 147, 3), (437, .iload 6, 2), (439, .if_icmp .eq 5, 3), (444, .iload 6, 2), (446, .ifCond .ne 15, 3), (461, .goto 2015, 3), (449, .aload_n 3, 1), (450, .iconst 0, 1), (451, .laload, 1), (452, .iload 7, 2), (454, .i2l, 1), (455, .lcmp, 1), (456, .ifCond .eq 5, 3), (459, .iconst 0, 1), (460, .ireturn, 1), (442, .iconst 0, 1), (443, .ireturn, 1)]
theorem dt_lc_3 : tblOK code t_lc_3 = true := by decide +kernel
def p_lc_3 (xs : Nat → Int32) (L : Nat) (i : Int32) (σ : Sg) : Option Sg := if ib (i + 1) L then ((p_L_root (xs (i + 1).toNatClampNeg) σ).bind fun r2 => if ib (i + 1) L then ((p_X7_root (xs (i + 1).toNatClampNeg) r2.2).bind fun r4 => (p_X7_thrown  r4.2).bind fun r5 => if r5 = r2.1 then (if r2.1 = 0 then (if (lg_cmp (gL r4.2) r4.1.toInt64) = 0 then (some r4.2) else (none)) else (some r4.2)) else (none)) else none) else none
set_option maxRecDepth 20000 in
set_option maxHeartbeats 1000000 in
theorem s_lc_3 {l : Launch} {D : va_G} {ty : Nat → ClassId} {ρ : Nat → Nat → Nat} {N0 : Nat} (S : St l ty ρ N0) {xs : Nat → Int32} {L b : Nat} (i : Int32) (σ σ9 : Sg) (h : p_lc_3 xs L i σ = some σ9) {p : Program} {e : Env} {s : State} {m : MethodId} {args : Array Value} {below : List Frame} {meth : Method} {c : Code} {Q : State → Prop} (K : Cx p l s m args meth c code 9 RL ret D ty ρ N0) (hX : va_X b L xs s s.heap) (hbl : b < s.heap.size) (hbA : ¬ N0 ≤ b) {cs ss : Nat} (hcs : cs + 20 ≤ 603072) (hss : ss + 120 ≤ 7207018) (hk : ∀ c9 s9, c9 ≤ cs + 20 → s9 ≤ ss + 120 → WA p l e room_1 s m args below meth c D ty ρ N0 9 Q 2476 [some (.ref b), some (.ref (ρ 0 0)), some (.ref (ρ 20 0)), some (.ref (ρ 30 0)), some (.ref (ρ 31 0)), some (.int i), none, none, none] [] σ9 c9 s9) : WA p l e room_1 s m args below meth c D ty ρ N0 9 Q 408 [some (.ref b), some (.ref (ρ 0 0)), some (.ref (ρ 20 0)), some (.ref (ρ 30 0)), some (.ref (ρ 31 0)), some (.int i), none, none, none] [] σ cs ss := by
  have dq := @tat _ _ dt_lc_3
  unfold p_lc_3 at h
  refine a_aload_n K (dq 0 rfl) rfl rfl ?_
  refine a_aload_n K (dq 1 rfl) rfl rfl ?_
  refine a_iload K (dq 2 rfl) rfl ?_
  refine a_iconst K (dq 3 rfl) (v := 1) rfl ?_
  refine a_iadd K (dq 4 rfl) ?_
  obtain ⟨c1, h⟩ := ib_some h
  refine a_sld K hX hbl hbA c1 (dq 5 rfl) ?_
  refine a_aload_n K (dq 6 rfl) rfl rfl ?_
  obtain ⟨r2, h2, h⟩ := bnd h
  refine a_callH K (s_L_root S (xs (i + 1).toNatClampNeg) σ r2 h2) cw_L_root mh_L_157 (by decide) rfl (rest := []) rfl (Nat.le_of_ble_eq_true rfl) (dq 7 rfl) (by constructor <;> (simp only [rmk, room_1]; omega)) ?_
  refine a_istore K (dq 8 rfl) (Nat.le_of_ble_eq_true rfl) (ls' := [some (.ref b), some (.ref (ρ 0 0)), some (.ref (ρ 20 0)), some (.ref (ρ 30 0)), some (.ref (ρ 31 0)), some (.int i), some (.int r2.1), none, none]) rfl ?_
  refine a_aload_n K (dq 9 rfl) rfl rfl ?_
  refine a_aload_n K (dq 10 rfl) rfl rfl ?_
  refine a_iload K (dq 11 rfl) rfl ?_
  refine a_iconst K (dq 12 rfl) (v := 1) rfl ?_
  refine a_iadd K (dq 13 rfl) ?_
  obtain ⟨c3, h⟩ := ib_some h
  refine a_sld K hX hbl hbA c3 (dq 14 rfl) ?_
  obtain ⟨r4, h4, h⟩ := bnd h
  refine a_callVi K (s_X7_root S (xs (i + 1).toNatClampNeg) r2.2 r4 h4) v_20 rfl rfl cw_X7_root ml_L_159 (by decide) rfl (rest := []) rfl (Nat.le_of_ble_eq_true rfl) (dq 15 rfl) (by constructor <;> (simp only [rmk, room_1]; omega)) ?_
  refine a_istore K (dq 16 rfl) (Nat.le_of_ble_eq_true rfl) (ls' := [some (.ref b), some (.ref (ρ 0 0)), some (.ref (ρ 20 0)), some (.ref (ρ 30 0)), some (.ref (ρ 31 0)), some (.int i), some (.int r2.1), some (.int r4.1), none]) rfl ?_
  refine a_aload_n K (dq 17 rfl) rfl rfl ?_
  obtain ⟨r5, h5, h⟩ := bnd h
  refine a_callVi K (s_X7_thrown S  r4.2 r5 h5) v_20 rfl rfl cw_X7_thrown ml_L_147 (by decide) rfl (rest := []) rfl (Nat.le_of_ble_eq_true rfl) (dq 18 rfl) (by constructor <;> (simp only [rmk, room_1]; omega)) ?_
  refine a_iload K (dq 19 rfl) rfl ?_
  refine a_icmp_eq K (tgt := 444) (dq 20 rfl) rfl (fun c6 => ?_) (fun c6 => ?_)
  · have h := ite_t c6 h
    refine a_iload K (dq 21 rfl) rfl ?_
    refine a_if_ne K (tgt := 461) (dq 22 rfl) rfl (fun c7 => ?_) (fun c7 => ?_)
    · have h := ite_f c7 h
      refine a_goto K (tgt := 2476) (dq 23 rfl) rfl ?_
      obtain rfl := Option.some.inj h
      refine a_le2 (ls' := [some (.ref b), some (.ref (ρ 0 0)), some (.ref (ρ 20 0)), some (.ref (ρ 30 0)), some (.ref (ρ 31 0)), some (.int i), none, none, none]) ⟨rfl, rfl, rfl, rfl, rfl, rfl, trivial⟩ ?_
      exact hk _ _ (by simp only [rmk]; omega) (by simp only [rmk]; omega)
    · have h := ite_t c7 h
      refine a_aload_n K (dq 24 rfl) rfl rfl ?_
      refine a_iconst K (dq 25 rfl) (v := 0) rfl ?_
      refine a_lald K (dq 26 rfl) ?_
      refine a_iload K (dq 27 rfl) rfl ?_
      refine a_i2l K (dq 28 rfl) ?_
      refine a_lcmp K (dq 29 rfl) ?_
      refine a_if_eq K (tgt := 461) (dq 30 rfl) rfl (fun c8 => ?_) (fun c8 => ?_)
      · have h := ite_t c8 h
        refine a_goto K (tgt := 2476) (dq 23 rfl) rfl ?_
        obtain rfl := Option.some.inj h
        refine a_le2 (ls' := [some (.ref b), some (.ref (ρ 0 0)), some (.ref (ρ 20 0)), some (.ref (ρ 30 0)), some (.ref (ρ 31 0)), some (.int i), none, none, none]) ⟨rfl, rfl, rfl, rfl, rfl, rfl, trivial⟩ ?_
        exact hk _ _ (by simp only [rmk]; omega) (by simp only [rmk]; omega)
      · have h := ite_f c8 h
        refine a_iconst K (dq 31 rfl) (v := 0) rfl ?_
        cases h
  · have h := ite_f c6 h
    refine a_iconst K (dq 33 rfl) (v := 0) rfl ?_
    cases h
def t_lc_4 : List (Nat × Instr × Nat) := [(464, .aload_n 1, 1), (465, .aload_n 0, 1), (466, .iload 5, 2), (468, .iconst 1, 1), (469, .iadd, 1), (470, .iaload, 1), (471, .aload_n 3, 1), (472, .invokestatic 160, 3), (475, .istore 6, 2), (477, .aload_n 2, 1), (478, .aload_n 0, 1), (479, .iload 5, 2), (481, .iconst 1, 1), (482, .iadd, 1), (483, .iaload, 1), (484, .invokevirtual 162, 3), (487, .istore 7, 2), (489, .aload_n 2, 1), (490, .invokevirtual 147, 3), (493, .iload 6, 2), (495, .if_icmp .eq 5, 3), (500, .iload 6, 2), (502, .ifCond .ne 15, 3), (517, .goto 1959, 3), (505, .aload_n 3, 1), (506, .iconst 0, 1), (507, .laload, 1), (508, .iload 7, 2), (510, .i2l, 1), (511, .lcmp, 1), (512, .ifCond .eq 5, 3), (515, .iconst 0, 1), (516, .ireturn, 1), (498, .iconst 0, 1), (499, .ireturn, 1)]
theorem dt_lc_4 : tblOK code t_lc_4 = true := by decide +kernel
def p_lc_4 (xs : Nat → Int32) (L : Nat) (i : Int32) (σ : Sg) : Option Sg := if ib (i + 1) L then ((p_L_expose (xs (i + 1).toNatClampNeg) σ).bind fun r2 => if ib (i + 1) L then ((p_X7_expose (xs (i + 1).toNatClampNeg) r2.2).bind fun r4 => (p_X7_thrown  r4.2).bind fun r5 => if r5 = r2.1 then (if r2.1 = 0 then (if (lg_cmp (gL r4.2) r4.1.toInt64) = 0 then (some r4.2) else (none)) else (some r4.2)) else (none)) else none) else none
set_option maxRecDepth 20000 in
set_option maxHeartbeats 1000000 in
theorem s_lc_4 {l : Launch} {D : va_G} {ty : Nat → ClassId} {ρ : Nat → Nat → Nat} {N0 : Nat} (S : St l ty ρ N0) {xs : Nat → Int32} {L b : Nat} (i : Int32) (σ σ9 : Sg) (h : p_lc_4 xs L i σ = some σ9) {p : Program} {e : Env} {s : State} {m : MethodId} {args : Array Value} {below : List Frame} {meth : Method} {c : Code} {Q : State → Prop} (K : Cx p l s m args meth c code 9 RL ret D ty ρ N0) (hX : va_X b L xs s s.heap) (hbl : b < s.heap.size) (hbA : ¬ N0 ≤ b) {cs ss : Nat} (hcs : cs + 20 ≤ 603072) (hss : ss + 120 ≤ 7207018) (hk : ∀ c9 s9, c9 ≤ cs + 20 → s9 ≤ ss + 120 → WA p l e room_1 s m args below meth c D ty ρ N0 9 Q 2476 [some (.ref b), some (.ref (ρ 0 0)), some (.ref (ρ 20 0)), some (.ref (ρ 30 0)), some (.ref (ρ 31 0)), some (.int i), none, none, none] [] σ9 c9 s9) : WA p l e room_1 s m args below meth c D ty ρ N0 9 Q 464 [some (.ref b), some (.ref (ρ 0 0)), some (.ref (ρ 20 0)), some (.ref (ρ 30 0)), some (.ref (ρ 31 0)), some (.int i), none, none, none] [] σ cs ss := by
  have dq := @tat _ _ dt_lc_4
  unfold p_lc_4 at h
  refine a_aload_n K (dq 0 rfl) rfl rfl ?_
  refine a_aload_n K (dq 1 rfl) rfl rfl ?_
  refine a_iload K (dq 2 rfl) rfl ?_
  refine a_iconst K (dq 3 rfl) (v := 1) rfl ?_
  refine a_iadd K (dq 4 rfl) ?_
  obtain ⟨c1, h⟩ := ib_some h
  refine a_sld K hX hbl hbA c1 (dq 5 rfl) ?_
  refine a_aload_n K (dq 6 rfl) rfl rfl ?_
  obtain ⟨r2, h2, h⟩ := bnd h
  refine a_callH K (s_L_expose S (xs (i + 1).toNatClampNeg) σ r2 h2) cw_L_expose mh_L_160 (by decide) rfl (rest := []) rfl (Nat.le_of_ble_eq_true rfl) (dq 7 rfl) (by constructor <;> (simp only [rmk, room_1]; omega)) ?_
  refine a_istore K (dq 8 rfl) (Nat.le_of_ble_eq_true rfl) (ls' := [some (.ref b), some (.ref (ρ 0 0)), some (.ref (ρ 20 0)), some (.ref (ρ 30 0)), some (.ref (ρ 31 0)), some (.int i), some (.int r2.1), none, none]) rfl ?_
  refine a_aload_n K (dq 9 rfl) rfl rfl ?_
  refine a_aload_n K (dq 10 rfl) rfl rfl ?_
  refine a_iload K (dq 11 rfl) rfl ?_
  refine a_iconst K (dq 12 rfl) (v := 1) rfl ?_
  refine a_iadd K (dq 13 rfl) ?_
  obtain ⟨c3, h⟩ := ib_some h
  refine a_sld K hX hbl hbA c3 (dq 14 rfl) ?_
  obtain ⟨r4, h4, h⟩ := bnd h
  refine a_callVi K (s_X7_expose S (xs (i + 1).toNatClampNeg) r2.2 r4 h4) v_20 rfl rfl cw_X7_expose ml_L_162 (by decide) rfl (rest := []) rfl (Nat.le_of_ble_eq_true rfl) (dq 15 rfl) (by constructor <;> (simp only [rmk, room_1]; omega)) ?_
  refine a_istore K (dq 16 rfl) (Nat.le_of_ble_eq_true rfl) (ls' := [some (.ref b), some (.ref (ρ 0 0)), some (.ref (ρ 20 0)), some (.ref (ρ 30 0)), some (.ref (ρ 31 0)), some (.int i), some (.int r2.1), some (.int r4.1), none]) rfl ?_
  refine a_aload_n K (dq 17 rfl) rfl rfl ?_
  obtain ⟨r5, h5, h⟩ := bnd h
  refine a_callVi K (s_X7_thrown S  r4.2 r5 h5) v_20 rfl rfl cw_X7_thrown ml_L_147 (by decide) rfl (rest := []) rfl (Nat.le_of_ble_eq_true rfl) (dq 18 rfl) (by constructor <;> (simp only [rmk, room_1]; omega)) ?_
  refine a_iload K (dq 19 rfl) rfl ?_
  refine a_icmp_eq K (tgt := 500) (dq 20 rfl) rfl (fun c6 => ?_) (fun c6 => ?_)
  · have h := ite_t c6 h
    refine a_iload K (dq 21 rfl) rfl ?_
    refine a_if_ne K (tgt := 517) (dq 22 rfl) rfl (fun c7 => ?_) (fun c7 => ?_)
    · have h := ite_f c7 h
      refine a_goto K (tgt := 2476) (dq 23 rfl) rfl ?_
      obtain rfl := Option.some.inj h
      refine a_le2 (ls' := [some (.ref b), some (.ref (ρ 0 0)), some (.ref (ρ 20 0)), some (.ref (ρ 30 0)), some (.ref (ρ 31 0)), some (.int i), none, none, none]) ⟨rfl, rfl, rfl, rfl, rfl, rfl, trivial⟩ ?_
      exact hk _ _ (by simp only [rmk]; omega) (by simp only [rmk]; omega)
    · have h := ite_t c7 h
      refine a_aload_n K (dq 24 rfl) rfl rfl ?_
      refine a_iconst K (dq 25 rfl) (v := 0) rfl ?_
      refine a_lald K (dq 26 rfl) ?_
      refine a_iload K (dq 27 rfl) rfl ?_
      refine a_i2l K (dq 28 rfl) ?_
      refine a_lcmp K (dq 29 rfl) ?_
      refine a_if_eq K (tgt := 517) (dq 30 rfl) rfl (fun c8 => ?_) (fun c8 => ?_)
      · have h := ite_t c8 h
        refine a_goto K (tgt := 2476) (dq 23 rfl) rfl ?_
        obtain rfl := Option.some.inj h
        refine a_le2 (ls' := [some (.ref b), some (.ref (ρ 0 0)), some (.ref (ρ 20 0)), some (.ref (ρ 30 0)), some (.ref (ρ 31 0)), some (.int i), none, none, none]) ⟨rfl, rfl, rfl, rfl, rfl, rfl, trivial⟩ ?_
        exact hk _ _ (by simp only [rmk]; omega) (by simp only [rmk]; omega)
      · have h := ite_f c8 h
        refine a_iconst K (dq 31 rfl) (v := 0) rfl ?_
        cases h
  · have h := ite_f c6 h
    refine a_iconst K (dq 33 rfl) (v := 0) rfl ?_
    cases h
def t_lc_5 : List (Nat × Instr × Nat) := [(520, .aload_n 1, 1), (521, .aload_n 0, 1), (522, .iload 5, 2), (524, .iconst 1, 1), (525, .iadd, 1), (526, .iaload, 1), (527, .aload_n 0, 1), (528, .iload 5, 2), (530, .iconst 2, 1), (531, .iadd, 1), (532, .iaload, 1), (533, .aload_n 0, 1), (534, .iload 5, 2), (536, .iconst 3, 1), (537, .iadd, 1), (538, .iaload, 1), (539, .aload_n 3, 1), (540, .invokestatic 163, 3), (543, .istore 6, 2), (545, .aload_n 2, 1), (546, .aload_n 0, 1), (547, .iload 5, 2), (549, .iconst 1, 1), (550, .iadd, 1), (551, .iaload, 1), (552, .aload_n 0, 1), (553, .iload 5, 2), (555, .iconst 2, 1), (556, .iadd, 1), (557, .iaload, 1), (558, .aload_n 0, 1), (559, .iload 5, 2), (561, .iconst 3, 1), (562, .iadd, 1), (563, .iaload, 1), (564, .invokevirtual 166, 3), (567, .istore 7, 2), (569, .aload_n 2, 1), (570, .invokevirtual 147, 3), (573, .iload 6, 2), (575, .if_icmp .eq 5, 3), (580, .iload 6, 2), (582, .ifCond .ne 15, 3), (597, .goto 1879, 3), (585, .aload_n 3, 1), (586, .iconst 0, 1), (587, .laload, 1), (588, .iload 7, 2), (590, .i2l, 1), (591, .lcmp, 1), (592, .ifCond .eq 5, 3), (595, .iconst 0, 1), (596, .ireturn, 1), (578, .iconst 0, 1), (579, .ireturn, 1)]
theorem dt_lc_5 : tblOK code t_lc_5 = true := by decide +kernel
def p_lc_5 (xs : Nat → Int32) (L : Nat) (i : Int32) (σ : Sg) : Option Sg := if ib (i + 1) L then (if ib (i + 2) L then (if ib (i + 3) L then ((p_L_charge (xs (i + 1).toNatClampNeg) (xs (i + 2).toNatClampNeg) (xs (i + 3).toNatClampNeg) σ).bind fun r4 => if ib (i + 1) L then (if ib (i + 2) L then (if ib (i + 3) L then ((p_X7_charge (xs (i + 1).toNatClampNeg) (xs (i + 2).toNatClampNeg) (xs (i + 3).toNatClampNeg) r4.2).bind fun r8 => (p_X7_thrown  r8.2).bind fun r9 => if r9 = r4.1 then (if r4.1 = 0 then (if (lg_cmp (gL r8.2) r8.1.toInt64) = 0 then (some r8.2) else (none)) else (some r8.2)) else (none)) else none) else none) else none) else none) else none) else none
set_option maxRecDepth 20000 in
set_option maxHeartbeats 1000000 in
theorem s_lc_5 {l : Launch} {D : va_G} {ty : Nat → ClassId} {ρ : Nat → Nat → Nat} {N0 : Nat} (S : St l ty ρ N0) {xs : Nat → Int32} {L b : Nat} (i : Int32) (σ σ9 : Sg) (h : p_lc_5 xs L i σ = some σ9) {p : Program} {e : Env} {s : State} {m : MethodId} {args : Array Value} {below : List Frame} {meth : Method} {c : Code} {Q : State → Prop} (K : Cx p l s m args meth c code 9 RL ret D ty ρ N0) (hX : va_X b L xs s s.heap) (hbl : b < s.heap.size) (hbA : ¬ N0 ≤ b) {cs ss : Nat} (hcs : cs + 20 ≤ 603072) (hss : ss + 120 ≤ 7207018) (hk : ∀ c9 s9, c9 ≤ cs + 20 → s9 ≤ ss + 120 → WA p l e room_1 s m args below meth c D ty ρ N0 9 Q 2476 [some (.ref b), some (.ref (ρ 0 0)), some (.ref (ρ 20 0)), some (.ref (ρ 30 0)), some (.ref (ρ 31 0)), some (.int i), none, none, none] [] σ9 c9 s9) : WA p l e room_1 s m args below meth c D ty ρ N0 9 Q 520 [some (.ref b), some (.ref (ρ 0 0)), some (.ref (ρ 20 0)), some (.ref (ρ 30 0)), some (.ref (ρ 31 0)), some (.int i), none, none, none] [] σ cs ss := by
  have dq := @tat _ _ dt_lc_5
  unfold p_lc_5 at h
  refine a_aload_n K (dq 0 rfl) rfl rfl ?_
  refine a_aload_n K (dq 1 rfl) rfl rfl ?_
  refine a_iload K (dq 2 rfl) rfl ?_
  refine a_iconst K (dq 3 rfl) (v := 1) rfl ?_
  refine a_iadd K (dq 4 rfl) ?_
  obtain ⟨c1, h⟩ := ib_some h
  refine a_sld K hX hbl hbA c1 (dq 5 rfl) ?_
  refine a_aload_n K (dq 6 rfl) rfl rfl ?_
  refine a_iload K (dq 7 rfl) rfl ?_
  refine a_iconst K (dq 8 rfl) (v := 2) rfl ?_
  refine a_iadd K (dq 9 rfl) ?_
  obtain ⟨c2, h⟩ := ib_some h
  refine a_sld K hX hbl hbA c2 (dq 10 rfl) ?_
  refine a_aload_n K (dq 11 rfl) rfl rfl ?_
  refine a_iload K (dq 12 rfl) rfl ?_
  refine a_iconst K (dq 13 rfl) (v := 3) rfl ?_
  refine a_iadd K (dq 14 rfl) ?_
  obtain ⟨c3, h⟩ := ib_some h
  refine a_sld K hX hbl hbA c3 (dq 15 rfl) ?_
  refine a_aload_n K (dq 16 rfl) rfl rfl ?_
  obtain ⟨r4, h4, h⟩ := bnd h
  refine a_callH K (s_L_charge S (xs (i + 1).toNatClampNeg) (xs (i + 2).toNatClampNeg) (xs (i + 3).toNatClampNeg) σ r4 h4) cw_L_charge mh_L_163 (by decide) rfl (rest := []) rfl (Nat.le_of_ble_eq_true rfl) (dq 17 rfl) (by constructor <;> (simp only [rmk, room_1]; omega)) ?_
  refine a_istore K (dq 18 rfl) (Nat.le_of_ble_eq_true rfl) (ls' := [some (.ref b), some (.ref (ρ 0 0)), some (.ref (ρ 20 0)), some (.ref (ρ 30 0)), some (.ref (ρ 31 0)), some (.int i), some (.int r4.1), none, none]) rfl ?_
  refine a_aload_n K (dq 19 rfl) rfl rfl ?_
  refine a_aload_n K (dq 20 rfl) rfl rfl ?_
  refine a_iload K (dq 21 rfl) rfl ?_
  refine a_iconst K (dq 22 rfl) (v := 1) rfl ?_
  refine a_iadd K (dq 23 rfl) ?_
  obtain ⟨c5, h⟩ := ib_some h
  refine a_sld K hX hbl hbA c5 (dq 24 rfl) ?_
  refine a_aload_n K (dq 25 rfl) rfl rfl ?_
  refine a_iload K (dq 26 rfl) rfl ?_
  refine a_iconst K (dq 27 rfl) (v := 2) rfl ?_
  refine a_iadd K (dq 28 rfl) ?_
  obtain ⟨c6, h⟩ := ib_some h
  refine a_sld K hX hbl hbA c6 (dq 29 rfl) ?_
  refine a_aload_n K (dq 30 rfl) rfl rfl ?_
  refine a_iload K (dq 31 rfl) rfl ?_
  refine a_iconst K (dq 32 rfl) (v := 3) rfl ?_
  refine a_iadd K (dq 33 rfl) ?_
  obtain ⟨c7, h⟩ := ib_some h
  refine a_sld K hX hbl hbA c7 (dq 34 rfl) ?_
  obtain ⟨r8, h8, h⟩ := bnd h
  refine a_callVi K (s_X7_charge S (xs (i + 1).toNatClampNeg) (xs (i + 2).toNatClampNeg) (xs (i + 3).toNatClampNeg) r4.2 r8 h8) v_20 rfl rfl cw_X7_charge ml_L_166 (by decide) rfl (rest := []) rfl (Nat.le_of_ble_eq_true rfl) (dq 35 rfl) (by constructor <;> (simp only [rmk, room_1]; omega)) ?_
  refine a_istore K (dq 36 rfl) (Nat.le_of_ble_eq_true rfl) (ls' := [some (.ref b), some (.ref (ρ 0 0)), some (.ref (ρ 20 0)), some (.ref (ρ 30 0)), some (.ref (ρ 31 0)), some (.int i), some (.int r4.1), some (.int r8.1), none]) rfl ?_
  refine a_aload_n K (dq 37 rfl) rfl rfl ?_
  obtain ⟨r9, h9, h⟩ := bnd h
  refine a_callVi K (s_X7_thrown S  r8.2 r9 h9) v_20 rfl rfl cw_X7_thrown ml_L_147 (by decide) rfl (rest := []) rfl (Nat.le_of_ble_eq_true rfl) (dq 38 rfl) (by constructor <;> (simp only [rmk, room_1]; omega)) ?_
  refine a_iload K (dq 39 rfl) rfl ?_
  refine a_icmp_eq K (tgt := 580) (dq 40 rfl) rfl (fun c10 => ?_) (fun c10 => ?_)
  · have h := ite_t c10 h
    refine a_iload K (dq 41 rfl) rfl ?_
    refine a_if_ne K (tgt := 597) (dq 42 rfl) rfl (fun c11 => ?_) (fun c11 => ?_)
    · have h := ite_f c11 h
      refine a_goto K (tgt := 2476) (dq 43 rfl) rfl ?_
      obtain rfl := Option.some.inj h
      refine a_le2 (ls' := [some (.ref b), some (.ref (ρ 0 0)), some (.ref (ρ 20 0)), some (.ref (ρ 30 0)), some (.ref (ρ 31 0)), some (.int i), none, none, none]) ⟨rfl, rfl, rfl, rfl, rfl, rfl, trivial⟩ ?_
      exact hk _ _ (by simp only [rmk]; omega) (by simp only [rmk]; omega)
    · have h := ite_t c11 h
      refine a_aload_n K (dq 44 rfl) rfl rfl ?_
      refine a_iconst K (dq 45 rfl) (v := 0) rfl ?_
      refine a_lald K (dq 46 rfl) ?_
      refine a_iload K (dq 47 rfl) rfl ?_
      refine a_i2l K (dq 48 rfl) ?_
      refine a_lcmp K (dq 49 rfl) ?_
      refine a_if_eq K (tgt := 597) (dq 50 rfl) rfl (fun c12 => ?_) (fun c12 => ?_)
      · have h := ite_t c12 h
        refine a_goto K (tgt := 2476) (dq 43 rfl) rfl ?_
        obtain rfl := Option.some.inj h
        refine a_le2 (ls' := [some (.ref b), some (.ref (ρ 0 0)), some (.ref (ρ 20 0)), some (.ref (ρ 30 0)), some (.ref (ρ 31 0)), some (.int i), none, none, none]) ⟨rfl, rfl, rfl, rfl, rfl, rfl, trivial⟩ ?_
        exact hk _ _ (by simp only [rmk]; omega) (by simp only [rmk]; omega)
      · have h := ite_f c12 h
        refine a_iconst K (dq 51 rfl) (v := 0) rfl ?_
        cases h
  · have h := ite_f c10 h
    refine a_iconst K (dq 53 rfl) (v := 0) rfl ?_
    cases h
def t_lc_6 : List (Nat × Instr × Nat) := [(600, .aload_n 1, 1), (601, .aload_n 0, 1), (602, .iload 5, 2), (604, .iconst 1, 1), (605, .iadd, 1), (606, .iaload, 1), (607, .aload_n 0, 1), (608, .iload 5, 2), (610, .iconst 2, 1), (611, .iadd, 1), (612, .iaload, 1), (613, .aload_n 3, 1), (614, .invokestatic 167, 3), (617, .istore 6, 2), (619, .aload_n 2, 1), (620, .aload_n 0, 1), (621, .iload 5, 2), (623, .iconst 1, 1), (624, .iadd, 1), (625, .iaload, 1), (626, .aload_n 0, 1), (627, .iload 5, 2), (629, .iconst 2, 1), (630, .iadd, 1), (631, .iaload, 1), (632, .invokevirtual 169, 3), (635, .istore 7, 2), (637, .aload_n 2, 1), (638, .invokevirtual 147, 3), (641, .iload 6, 2), (643, .if_icmp .eq 5, 3), (648, .iload 6, 2), (650, .ifCond .ne 15, 3), (665, .goto 1811, 3), (653, .aload_n 3, 1), (654, .iconst 0, 1), (655, .laload, 1), (656, .iload 7, 2), (658, .i2l, 1), (659, .lcmp, 1), (660, .ifCond .eq 5, 3), (663, .iconst 0, 1), (664, .ireturn, 1), (646, .iconst 0, 1), (647, .ireturn, 1)]
theorem dt_lc_6 : tblOK code t_lc_6 = true := by decide +kernel
def p_lc_6 (xs : Nat → Int32) (L : Nat) (i : Int32) (σ : Sg) : Option Sg := if ib (i + 1) L then (if ib (i + 2) L then ((p_L_drive (xs (i + 1).toNatClampNeg) (xs (i + 2).toNatClampNeg) σ).bind fun r3 => if ib (i + 1) L then (if ib (i + 2) L then ((p_X7_drive (xs (i + 1).toNatClampNeg) (xs (i + 2).toNatClampNeg) r3.2).bind fun r6 => (p_X7_thrown  r6.2).bind fun r7 => if r7 = r3.1 then (if r3.1 = 0 then (if (lg_cmp (gL r6.2) r6.1.toInt64) = 0 then (some r6.2) else (none)) else (some r6.2)) else (none)) else none) else none) else none) else none
set_option maxRecDepth 20000 in
set_option maxHeartbeats 1000000 in
theorem s_lc_6 {l : Launch} {D : va_G} {ty : Nat → ClassId} {ρ : Nat → Nat → Nat} {N0 : Nat} (S : St l ty ρ N0) {xs : Nat → Int32} {L b : Nat} (i : Int32) (σ σ9 : Sg) (h : p_lc_6 xs L i σ = some σ9) {p : Program} {e : Env} {s : State} {m : MethodId} {args : Array Value} {below : List Frame} {meth : Method} {c : Code} {Q : State → Prop} (K : Cx p l s m args meth c code 9 RL ret D ty ρ N0) (hX : va_X b L xs s s.heap) (hbl : b < s.heap.size) (hbA : ¬ N0 ≤ b) {cs ss : Nat} (hcs : cs + 20 ≤ 603072) (hss : ss + 120 ≤ 7207018) (hk : ∀ c9 s9, c9 ≤ cs + 20 → s9 ≤ ss + 120 → WA p l e room_1 s m args below meth c D ty ρ N0 9 Q 2476 [some (.ref b), some (.ref (ρ 0 0)), some (.ref (ρ 20 0)), some (.ref (ρ 30 0)), some (.ref (ρ 31 0)), some (.int i), none, none, none] [] σ9 c9 s9) : WA p l e room_1 s m args below meth c D ty ρ N0 9 Q 600 [some (.ref b), some (.ref (ρ 0 0)), some (.ref (ρ 20 0)), some (.ref (ρ 30 0)), some (.ref (ρ 31 0)), some (.int i), none, none, none] [] σ cs ss := by
  have dq := @tat _ _ dt_lc_6
  unfold p_lc_6 at h
  refine a_aload_n K (dq 0 rfl) rfl rfl ?_
  refine a_aload_n K (dq 1 rfl) rfl rfl ?_
  refine a_iload K (dq 2 rfl) rfl ?_
  refine a_iconst K (dq 3 rfl) (v := 1) rfl ?_
  refine a_iadd K (dq 4 rfl) ?_
  obtain ⟨c1, h⟩ := ib_some h
  refine a_sld K hX hbl hbA c1 (dq 5 rfl) ?_
  refine a_aload_n K (dq 6 rfl) rfl rfl ?_
  refine a_iload K (dq 7 rfl) rfl ?_
  refine a_iconst K (dq 8 rfl) (v := 2) rfl ?_
  refine a_iadd K (dq 9 rfl) ?_
  obtain ⟨c2, h⟩ := ib_some h
  refine a_sld K hX hbl hbA c2 (dq 10 rfl) ?_
  refine a_aload_n K (dq 11 rfl) rfl rfl ?_
  obtain ⟨r3, h3, h⟩ := bnd h
  refine a_callH K (s_L_drive S (xs (i + 1).toNatClampNeg) (xs (i + 2).toNatClampNeg) σ r3 h3) cw_L_drive mh_L_167 (by decide) rfl (rest := []) rfl (Nat.le_of_ble_eq_true rfl) (dq 12 rfl) (by constructor <;> (simp only [rmk, room_1]; omega)) ?_
  refine a_istore K (dq 13 rfl) (Nat.le_of_ble_eq_true rfl) (ls' := [some (.ref b), some (.ref (ρ 0 0)), some (.ref (ρ 20 0)), some (.ref (ρ 30 0)), some (.ref (ρ 31 0)), some (.int i), some (.int r3.1), none, none]) rfl ?_
  refine a_aload_n K (dq 14 rfl) rfl rfl ?_
  refine a_aload_n K (dq 15 rfl) rfl rfl ?_
  refine a_iload K (dq 16 rfl) rfl ?_
  refine a_iconst K (dq 17 rfl) (v := 1) rfl ?_
  refine a_iadd K (dq 18 rfl) ?_
  obtain ⟨c4, h⟩ := ib_some h
  refine a_sld K hX hbl hbA c4 (dq 19 rfl) ?_
  refine a_aload_n K (dq 20 rfl) rfl rfl ?_
  refine a_iload K (dq 21 rfl) rfl ?_
  refine a_iconst K (dq 22 rfl) (v := 2) rfl ?_
  refine a_iadd K (dq 23 rfl) ?_
  obtain ⟨c5, h⟩ := ib_some h
  refine a_sld K hX hbl hbA c5 (dq 24 rfl) ?_
  obtain ⟨r6, h6, h⟩ := bnd h
  refine a_callVi K (s_X7_drive S (xs (i + 1).toNatClampNeg) (xs (i + 2).toNatClampNeg) r3.2 r6 h6) v_20 rfl rfl cw_X7_drive ml_L_169 (by decide) rfl (rest := []) rfl (Nat.le_of_ble_eq_true rfl) (dq 25 rfl) (by constructor <;> (simp only [rmk, room_1]; omega)) ?_
  refine a_istore K (dq 26 rfl) (Nat.le_of_ble_eq_true rfl) (ls' := [some (.ref b), some (.ref (ρ 0 0)), some (.ref (ρ 20 0)), some (.ref (ρ 30 0)), some (.ref (ρ 31 0)), some (.int i), some (.int r3.1), some (.int r6.1), none]) rfl ?_
  refine a_aload_n K (dq 27 rfl) rfl rfl ?_
  obtain ⟨r7, h7, h⟩ := bnd h
  refine a_callVi K (s_X7_thrown S  r6.2 r7 h7) v_20 rfl rfl cw_X7_thrown ml_L_147 (by decide) rfl (rest := []) rfl (Nat.le_of_ble_eq_true rfl) (dq 28 rfl) (by constructor <;> (simp only [rmk, room_1]; omega)) ?_
  refine a_iload K (dq 29 rfl) rfl ?_
  refine a_icmp_eq K (tgt := 648) (dq 30 rfl) rfl (fun c8 => ?_) (fun c8 => ?_)
  · have h := ite_t c8 h
    refine a_iload K (dq 31 rfl) rfl ?_
    refine a_if_ne K (tgt := 665) (dq 32 rfl) rfl (fun c9 => ?_) (fun c9 => ?_)
    · have h := ite_f c9 h
      refine a_goto K (tgt := 2476) (dq 33 rfl) rfl ?_
      obtain rfl := Option.some.inj h
      refine a_le2 (ls' := [some (.ref b), some (.ref (ρ 0 0)), some (.ref (ρ 20 0)), some (.ref (ρ 30 0)), some (.ref (ρ 31 0)), some (.int i), none, none, none]) ⟨rfl, rfl, rfl, rfl, rfl, rfl, trivial⟩ ?_
      exact hk _ _ (by simp only [rmk]; omega) (by simp only [rmk]; omega)
    · have h := ite_t c9 h
      refine a_aload_n K (dq 34 rfl) rfl rfl ?_
      refine a_iconst K (dq 35 rfl) (v := 0) rfl ?_
      refine a_lald K (dq 36 rfl) ?_
      refine a_iload K (dq 37 rfl) rfl ?_
      refine a_i2l K (dq 38 rfl) ?_
      refine a_lcmp K (dq 39 rfl) ?_
      refine a_if_eq K (tgt := 665) (dq 40 rfl) rfl (fun c10 => ?_) (fun c10 => ?_)
      · have h := ite_t c10 h
        refine a_goto K (tgt := 2476) (dq 33 rfl) rfl ?_
        obtain rfl := Option.some.inj h
        refine a_le2 (ls' := [some (.ref b), some (.ref (ρ 0 0)), some (.ref (ρ 20 0)), some (.ref (ρ 30 0)), some (.ref (ρ 31 0)), some (.int i), none, none, none]) ⟨rfl, rfl, rfl, rfl, rfl, rfl, trivial⟩ ?_
        exact hk _ _ (by simp only [rmk]; omega) (by simp only [rmk]; omega)
      · have h := ite_f c10 h
        refine a_iconst K (dq 41 rfl) (v := 0) rfl ?_
        cases h
  · have h := ite_f c8 h
    refine a_iconst K (dq 43 rfl) (v := 0) rfl ?_
    cases h
