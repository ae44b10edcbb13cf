def t_lc_7 : List (Nat × Instr × Nat) := [(668, .aload_n 1, 1), (669, .aload_n 0, 1), (670, .iload 5, 2), (672, .iconst 1, 1), (673, .iadd, 1), (674, .iaload, 1), (675, .aload_n 0, 1), (676, .iload 5, 2), (678, .iconst 2, 1), (679, .iadd, 1), (680, .iaload, 1), (681, .aload_n 3, 1), (682, .invokestatic 170, 3), (685, .istore 6, 2), (687, .aload_n 2, 1), (688, .aload_n 0, 1), (689, .iload 5, 2), (691, .iconst 1, 1), (692, .iadd, 1), (693, .iaload, 1), (694, .aload_n 0, 1), (695, .iload 5, 2), (697, .iconst 2, 1), (698, .iadd, 1), (699, .iaload, 1), (700, .invokevirtual 172, 3), (703, .istore 7, 2), (705, .aload_n 2, 1), (706, .invokevirtual 147, 3), (709, .iload 6, 2), (711, .if_icmp .eq 5, 3), (716, .iload 6, 2), (718, .ifCond .ne 15, 3), (733, .goto 1743, 3), (721, .aload_n 3, 1), (722, .iconst 0, 1), (723, .laload, 1), (724, .iload 7, 2), (726, .i2l, 1), (727, .lcmp, 1), (728, .ifCond .eq 5, 3), (731, .iconst 0, 1), (732, .ireturn, 1), (714, .iconst 0, 1), (715, .ireturn, 1)]
theorem dt_lc_7 : tblOK code t_lc_7 = true := by decide +kernel
def p_lc_7 (xs : Nat → Int32) (L : Nat) (i : Int32) (σ : Sg) : Option Sg := if ib (i + 1) L then (if ib (i + 2) L then ((p_L_farmOf (xs (i + 1).toNatClampNeg) (xs (i + 2).toNatClampNeg) σ).bind fun r3 => if ib (i + 1) L then (if ib (i + 2) L then ((p_X7_farmOf (xs (i + 1).toNatClampNeg) (xs (i + 2).toNatClampNeg) r3.2).bind fun r6 => (p_X7_thrown  r6.2).bind fun r7 => if r7 = r3.1 then (if r3.1 = 0 then (if (lg_cmp (gL r6.2) r6.1.toInt64) = 0 then (some r6.2) else (none)) else (some r6.2)) else (none)) else none) else none) else none) else none
set_option maxRecDepth 20000 in
set_option maxHeartbeats 1000000 in
theorem s_lc_7 {l : Launch} {D : va_G} {ty : Nat → ClassId} {ρ : Nat → Nat → Nat} {N0 : Nat} (S : St l ty ρ N0) {xs : Nat → Int32} {L b : Nat} (i : Int32) (σ σ9 : Sg) (h : p_lc_7 xs L i σ = some σ9) {p : Program} {e : Env} {s : State} {m : MethodId} {args : Array Value} {below : List Frame} {meth : Method} {c : Code} {Q : State → Prop} (K : Cx p l s m args meth c code 9 RL ret D ty ρ N0) (hX : va_X b L xs s s.heap) (hbl : b < s.heap.size) (hbA : ¬ N0 ≤ b) {cs ss : Nat} (hcs : cs + 20 ≤ 603072) (hss : ss + 120 ≤ 7207018) (hk : ∀ c9 s9, c9 ≤ cs + 20 → s9 ≤ ss + 120 → WA p l e room_1 s m args below meth c D ty ρ N0 9 Q 2476 [some (.ref b), some (.ref (ρ 0 0)), some (.ref (ρ 20 0)), some (.ref (ρ 30 0)), some (.ref (ρ 31 0)), some (.int i), none, none, none] [] σ9 c9 s9) : WA p l e room_1 s m args below meth c D ty ρ N0 9 Q 668 [some (.ref b), some (.ref (ρ 0 0)), some (.ref (ρ 20 0)), some (.ref (ρ 30 0)), some (.ref (ρ 31 0)), some (.int i), none, none, none] [] σ cs ss := by
  have dq := @tat _ _ dt_lc_7
  unfold p_lc_7 at h
  refine a_aload_n K (dq 0 rfl) rfl rfl ?_
  refine a_aload_n K (dq 1 rfl) rfl rfl ?_
  refine a_iload K (dq 2 rfl) rfl ?_
  refine a_iconst K (dq 3 rfl) (v := 1) rfl ?_
  refine a_iadd K (dq 4 rfl) ?_
  obtain ⟨c1, h⟩ := ib_some h
  refine a_sld K hX hbl hbA c1 (dq 5 rfl) ?_
  refine a_aload_n K (dq 6 rfl) rfl rfl ?_
  refine a_iload K (dq 7 rfl) rfl ?_
  refine a_iconst K (dq 8 rfl) (v := 2) rfl ?_
  refine a_iadd K (dq 9 rfl) ?_
  obtain ⟨c2, h⟩ := ib_some h
  refine a_sld K hX hbl hbA c2 (dq 10 rfl) ?_
  refine a_aload_n K (dq 11 rfl) rfl rfl ?_
  obtain ⟨r3, h3, h⟩ := bnd h
  refine a_callH K (s_L_farmOf S (xs (i + 1).toNatClampNeg) (xs (i + 2).toNatClampNeg) σ r3 h3) cw_L_farmOf mh_L_170 (by decide) rfl (rest := []) rfl (Nat.le_of_ble_eq_true rfl) (dq 12 rfl) (by constructor <;> (simp only [rmk, room_1]; omega)) ?_
  refine a_istore K (dq 13 rfl) (Nat.le_of_ble_eq_true rfl) (ls' := [some (.ref b), some (.ref (ρ 0 0)), some (.ref (ρ 20 0)), some (.ref (ρ 30 0)), some (.ref (ρ 31 0)), some (.int i), some (.int r3.1), none, none]) rfl ?_
  refine a_aload_n K (dq 14 rfl) rfl rfl ?_
  refine a_aload_n K (dq 15 rfl) rfl rfl ?_
  refine a_iload K (dq 16 rfl) rfl ?_
  refine a_iconst K (dq 17 rfl) (v := 1) rfl ?_
  refine a_iadd K (dq 18 rfl) ?_
  obtain ⟨c4, h⟩ := ib_some h
  refine a_sld K hX hbl hbA c4 (dq 19 rfl) ?_
  refine a_aload_n K (dq 20 rfl) rfl rfl ?_
  refine a_iload K (dq 21 rfl) rfl ?_
  refine a_iconst K (dq 22 rfl) (v := 2) rfl ?_
  refine a_iadd K (dq 23 rfl) ?_
  obtain ⟨c5, h⟩ := ib_some h
  refine a_sld K hX hbl hbA c5 (dq 24 rfl) ?_
  obtain ⟨r6, h6, h⟩ := bnd h
  refine a_callVi K (s_X7_farmOf S (xs (i + 1).toNatClampNeg) (xs (i + 2).toNatClampNeg) r3.2 r6 h6) v_20 rfl rfl cw_X7_farmOf ml_L_172 (by decide) rfl (rest := []) rfl (Nat.le_of_ble_eq_true rfl) (dq 25 rfl) (by constructor <;> (simp only [rmk, room_1]; omega)) ?_
  refine a_istore K (dq 26 rfl) (Nat.le_of_ble_eq_true rfl) (ls' := [some (.ref b), some (.ref (ρ 0 0)), some (.ref (ρ 20 0)), some (.ref (ρ 30 0)), some (.ref (ρ 31 0)), some (.int i), some (.int r3.1), some (.int r6.1), none]) rfl ?_
  refine a_aload_n K (dq 27 rfl) rfl rfl ?_
  obtain ⟨r7, h7, h⟩ := bnd h
  refine a_callVi K (s_X7_thrown S  r6.2 r7 h7) v_20 rfl rfl cw_X7_thrown ml_L_147 (by decide) rfl (rest := []) rfl (Nat.le_of_ble_eq_true rfl) (dq 28 rfl) (by constructor <;> (simp only [rmk, room_1]; omega)) ?_
  refine a_iload K (dq 29 rfl) rfl ?_
  refine a_icmp_eq K (tgt := 716) (dq 30 rfl) rfl (fun c8 => ?_) (fun c8 => ?_)
  · have h := ite_t c8 h
    refine a_iload K (dq 31 rfl) rfl ?_
    refine a_if_ne K (tgt := 733) (dq 32 rfl) rfl (fun c9 => ?_) (fun c9 => ?_)
    · have h := ite_f c9 h
      refine a_goto K (tgt := 2476) (dq 33 rfl) rfl ?_
      obtain rfl := Option.some.inj h
      refine a_le2 (ls' := [some (.ref b), some (.ref (ρ 0 0)), some (.ref (ρ 20 0)), some (.ref (ρ 30 0)), some (.ref (ρ 31 0)), some (.int i), none, none, none]) ⟨rfl, rfl, rfl, rfl, rfl, rfl, trivial⟩ ?_
      exact hk _ _ (by simp only [rmk]; omega) (by simp only [rmk]; omega)
    · have h := ite_t c9 h
      refine a_aload_n K (dq 34 rfl) rfl rfl ?_
      refine a_iconst K (dq 35 rfl) (v := 0) rfl ?_
      refine a_lald K (dq 36 rfl) ?_
      refine a_iload K (dq 37 rfl) rfl ?_
      refine a_i2l K (dq 38 rfl) ?_
      refine a_lcmp K (dq 39 rfl) ?_
      refine a_if_eq K (tgt := 733) (dq 40 rfl) rfl (fun c10 => ?_) (fun c10 => ?_)
      · have h := ite_t c10 h
        refine a_goto K (tgt := 2476) (dq 33 rfl) rfl ?_
        obtain rfl := Option.some.inj h
        refine a_le2 (ls' := [some (.ref b), some (.ref (ρ 0 0)), some (.ref (ρ 20 0)), some (.ref (ρ 30 0)), some (.ref (ρ 31 0)), some (.int i), none, none, none]) ⟨rfl, rfl, rfl, rfl, rfl, rfl, trivial⟩ ?_
        exact hk _ _ (by simp only [rmk]; omega) (by simp only [rmk]; omega)
      · have h := ite_f c10 h
        refine a_iconst K (dq 41 rfl) (v := 0) rfl ?_
        cases h
  · have h := ite_f c8 h
    refine a_iconst K (dq 43 rfl) (v := 0) rfl ?_
    cases h
def t_lc_8 : List (Nat × Instr × Nat) := [(736, .aload_n 1, 1), (737, .aload_n 0, 1), (738, .iload 5, 2), (740, .iconst 1, 1), (741, .iadd, 1), (742, .iaload, 1), (743, .aload_n 0, 1), (744, .iload 5, 2), (746, .iconst 2, 1), (747, .iadd, 1), (748, .iaload, 1), (749, .aload_n 3, 1), (750, .invokestatic 173, 3), (753, .istore 6, 2), (755, .aload_n 2, 1), (756, .aload_n 0, 1), (757, .iload 5, 2), (759, .iconst 1, 1), (760, .iadd, 1), (761, .iaload, 1), (762, .aload_n 0, 1), (763, .iload 5, 2), (765, .iconst 2, 1), (766, .iadd, 1), (767, .iaload, 1), (768, .invokevirtual 175, 3), (771, .istore 7, 2), (773, .aload_n 2, 1), (774, .invokevirtual 147, 3), (777, .iload 6, 2), (779, .if_icmp .eq 5, 3), (784, .iload 6, 2), (786, .ifCond .ne 15, 3), (801, .goto 1675, 3), (789, .aload_n 3, 1), (790, .iconst 0, 1), (791, .laload, 1), (792, .iload 7, 2), (794, .i2l, 1), (795, .lcmp, 1), (796, .ifCond .eq 5, 3), (799, .iconst 0, 1), (800, .ireturn, 1), (782, .iconst 0, 1), (783, .ireturn, 1)]
theorem dt_lc_8 : tblOK code t_lc_8 = true := by decide +kernel
def p_lc_8 (xs : Nat → Int32) (L : Nat) (i : Int32) (σ : Sg) : Option Sg := if ib (i + 1) L then (if ib (i + 2) L then ((p_L_steps (xs (i + 1).toNatClampNeg) (xs (i + 2).toNatClampNeg) σ).bind fun r3 => if ib (i + 1) L then (if ib (i + 2) L then ((p_X7_steps (xs (i + 1).toNatClampNeg) (xs (i + 2).toNatClampNeg) r3.2).bind fun r6 => (p_X7_thrown  r6.2).bind fun r7 => if r7 = r3.1 then (if r3.1 = 0 then (if (lg_cmp (gL r6.2) r6.1.toInt64) = 0 then (some r6.2) else (none)) else (some r6.2)) else (none)) else none) else none) else none) else none
set_option maxRecDepth 20000 in
set_option maxHeartbeats 1000000 in
theorem s_lc_8 {l : Launch} {D : va_G} {ty : Nat → ClassId} {ρ : Nat → Nat → Nat} {N0 : Nat} (S : St l ty ρ N0) {xs : Nat → Int32} {L b : Nat} (i : Int32) (σ σ9 : Sg) (h : p_lc_8 xs L i σ = some σ9) {p : Program} {e : Env} {s : State} {m : MethodId} {args : Array Value} {below : List Frame} {meth : Method} {c : Code} {Q : State → Prop} (K : Cx p l s m args meth c code 9 RL ret D ty ρ N0) (hX : va_X b L xs s s.heap) (hbl : b < s.heap.size) (hbA : ¬ N0 ≤ b) {cs ss : Nat} (hcs : cs + 20 ≤ 603072) (hss : ss + 120 ≤ 7207018) (hk : ∀ c9 s9, c9 ≤ cs + 20 → s9 ≤ ss + 120 → WA p l e room_1 s m args below meth c D ty ρ N0 9 Q 2476 [some (.ref b), some (.ref (ρ 0 0)), some (.ref (ρ 20 0)), some (.ref (ρ 30 0)), some (.ref (ρ 31 0)), some (.int i), none, none, none] [] σ9 c9 s9) : WA p l e room_1 s m args below meth c D ty ρ N0 9 Q 736 [some (.ref b), some (.ref (ρ 0 0)), some (.ref (ρ 20 0)), some (.ref (ρ 30 0)), some (.ref (ρ 31 0)), some (.int i), none, none, none] [] σ cs ss := by
  have dq := @tat _ _ dt_lc_8
  unfold p_lc_8 at h
  refine a_aload_n K (dq 0 rfl) rfl rfl ?_
  refine a_aload_n K (dq 1 rfl) rfl rfl ?_
  refine a_iload K (dq 2 rfl) rfl ?_
  refine a_iconst K (dq 3 rfl) (v := 1) rfl ?_
  refine a_iadd K (dq 4 rfl) ?_
  obtain ⟨c1, h⟩ := ib_some h
  refine a_sld K hX hbl hbA c1 (dq 5 rfl) ?_
  refine a_aload_n K (dq 6 rfl) rfl rfl ?_
  refine a_iload K (dq 7 rfl) rfl ?_
  refine a_iconst K (dq 8 rfl) (v := 2) rfl ?_
  refine a_iadd K (dq 9 rfl) ?_
  obtain ⟨c2, h⟩ := ib_some h
  refine a_sld K hX hbl hbA c2 (dq 10 rfl) ?_
  refine a_aload_n K (dq 11 rfl) rfl rfl ?_
  obtain ⟨r3, h3, h⟩ := bnd h
  refine a_callH K (s_L_steps S (xs (i + 1).toNatClampNeg) (xs (i + 2).toNatClampNeg) σ r3 h3) cw_L_steps mh_L_173 (by decide) rfl (rest := []) rfl (Nat.le_of_ble_eq_true rfl) (dq 12 rfl) (by constructor <;> (simp only [rmk, room_1]; omega)) ?_
  refine a_istore K (dq 13 rfl) (Nat.le_of_ble_eq_true rfl) (ls' := [some (.ref b), some (.ref (ρ 0 0)), some (.ref (ρ 20 0)), some (.ref (ρ 30 0)), some (.ref (ρ 31 0)), some (.int i), some (.int r3.1), none, none]) rfl ?_
  refine a_aload_n K (dq 14 rfl) rfl rfl ?_
  refine a_aload_n K (dq 15 rfl) rfl rfl ?_
  refine a_iload K (dq 16 rfl) rfl ?_
  refine a_iconst K (dq 17 rfl) (v := 1) rfl ?_
  refine a_iadd K (dq 18 rfl) ?_
  obtain ⟨c4, h⟩ := ib_some h
  refine a_sld K hX hbl hbA c4 (dq 19 rfl) ?_
  refine a_aload_n K (dq 20 rfl) rfl rfl ?_
  refine a_iload K (dq 21 rfl) rfl ?_
  refine a_iconst K (dq 22 rfl) (v := 2) rfl ?_
  refine a_iadd K (dq 23 rfl) ?_
  obtain ⟨c5, h⟩ := ib_some h
  refine a_sld K hX hbl hbA c5 (dq 24 rfl) ?_
  obtain ⟨r6, h6, h⟩ := bnd h
  refine a_callVi K (s_X7_steps S (xs (i + 1).toNatClampNeg) (xs (i + 2).toNatClampNeg) r3.2 r6 h6) v_20 rfl rfl cw_X7_steps ml_L_175 (by decide) rfl (rest := []) rfl (Nat.le_of_ble_eq_true rfl) (dq 25 rfl) (by constructor <;> (simp only [rmk, room_1]; omega)) ?_
  refine a_istore K (dq 26 rfl) (Nat.le_of_ble_eq_true rfl) (ls' := [some (.ref b), some (.ref (ρ 0 0)), some (.ref (ρ 20 0)), some (.ref (ρ 30 0)), some (.ref (ρ 31 0)), some (.int i), some (.int r3.1), some (.int r6.1), none]) rfl ?_
  refine a_aload_n K (dq 27 rfl) rfl rfl ?_
  obtain ⟨r7, h7, h⟩ := bnd h
  refine a_callVi K (s_X7_thrown S  r6.2 r7 h7) v_20 rfl rfl cw_X7_thrown ml_L_147 (by decide) rfl (rest := []) rfl (Nat.le_of_ble_eq_true rfl) (dq 28 rfl) (by constructor <;> (simp only [rmk, room_1]; omega)) ?_
  refine a_iload K (dq 29 rfl) rfl ?_
  refine a_icmp_eq K (tgt := 784) (dq 30 rfl) rfl (fun c8 => ?_) (fun c8 => ?_)
  · have h := ite_t c8 h
    refine a_iload K (dq 31 rfl) rfl ?_
    refine a_if_ne K (tgt := 801) (dq 32 rfl) rfl (fun c9 => ?_) (fun c9 => ?_)
    · have h := ite_f c9 h
      refine a_goto K (tgt := 2476) (dq 33 rfl) rfl ?_
      obtain rfl := Option.some.inj h
      refine a_le2 (ls' := [some (.ref b), some (.ref (ρ 0 0)), some (.ref (ρ 20 0)), some (.ref (ρ 30 0)), some (.ref (ρ 31 0)), some (.int i), none, none, none]) ⟨rfl, rfl, rfl, rfl, rfl, rfl, trivial⟩ ?_
      exact hk _ _ (by simp only [rmk]; omega) (by simp only [rmk]; omega)
    · have h := ite_t c9 h
      refine a_aload_n K (dq 34 rfl) rfl rfl ?_
      refine a_iconst K (dq 35 rfl) (v := 0) rfl ?_
      refine a_lald K (dq 36 rfl) ?_
      refine a_iload K (dq 37 rfl) rfl ?_
      refine a_i2l K (dq 38 rfl) ?_
      refine a_lcmp K (dq 39 rfl) ?_
      refine a_if_eq K (tgt := 801) (dq 40 rfl) rfl (fun c10 => ?_) (fun c10 => ?_)
      · have h := ite_t c10 h
        refine a_goto K (tgt := 2476) (dq 33 rfl) rfl ?_
        obtain rfl := Option.some.inj h
        refine a_le2 (ls' := [some (.ref b), some (.ref (ρ 0 0)), some (.ref (ρ 20 0)), some (.ref (ρ 30 0)), some (.ref (ρ 31 0)), some (.int i), none, none, none]) ⟨rfl, rfl, rfl, rfl, rfl, rfl, trivial⟩ ?_
        exact hk _ _ (by simp only [rmk]; omega) (by simp only [rmk]; omega)
      · have h := ite_f c10 h
        refine a_iconst K (dq 41 rfl) (v := 0) rfl ?_
        cases h
  · have h := ite_f c8 h
    refine a_iconst K (dq 43 rfl) (v := 0) rfl ?_
    cases h
def t_lc_9 : List (Nat × Instr × Nat) := [(804, .aload_n 1, 1), (805, .aload_n 0, 1), (806, .iload 5, 2), (808, .iconst 1, 1), (809, .iadd, 1), (810, .iaload, 1), (811, .aload_n 0, 1), (812, .iload 5, 2), (814, .iconst 2, 1), (815, .iadd, 1), (816, .iaload, 1), (817, .aload_n 3, 1), (818, .invokestatic 176, 3), (821, .istore 6, 2), (823, .aload_n 2, 1), (824, .aload_n 0, 1), (825, .iload 5, 2), (827, .iconst 1, 1), (828, .iadd, 1), (829, .iaload, 1), (830, .aload_n 0, 1), (831, .iload 5, 2), (833, .iconst 2, 1), (834, .iadd, 1), (835, .iaload, 1), (836, .invokevirtual 178, 3), (839, .istore 7, 2), (841, .aload_n 2, 1), (842, .invokevirtual 147, 3), (845, .iload 6, 2), (847, .if_icmp .eq 5, 3), (852, .iload 6, 2), (854, .ifCond .ne 15, 3), (869, .goto 1607, 3), (857, .aload_n 3, 1), (858, .iconst 0, 1), (859, .laload, 1), (860, .iload 7, 2), (862, .i2l, 1), (863, .lcmp, 1), (864, .ifCond .eq 5, 3), (867, .iconst 0, 1), (868, .ireturn, 1), (850, .iconst 0, 1), (851, .ireturn, 1)]
theorem dt_lc_9 : tblOK code t_lc_9 = true := by decide +kernel
def p_lc_9 (xs : Nat → Int32) (L : Nat) (i : Int32) (σ : Sg) : Option Sg := if ib (i + 1) L then (if ib (i + 2) L then ((p_L_next (xs (i + 1).toNatClampNeg) (xs (i + 2).toNatClampNeg) σ).bind fun r3 => if ib (i + 1) L then (if ib (i + 2) L then ((p_X7_next (xs (i + 1).toNatClampNeg) (xs (i + 2).toNatClampNeg) r3.2).bind fun r6 => (p_X7_thrown  r6.2).bind fun r7 => if r7 = r3.1 then (if r3.1 = 0 then (if (lg_cmp (gL r6.2) r6.1.toInt64) = 0 then (some r6.2) else (none)) else (some r6.2)) else (none)) else none) else none) else none) else none
set_option maxRecDepth 20000 in
set_option maxHeartbeats 1000000 in
theorem s_lc_9 {l : Launch} {D : va_G} {ty : Nat → ClassId} {ρ : Nat → Nat → Nat} {N0 : Nat} (S : St l ty ρ N0) {xs : Nat → Int32} {L b : Nat} (i : Int32) (σ σ9 : Sg) (h : p_lc_9 xs L i σ = some σ9) {p : Program} {e : Env} {s : State} {m : MethodId} {args : Array Value} {below : List Frame} {meth : Method} {c : Code} {Q : State → Prop} (K : Cx p l s m args meth c code 9 RL ret D ty ρ N0) (hX : va_X b L xs s s.heap) (hbl : b < s.heap.size) (hbA : ¬ N0 ≤ b) {cs ss : Nat} (hcs : cs + 20 ≤ 603072) (hss : ss + 120 ≤ 7207018) (hk : ∀ c9 s9, c9 ≤ cs + 20 → s9 ≤ ss + 120 → WA p l e room_1 s m args below meth c D ty ρ N0 9 Q 2476 [some (.ref b), some (.ref (ρ 0 0)), some (.ref (ρ 20 0)), some (.ref (ρ 30 0)), some (.ref (ρ 31 0)), some (.int i), none, none, none] [] σ9 c9 s9) : WA p l e room_1 s m args below meth c D ty ρ N0 9 Q 804 [some (.ref b), some (.ref (ρ 0 0)), some (.ref (ρ 20 0)), some (.ref (ρ 30 0)), some (.ref (ρ 31 0)), some (.int i), none, none, none] [] σ cs ss := by
  have dq := @tat _ _ dt_lc_9
  unfold p_lc_9 at h
  refine a_aload_n K (dq 0 rfl) rfl rfl ?_
  refine a_aload_n K (dq 1 rfl) rfl rfl ?_
  refine a_iload K (dq 2 rfl) rfl ?_
  refine a_iconst K (dq 3 rfl) (v := 1) rfl ?_
  refine a_iadd K (dq 4 rfl) ?_
  obtain ⟨c1, h⟩ := ib_some h
  refine a_sld K hX hbl hbA c1 (dq 5 rfl) ?_
  refine a_aload_n K (dq 6 rfl) rfl rfl ?_
  refine a_iload K (dq 7 rfl) rfl ?_
  refine a_iconst K (dq 8 rfl) (v := 2) rfl ?_
  refine a_iadd K (dq 9 rfl) ?_
  obtain ⟨c2, h⟩ := ib_some h
  refine a_sld K hX hbl hbA c2 (dq 10 rfl) ?_
  refine a_aload_n K (dq 11 rfl) rfl rfl ?_
  obtain ⟨r3, h3, h⟩ := bnd h
  refine a_callH K (s_L_next S (xs (i + 1).toNatClampNeg) (xs (i + 2).toNatClampNeg) σ r3 h3) cw_L_next mh_L_176 (by decide) rfl (rest := []) rfl (Nat.le_of_ble_eq_true rfl) (dq 12 rfl) (by constructor <;> (simp only [rmk, room_1]; omega)) ?_
  refine a_istore K (dq 13 rfl) (Nat.le_of_ble_eq_true rfl) (ls' := [some (.ref b), some (.ref (ρ 0 0)), some (.ref (ρ 20 0)), some (.ref (ρ 30 0)), some (.ref (ρ 31 0)), some (.int i), some (.int r3.1), none, none]) rfl ?_
  refine a_aload_n K (dq 14 rfl) rfl rfl ?_
  refine a_aload_n K (dq 15 rfl) rfl rfl ?_
  refine a_iload K (dq 16 rfl) rfl ?_
  refine a_iconst K (dq 17 rfl) (v := 1) rfl ?_
  refine a_iadd K (dq 18 rfl) ?_
  obtain ⟨c4, h⟩ := ib_some h
  refine a_sld K hX hbl hbA c4 (dq 19 rfl) ?_
  refine a_aload_n K (dq 20 rfl) rfl rfl ?_
  refine a_iload K (dq 21 rfl) rfl ?_
  refine a_iconst K (dq 22 rfl) (v := 2) rfl ?_
  refine a_iadd K (dq 23 rfl) ?_
  obtain ⟨c5, h⟩ := ib_some h
  refine a_sld K hX hbl hbA c5 (dq 24 rfl) ?_
  obtain ⟨r6, h6, h⟩ := bnd h
  refine a_callVi K (s_X7_next S (xs (i + 1).toNatClampNeg) (xs (i + 2).toNatClampNeg) r3.2 r6 h6) v_20 rfl rfl cw_X7_next ml_L_178 (by decide) rfl (rest := []) rfl (Nat.le_of_ble_eq_true rfl) (dq 25 rfl) (by constructor <;> (simp only [rmk, room_1]; omega)) ?_
  refine a_istore K (dq 26 rfl) (Nat.le_of_ble_eq_true rfl) (ls' := [some (.ref b), some (.ref (ρ 0 0)), some (.ref (ρ 20 0)), some (.ref (ρ 30 0)), some (.ref (ρ 31 0)), some (.int i), some (.int r3.1), some (.int r6.1), none]) rfl ?_
  refine a_aload_n K (dq 27 rfl) rfl rfl ?_
  obtain ⟨r7, h7, h⟩ := bnd h
  refine a_callVi K (s_X7_thrown S  r6.2 r7 h7) v_20 rfl rfl cw_X7_thrown ml_L_147 (by decide) rfl (rest := []) rfl (Nat.le_of_ble_eq_true rfl) (dq 28 rfl) (by constructor <;> (simp only [rmk, room_1]; omega)) ?_
  refine a_iload K (dq 29 rfl) rfl ?_
  refine a_icmp_eq K (tgt := 852) (dq 30 rfl) rfl (fun c8 => ?_) (fun c8 => ?_)
  · have h := ite_t c8 h
    refine a_iload K (dq 31 rfl) rfl ?_
    refine a_if_ne K (tgt := 869) (dq 32 rfl) rfl (fun c9 => ?_) (fun c9 => ?_)
    · have h := ite_f c9 h
      refine a_goto K (tgt := 2476) (dq 33 rfl) rfl ?_
      obtain rfl := Option.some.inj h
      refine a_le2 (ls' := [some (.ref b), some (.ref (ρ 0 0)), some (.ref (ρ 20 0)), some (.ref (ρ 30 0)), some (.ref (ρ 31 0)), some (.int i), none, none, none]) ⟨rfl, rfl, rfl, rfl, rfl, rfl, trivial⟩ ?_
      exact hk _ _ (by simp only [rmk]; omega) (by simp only [rmk]; omega)
    · have h := ite_t c9 h
      refine a_aload_n K (dq 34 rfl) rfl rfl ?_
      refine a_iconst K (dq 35 rfl) (v := 0) rfl ?_
      refine a_lald K (dq 36 rfl) ?_
      refine a_iload K (dq 37 rfl) rfl ?_
      refine a_i2l K (dq 38 rfl) ?_
      refine a_lcmp K (dq 39 rfl) ?_
      refine a_if_eq K (tgt := 869) (dq 40 rfl) rfl (fun c10 => ?_) (fun c10 => ?_)
      · have h := ite_t c10 h
        refine a_goto K (tgt := 2476) (dq 33 rfl) rfl ?_
        obtain rfl := Option.some.inj h
        refine a_le2 (ls' := [some (.ref b), some (.ref (ρ 0 0)), some (.ref (ρ 20 0)), some (.ref (ρ 30 0)), some (.ref (ρ 31 0)), some (.int i), none, none, none]) ⟨rfl, rfl, rfl, rfl, rfl, rfl, trivial⟩ ?_
        exact hk _ _ (by simp only [rmk]; omega) (by simp only [rmk]; omega)
      · have h := ite_f c10 h
        refine a_iconst K (dq 41 rfl) (v := 0) rfl ?_
        cases h
  · have h := ite_f c8 h
    refine a_iconst K (dq 43 rfl) (v := 0) rfl ?_
    cases h
def t_lc_10 : List (Nat × Instr × Nat) := [(872, .aload_n 1, 1), (873, .aload_n 0, 1), (874, .iload 5, 2), (876, .iconst 1, 1), (877, .iadd, 1), (878, .iaload, 1), (879, .aload_n 0, 1), (880, .iload 5, 2), (882, .iconst 2, 1), (883, .iadd, 1), (884, .iaload, 1), (885, .aload_n 0, 1), (886, .iload 5, 2), (888, .iconst 3, 1), (889, .iadd, 1), (890, .iaload, 1), (891, .aload_n 3, 1), (892, .invokestatic 179, 3), (895, .istore 6, 2), (897, .aload_n 2, 1), (898, .aload_n 0, 1), (899, .iload 5, 2), (901, .iconst 1, 1), (902, .iadd, 1), (903, .iaload, 1), (904, .aload_n 0, 1), (905, .iload 5, 2), (907, .iconst 2, 1), (908, .iadd, 1), (909, .iaload, 1), (910, .aload_n 0, 1), (911, .iload 5, 2), (913, .iconst 3, 1), (914, .iadd, 1), (915, .iaload, 1), (916, .invokevirtual 181, 3), (919, .istore 7, 2), (921, .aload_n 2, 1), (922, .invokevirtual 147, 3), (925, .iload 6, 2), (927, .if_icmp .eq 5, 3), (932, .iload 6, 2), (934, .ifCond .ne 15, 3), (949, .goto 1527, 3), (937, .aload_n 3, 1), (938, .iconst 0, 1), (939, .laload, 1), (940, .iload 7, 2), (942, .i2l, 1), (943, .lcmp, 1), (944, .ifCond .eq 5, 3), (947, .iconst 0, 1), (948, .ireturn, 1), (930, .iconst 0, 1), (931, .ireturn, 1)]
theorem dt_lc_10 : tblOK code t_lc_10 = true := by decide +kernel
def p_lc_10 (xs : Nat → Int32) (L : Nat) (i : Int32) (σ : Sg) : Option Sg := if ib (i + 1) L then (if ib (i + 2) L then (if ib (i + 3) L then ((p_L_onWay (xs (i + 1).toNatClampNeg) (xs (i + 2).toNatClampNeg) (xs (i + 3).toNatClampNeg) σ).bind fun r4 => if ib (i + 1) L then (if ib (i + 2) L then (if ib (i + 3) L then ((p_X7_onWay (xs (i + 1).toNatClampNeg) (xs (i + 2).toNatClampNeg) (xs (i + 3).toNatClampNeg) r4.2).bind fun r8 => (p_X7_thrown  r8.2).bind fun r9 => if r9 = r4.1 then (if r4.1 = 0 then (if (lg_cmp (gL r8.2) r8.1.toInt64) = 0 then (some r8.2) else (none)) else (some r8.2)) else (none)) else none) else none) else none) else none) else none) else none
set_option maxRecDepth 20000 in
set_option maxHeartbeats 1000000 in
theorem s_lc_10 {l : Launch} {D : va_G} {ty : Nat → ClassId} {ρ : Nat → Nat → Nat} {N0 : Nat} (S : St l ty ρ N0) {xs : Nat → Int32} {L b : Nat} (i : Int32) (σ σ9 : Sg) (h : p_lc_10 xs L i σ = some σ9) {p : Program} {e : Env} {s : State} {m : MethodId} {args : Array Value} {below : List Frame} {meth : Method} {c : Code} {Q : State → Prop} (K : Cx p l s m args meth c code 9 RL ret D ty ρ N0) (hX : va_X b L xs s s.heap) (hbl : b < s.heap.size) (hbA : ¬ N0 ≤ b) {cs ss : Nat} (hcs : cs + 20 ≤ 603072) (hss : ss + 120 ≤ 7207018) (hk : ∀ c9 s9, c9 ≤ cs + 20 → s9 ≤ ss + 120 → WA p l e room_1 s m args below meth c D ty ρ N0 9 Q 2476 [some (.ref b), some (.ref (ρ 0 0)), some (.ref (ρ 20 0)), some (.ref (ρ 30 0)), some (.ref (ρ 31 0)), some (.int i), none, none, none] [] σ9 c9 s9) : WA p l e room_1 s m args below meth c D ty ρ N0 9 Q 872 [some (.ref b), some (.ref (ρ 0 0)), some (.ref (ρ 20 0)), some (.ref (ρ 30 0)), some (.ref (ρ 31 0)), some (.int i), none, none, none] [] σ cs ss := by
  have dq := @tat _ _ dt_lc_10
  unfold p_lc_10 at h
  refine a_aload_n K (dq 0 rfl) rfl rfl ?_
  refine a_aload_n K (dq 1 rfl) rfl rfl ?_
  refine a_iload K (dq 2 rfl) rfl ?_
  refine a_iconst K (dq 3 rfl) (v := 1) rfl ?_
  refine a_iadd K (dq 4 rfl) ?_
  obtain ⟨c1, h⟩ := ib_some h
  refine a_sld K hX hbl hbA c1 (dq 5 rfl) ?_
  refine a_aload_n K (dq 6 rfl) rfl rfl ?_
  refine a_iload K (dq 7 rfl) rfl ?_
  refine a_iconst K (dq 8 rfl) (v := 2) rfl ?_
  refine a_iadd K (dq 9 rfl) ?_
  obtain ⟨c2, h⟩ := ib_some h
  refine a_sld K hX hbl hbA c2 (dq 10 rfl) ?_
  refine a_aload_n K (dq 11 rfl) rfl rfl ?_
  refine a_iload K (dq 12 rfl) rfl ?_
  refine a_iconst K (dq 13 rfl) (v := 3) rfl ?_
  refine a_iadd K (dq 14 rfl) ?_
  obtain ⟨c3, h⟩ := ib_some h
  refine a_sld K hX hbl hbA c3 (dq 15 rfl) ?_
  refine a_aload_n K (dq 16 rfl) rfl rfl ?_
  obtain ⟨r4, h4, h⟩ := bnd h
  refine a_callH K (s_L_onWay S (xs (i + 1).toNatClampNeg) (xs (i + 2).toNatClampNeg) (xs (i + 3).toNatClampNeg) σ r4 h4) cw_L_onWay mh_L_179 (by decide) rfl (rest := []) rfl (Nat.le_of_ble_eq_true rfl) (dq 17 rfl) (by constructor <;> (simp only [rmk, room_1]; omega)) ?_
  refine a_istore K (dq 18 rfl) (Nat.le_of_ble_eq_true rfl) (ls' := [some (.ref b), some (.ref (ρ 0 0)), some (.ref (ρ 20 0)), some (.ref (ρ 30 0)), some (.ref (ρ 31 0)), some (.int i), some (.int r4.1), none, none]) rfl ?_
  refine a_aload_n K (dq 19 rfl) rfl rfl ?_
  refine a_aload_n K (dq 20 rfl) rfl rfl ?_
  refine a_iload K (dq 21 rfl) rfl ?_
  refine a_iconst K (dq 22 rfl) (v := 1) rfl ?_
  refine a_iadd K (dq 23 rfl) ?_
  obtain ⟨c5, h⟩ := ib_some h
  refine a_sld K hX hbl hbA c5 (dq 24 rfl) ?_
  refine a_aload_n K (dq 25 rfl) rfl rfl ?_
  refine a_iload K (dq 26 rfl) rfl ?_
  refine a_iconst K (dq 27 rfl) (v := 2) rfl ?_
  refine a_iadd K (dq 28 rfl) ?_
  obtain ⟨c6, h⟩ := ib_some h
  refine a_sld K hX hbl hbA c6 (dq 29 rfl) ?_
  refine a_aload_n K (dq 30 rfl) rfl rfl ?_
  refine a_iload K (dq 31 rfl) rfl ?_
  refine a_iconst K (dq 32 rfl) (v := 3) rfl ?_
  refine a_iadd K (dq 33 rfl) ?_
  obtain ⟨c7, h⟩ := ib_some h
  refine a_sld K hX hbl hbA c7 (dq 34 rfl) ?_
  obtain ⟨r8, h8, h⟩ := bnd h
  refine a_callVi K (s_X7_onWay S (xs (i + 1).toNatClampNeg) (xs (i + 2).toNatClampNeg) (xs (i + 3).toNatClampNeg) r4.2 r8 h8) v_20 rfl rfl cw_X7_onWay ml_L_181 (by decide) rfl (rest := []) rfl (Nat.le_of_ble_eq_true rfl) (dq 35 rfl) (by constructor <;> (simp only [rmk, room_1]; omega)) ?_
  refine a_istore K (dq 36 rfl) (Nat.le_of_ble_eq_true rfl) (ls' := [some (.ref b), some (.ref (ρ 0 0)), some (.ref (ρ 20 0)), some (.ref (ρ 30 0)), some (.ref (ρ 31 0)), some (.int i), some (.int r4.1), some (.int r8.1), none]) rfl ?_
  refine a_aload_n K (dq 37 rfl) rfl rfl ?_
  obtain ⟨r9, h9, h⟩ := bnd h
  refine a_callVi K (s_X7_thrown S  r8.2 r9 h9) v_20 rfl rfl cw_X7_thrown ml_L_147 (by decide) rfl (rest := []) rfl (Nat.le_of_ble_eq_true rfl) (dq 38 rfl) (by constructor <;> (simp only [rmk, room_1]; omega)) ?_
  refine a_iload K (dq 39 rfl) rfl ?_
  refine a_icmp_eq K (tgt := 932) (dq 40 rfl) rfl (fun c10 => ?_) (fun c10 => ?_)
  · have h := ite_t c10 h
    refine a_iload K (dq 41 rfl) rfl ?_
    refine a_if_ne K (tgt := 949) (dq 42 rfl) rfl (fun c11 => ?_) (fun c11 => ?_)
    · have h := ite_f c11 h
      refine a_goto K (tgt := 2476) (dq 43 rfl) rfl ?_
      obtain rfl := Option.some.inj h
      refine a_le2 (ls' := [some (.ref b), some (.ref (ρ 0 0)), some (.ref (ρ 20 0)), some (.ref (ρ 30 0)), some (.ref (ρ 31 0)), some (.int i), none, none, none]) ⟨rfl, rfl, rfl, rfl, rfl, rfl, trivial⟩ ?_
      exact hk _ _ (by simp only [rmk]; omega) (by simp only [rmk]; omega)
    · have h := ite_t c11 h
      refine a_aload_n K (dq 44 rfl) rfl rfl ?_
      refine a_iconst K (dq 45 rfl) (v := 0) rfl ?_
      refine a_lald K (dq 46 rfl) ?_
      refine a_iload K (dq 47 rfl) rfl ?_
      refine a_i2l K (dq 48 rfl) ?_
      refine a_lcmp K (dq 49 rfl) ?_
      refine a_if_eq K (tgt := 949) (dq 50 rfl) rfl (fun c12 => ?_) (fun c12 => ?_)
      · have h := ite_t c12 h
        refine a_goto K (tgt := 2476) (dq 43 rfl) rfl ?_
        obtain rfl := Option.some.inj h
        refine a_le2 (ls' := [some (.ref b), some (.ref (ρ 0 0)), some (.ref (ρ 20 0)), some (.ref (ρ 30 0)), some (.ref (ρ 31 0)), some (.int i), none, none, none]) ⟨rfl, rfl, rfl, rfl, rfl, rfl, trivial⟩ ?_
        exact hk _ _ (by simp only [rmk]; omega) (by simp only [rmk]; omega)
      · have h := ite_f c12 h
        refine a_iconst K (dq 51 rfl) (v := 0) rfl ?_
        cases h
  · have h := ite_f c10 h
    refine a_iconst K (dq 53 rfl) (v := 0) rfl ?_
    cases h
def t_lc_11 : List (Nat × Instr × Nat) := [(952, .aload_n 1, 1), (953, .aload_n 0, 1), (954, .iload 5, 2), (956, .iconst 1, 1), (957, .iadd, 1), (958, .iaload, 1), (959, .aload_n 0, 1), (960, .iload 5, 2), (962, .iconst 2, 1), (963, .iadd, 1), (964, .iaload, 1), (965, .aload_n 3, 1), (966, .invokestatic 182, 3), (969, .istore 6, 2), (971, .aload_n 2, 1), (972, .aload_n 0, 1), (973, .iload 5, 2), (975, .iconst 1, 1), (976, .iadd, 1), (977, .iaload, 1), (978, .aload_n 0, 1), (979, .iload 5, 2), (981, .iconst 2, 1), (982, .iadd, 1), (983, .iaload, 1), (984, .invokevirtual 184, 3), (987, .istore 7, 2), (989, .aload_n 2, 1), (990, .invokevirtual 147, 3), (993, .iload 6, 2), (995, .if_icmp .eq 5, 3), (1000, .iload 6, 2), (1002, .ifCond .ne 15, 3), (1017, .goto 1459, 3), (1005, .aload_n 3, 1), (1006, .iconst 0, 1), (1007, .laload, 1), (1008, .iload 7, 2), (1010, .i2l, 1), (1011, .lcmp, 1), (1012, .ifCond .eq 5, 3), (1015, .iconst 0, 1), (1016, .ireturn, 1), (998, .iconst 0, 1), (999, .ireturn, 1)]
theorem dt_lc_11 : tblOK code t_lc_11 = true := by decide +kernel
def p_lc_11 (xs : Nat → Int32) (L : Nat) (i : Int32) (σ : Sg) : Option Sg := if ib (i + 1) L then (if ib (i + 2) L then ((p_L_meet (xs (i + 1).toNatClampNeg) (xs (i + 2).toNatClampNeg) σ).bind fun r3 => if ib (i + 1) L then (if ib (i + 2) L then ((p_X7_meet (xs (i + 1).toNatClampNeg) (xs (i + 2).toNatClampNeg) r3.2).bind fun r6 => (p_X7_thrown  r6.2).bind fun r7 => if r7 = r3.1 then (if r3.1 = 0 then (if (lg_cmp (gL r6.2) r6.1.toInt64) = 0 then (some r6.2) else (none)) else (some r6.2)) else (none)) else none) else none) else none) else none
set_option maxRecDepth 20000 in
set_option maxHeartbeats 1000000 in
theorem s_lc_11 {l : Launch} {D : va_G} {ty : Nat → ClassId} {ρ : Nat → Nat → Nat} {N0 : Nat} (S : St l ty ρ N0) {xs : Nat → Int32} {L b : Nat} (i : Int32) (σ σ9 : Sg) (h : p_lc_11 xs L i σ = some σ9) {p : Program} {e : Env} {s : State} {m : MethodId} {args : Array Value} {below : List Frame} {meth : Method} {c : Code} {Q : State → Prop} (K : Cx p l s m args meth c code 9 RL ret D ty ρ N0) (hX : va_X b L xs s s.heap) (hbl : b < s.heap.size) (hbA : ¬ N0 ≤ b) {cs ss : Nat} (hcs : cs + 20 ≤ 603072) (hss : ss + 120 ≤ 7207018) (hk : ∀ c9 s9, c9 ≤ cs + 20 → s9 ≤ ss + 120 → WA p l e room_1 s m args below meth c D ty ρ N0 9 Q 2476 [some (.ref b), some (.ref (ρ 0 0)), some (.ref (ρ 20 0)), some (.ref (ρ 30 0)), some (.ref (ρ 31 0)), some (.int i), none, none, none] [] σ9 c9 s9) : WA p l e room_1 s m args below meth c D ty ρ N0 9 Q 952 [some (.ref b), some (.ref (ρ 0 0)), some (.ref (ρ 20 0)), some (.ref (ρ 30 0)), some (.ref (ρ 31 0)), some (.int i), none, none, none] [] σ cs ss := by
  have dq := @tat _ _ dt_lc_11
  unfold p_lc_11 at h
  refine a_aload_n K (dq 0 rfl) rfl rfl ?_
  refine a_aload_n K (dq 1 rfl) rfl rfl ?_
  refine a_iload K (dq 2 rfl) rfl ?_
  refine a_iconst K (dq 3 rfl) (v := 1) rfl ?_
  refine a_iadd K (dq 4 rfl) ?_
  obtain ⟨c1, h⟩ := ib_some h
  refine a_sld K hX hbl hbA c1 (dq 5 rfl) ?_
  refine a_aload_n K (dq 6 rfl) rfl rfl ?_
  refine a_iload K (dq 7 rfl) rfl ?_
  refine a_iconst K (dq 8 rfl) (v := 2) rfl ?_
  refine a_iadd K (dq 9 rfl) ?_
  obtain ⟨c2, h⟩ := ib_some h
  refine a_sld K hX hbl hbA c2 (dq 10 rfl) ?_
  refine a_aload_n K (dq 11 rfl) rfl rfl ?_
  obtain ⟨r3, h3, h⟩ := bnd h
  refine a_callH K (s_L_meet S (xs (i + 1).toNatClampNeg) (xs (i + 2).toNatClampNeg) σ r3 h3) cw_L_meet mh_L_182 (by decide) rfl (rest := []) rfl (Nat.le_of_ble_eq_true rfl) (dq 12 rfl) (by constructor <;> (simp only [rmk, room_1]; omega)) ?_
  refine a_istore K (dq 13 rfl) (Nat.le_of_ble_eq_true rfl) (ls' := [some (.ref b), some (.ref (ρ 0 0)), some (.ref (ρ 20 0)), some (.ref (ρ 30 0)), some (.ref (ρ 31 0)), some (.int i), some (.int r3.1), none, none]) rfl ?_
  refine a_aload_n K (dq 14 rfl) rfl rfl ?_
  refine a_aload_n K (dq 15 rfl) rfl rfl ?_
  refine a_iload K (dq 16 rfl) rfl ?_
  refine a_iconst K (dq 17 rfl) (v := 1) rfl ?_
  refine a_iadd K (dq 18 rfl) ?_
  obtain ⟨c4, h⟩ := ib_some h
  refine a_sld K hX hbl hbA c4 (dq 19 rfl) ?_
  refine a_aload_n K (dq 20 rfl) rfl rfl ?_
  refine a_iload K (dq 21 rfl) rfl ?_
  refine a_iconst K (dq 22 rfl) (v := 2) rfl ?_
  refine a_iadd K (dq 23 rfl) ?_
  obtain ⟨c5, h⟩ := ib_some h
  refine a_sld K hX hbl hbA c5 (dq 24 rfl) ?_
  obtain ⟨r6, h6, h⟩ := bnd h
  refine a_callVi K (s_X7_meet S (xs (i + 1).toNatClampNeg) (xs (i + 2).toNatClampNeg) r3.2 r6 h6) v_20 rfl rfl cw_X7_meet ml_L_184 (by decide) rfl (rest := []) rfl (Nat.le_of_ble_eq_true rfl) (dq 25 rfl) (by constructor <;> (simp only [rmk, room_1]; omega)) ?_
  refine a_istore K (dq 26 rfl) (Nat.le_of_ble_eq_true rfl) (ls' := [some (.ref b), some (.ref (ρ 0 0)), some (.ref (ρ 20 0)), some (.ref (ρ 30 0)), some (.ref (ρ 31 0)), some (.int i), some (.int r3.1), some (.int r6.1), none]) rfl ?_
  refine a_aload_n K (dq 27 rfl) rfl rfl ?_
  obtain ⟨r7, h7, h⟩ := bnd h
  refine a_callVi K (s_X7_thrown S  r6.2 r7 h7) v_20 rfl rfl cw_X7_thrown ml_L_147 (by decide) rfl (rest := []) rfl (Nat.le_of_ble_eq_true rfl) (dq 28 rfl) (by constructor <;> (simp only [rmk, room_1]; omega)) ?_
  refine a_iload K (dq 29 rfl) rfl ?_
  refine a_icmp_eq K (tgt := 1000) (dq 30 rfl) rfl (fun c8 => ?_) (fun c8 => ?_)
  · have h := ite_t c8 h
    refine a_iload K (dq 31 rfl) rfl ?_
    refine a_if_ne K (tgt := 1017) (dq 32 rfl) rfl (fun c9 => ?_) (fun c9 => ?_)
    · have h := ite_f c9 h
      refine a_goto K (tgt := 2476) (dq 33 rfl) rfl ?_
      obtain rfl := Option.some.inj h
      refine a_le2 (ls' := [some (.ref b), some (.ref (ρ 0 0)), some (.ref (ρ 20 0)), some (.ref (ρ 30 0)), some (.ref (ρ 31 0)), some (.int i), none, none, none]) ⟨rfl, rfl, rfl, rfl, rfl, rfl, trivial⟩ ?_
      exact hk _ _ (by simp only [rmk]; omega) (by simp only [rmk]; omega)
    · have h := ite_t c9 h
      refine a_aload_n K (dq 34 rfl) rfl rfl ?_
      refine a_iconst K (dq 35 rfl) (v := 0) rfl ?_
      refine a_lald K (dq 36 rfl) ?_
      refine a_iload K (dq 37 rfl) rfl ?_
      refine a_i2l K (dq 38 rfl) ?_
      refine a_lcmp K (dq 39 rfl) ?_
      refine a_if_eq K (tgt := 1017) (dq 40 rfl) rfl (fun c10 => ?_) (fun c10 => ?_)
      · have h := ite_t c10 h
        refine a_goto K (tgt := 2476) (dq 33 rfl) rfl ?_
        obtain rfl := Option.some.inj h
        refine a_le2 (ls' := [some (.ref b), some (.ref (ρ 0 0)), some (.ref (ρ 20 0)), some (.ref (ρ 30 0)), some (.ref (ρ 31 0)), some (.int i), none, none, none]) ⟨rfl, rfl, rfl, rfl, rfl, rfl, trivial⟩ ?_
        exact hk _ _ (by simp only [rmk]; omega) (by simp only [rmk]; omega)
      · have h := ite_f c10 h
        refine a_iconst K (dq 41 rfl) (v := 0) rfl ?_
        cases h
  · have h := ite_f c8 h
    refine a_iconst K (dq 43 rfl) (v := 0) rfl ?_
    cases h
def t_lc_12 : List (Nat × Instr × Nat) := [(1020, .aload_n 1, 1), (1021, .aload_n 0, 1), (1022, .iload 5, 2), (1024, .iconst 1, 1), (1025, .iadd, 1), (1026, .iaload, 1), (1027, .aload_n 0, 1), (1028, .iload 5, 2), (1030, .iconst 2, 1), (1031, .iadd, 1), (1032, .iaload, 1), (1033, .aload_n 3, 1), (1034, .invokestatic 185, 3), (1037, .istore 6, 2), (1039, .aload_n 2, 1), (1040, .aload_n 0, 1), (1041, .iload 5, 2), (1043, .iconst 1, 1), (1044, .iadd, 1), (1045, .iaload, 1), (1046, .aload_n 0, 1), (1047, .iload 5, 2), (1049, .iconst 2, 1), (1050, .iadd, 1), (1051, .iaload, 1), (1052, .invokevirtual 187, 3), (1055, .istore 7, 2), (1057, .aload_n 2, 1), (1058, .invokevirtual 147, 3), (1061, .iload 6, 2), (1063, .if_icmp .eq 5, 3), (1068, .iload 6, 2), (1070, .ifCond .ne 15, 3), (1085, .goto 1391, 3), (1073, .aload_n 3, 1), (1074, .iconst 0, 1), (1075, .laload, 1), (1076, .iload 7, 2), (1078, .i2l, 1), (1079, .lcmp, 1), (1080, .ifCond .eq 5, 3), (1083, .iconst 0, 1), (1084, .ireturn, 1), (1066, .iconst 0, 1), (1067, .ireturn, 1)]
theorem dt_lc_12 : tblOK code t_lc_12 = true := by decide +kernel
def p_lc_12 (xs : Nat → Int32) (L : Nat) (i : Int32) (σ : Sg) : Option Sg := if ib (i + 1) L then (if ib (i + 2) L then ((p_L_sum (xs (i + 1).toNatClampNeg) (xs (i + 2).toNatClampNeg) σ).bind fun r3 => if ib (i + 1) L then (if ib (i + 2) L then ((p_X7_sum (xs (i + 1).toNatClampNeg) (xs (i + 2).toNatClampNeg) r3.2).bind fun r6 => (p_X7_thrown  r6.2).bind fun r7 => if r7 = r3.1 then (if r3.1 = 0 then (if (lg_cmp (gL r6.2) r6.1.toInt64) = 0 then (some r6.2) else (none)) else (some r6.2)) else (none)) else none) else none) else none) else none
set_option maxRecDepth 20000 in
set_option maxHeartbeats 1000000 in
theorem s_lc_12 {l : Launch} {D : va_G} {ty : Nat → ClassId} {ρ : Nat → Nat → Nat} {N0 : Nat} (S : St l ty ρ N0) {xs : Nat → Int32} {L b : Nat} (i : Int32) (σ σ9 : Sg) (h : p_lc_12 xs L i σ = some σ9) {p : Program} {e : Env} {s : State} {m : MethodId} {args : Array Value} {below : List Frame} {meth : Method} {c : Code} {Q : State → Prop} (K : Cx p l s m args meth c code 9 RL ret D ty ρ N0) (hX : va_X b L xs s s.heap) (hbl : b < s.heap.size) (hbA : ¬ N0 ≤ b) {cs ss : Nat} (hcs : cs + 20 ≤ 603072) (hss : ss + 120 ≤ 7207018) (hk : ∀ c9 s9, c9 ≤ cs + 20 → s9 ≤ ss + 120 → WA p l e room_1 s m args below meth c D ty ρ N0 9 Q 2476 [some (.ref b), some (.ref (ρ 0 0)), some (.ref (ρ 20 0)), some (.ref (ρ 30 0)), some (.ref (ρ 31 0)), some (.int i), none, none, none] [] σ9 c9 s9) : WA p l e room_1 s m args below meth c D ty ρ N0 9 Q 1020 [some (.ref b), some (.ref (ρ 0 0)), some (.ref (ρ 20 0)), some (.ref (ρ 30 0)), some (.ref (ρ 31 0)), some (.int i), none, none, none] [] σ cs ss := by
  have dq := @tat _ _ dt_lc_12
  unfold p_lc_12 at h
  refine a_aload_n K (dq 0 rfl) rfl rfl ?_
  refine a_aload_n K (dq 1 rfl) rfl rfl ?_
  refine a_iload K (dq 2 rfl) rfl ?_
  refine a_iconst K (dq 3 rfl) (v := 1) rfl ?_
  refine a_iadd K (dq 4 rfl) ?_
  obtain ⟨c1, h⟩ := ib_some h
  refine a_sld K hX hbl hbA c1 (dq 5 rfl) ?_
  refine a_aload_n K (dq 6 rfl) rfl rfl ?_
  refine a_iload K (dq 7 rfl) rfl ?_
  refine a_iconst K (dq 8 rfl) (v := 2) rfl ?_
  refine a_iadd K (dq 9 rfl) ?_
  obtain ⟨c2, h⟩ := ib_some h
  refine a_sld K hX hbl hbA c2 (dq 10 rfl) ?_
  refine a_aload_n K (dq 11 rfl) rfl rfl ?_
  obtain ⟨r3, h3, h⟩ := bnd h
  refine a_callH K (s_L_sum S (xs (i + 1).toNatClampNeg) (xs (i + 2).toNatClampNeg) σ r3 h3) cw_L_sum mh_L_185 (by decide) rfl (rest := []) rfl (Nat.le_of_ble_eq_true rfl) (dq 12 rfl) (by constructor <;> (simp only [rmk, room_1]; omega)) ?_
  refine a_istore K (dq 13 rfl) (Nat.le_of_ble_eq_true rfl) (ls' := [some (.ref b), some (.ref (ρ 0 0)), some (.ref (ρ 20 0)), some (.ref (ρ 30 0)), some (.ref (ρ 31 0)), some (.int i), some (.int r3.1), none, none]) rfl ?_
  refine a_aload_n K (dq 14 rfl) rfl rfl ?_
  refine a_aload_n K (dq 15 rfl) rfl rfl ?_
  refine a_iload K (dq 16 rfl) rfl ?_
  refine a_iconst K (dq 17 rfl) (v := 1) rfl ?_
  refine a_iadd K (dq 18 rfl) ?_
  obtain ⟨c4, h⟩ := ib_some h
  refine a_sld K hX hbl hbA c4 (dq 19 rfl) ?_
  refine a_aload_n K (dq 20 rfl) rfl rfl ?_
  refine a_iload K (dq 21 rfl) rfl ?_
  refine a_iconst K (dq 22 rfl) (v := 2) rfl ?_
  refine a_iadd K (dq 23 rfl) ?_
  obtain ⟨c5, h⟩ := ib_some h
  refine a_sld K hX hbl hbA c5 (dq 24 rfl) ?_
  obtain ⟨r6, h6, h⟩ := bnd h
  refine a_callVi K (s_X7_sum S (xs (i + 1).toNatClampNeg) (xs (i + 2).toNatClampNeg) r3.2 r6 h6) v_20 rfl rfl cw_X7_sum ml_L_187 (by decide) rfl (rest := []) rfl (Nat.le_of_ble_eq_true rfl) (dq 25 rfl) (by constructor <;> (simp only [rmk, room_1]; omega)) ?_
  refine a_istore K (dq 26 rfl) (Nat.le_of_ble_eq_true rfl) (ls' := [some (.ref b), some (.ref (ρ 0 0)), some (.ref (ρ 20 0)), some (.ref (ρ 30 0)), some (.ref (ρ 31 0)), some (.int i), some (.int r3.1), some (.int r6.1), none]) rfl ?_
  refine a_aload_n K (dq 27 rfl) rfl rfl ?_
  obtain ⟨r7, h7, h⟩ := bnd h
  refine a_callVi K (s_X7_thrown S  r6.2 r7 h7) v_20 rfl rfl cw_X7_thrown ml_L_147 (by decide) rfl (rest := []) rfl (Nat.le_of_ble_eq_true rfl) (dq 28 rfl) (by constructor <;> (simp only [rmk, room_1]; omega)) ?_
  refine a_iload K (dq 29 rfl) rfl ?_
  refine a_icmp_eq K (tgt := 1068) (dq 30 rfl) rfl (fun c8 => ?_) (fun c8 => ?_)
  · have h := ite_t c8 h
    refine a_iload K (dq 31 rfl) rfl ?_
    refine a_if_ne K (tgt := 1085) (dq 32 rfl) rfl (fun c9 => ?_) (fun c9 => ?_)
    · have h := ite_f c9 h
      refine a_goto K (tgt := 2476) (dq 33 rfl) rfl ?_
      obtain rfl := Option.some.inj h
      refine a_le2 (ls' := [some (.ref b), some (.ref (ρ 0 0)), some (.ref (ρ 20 0)), some (.ref (ρ 30 0)), some (.ref (ρ 31 0)), some (.int i), none, none, none]) ⟨rfl, rfl, rfl, rfl, rfl, rfl, trivial⟩ ?_
      exact hk _ _ (by simp only [rmk]; omega) (by simp only [rmk]; omega)
    · have h := ite_t c9 h
      refine a_aload_n K (dq 34 rfl) rfl rfl ?_
      refine a_iconst K (dq 35 rfl) (v := 0) rfl ?_
      refine a_lald K (dq 36 rfl) ?_
      refine a_iload K (dq 37 rfl) rfl ?_
      refine a_i2l K (dq 38 rfl) ?_
      refine a_lcmp K (dq 39 rfl) ?_
      refine a_if_eq K (tgt := 1085) (dq 40 rfl) rfl (fun c10 => ?_) (fun c10 => ?_)
      · have h := ite_t c10 h
        refine a_goto K (tgt := 2476) (dq 33 rfl) rfl ?_
        obtain rfl := Option.some.inj h
        refine a_le2 (ls' := [some (.ref b), some (.ref (ρ 0 0)), some (.ref (ρ 20 0)), some (.ref (ρ 30 0)), some (.ref (ρ 31 0)), some (.int i), none, none, none]) ⟨rfl, rfl, rfl, rfl, rfl, rfl, trivial⟩ ?_
        exact hk _ _ (by simp only [rmk]; omega) (by simp only [rmk]; omega)
      · have h := ite_f c10 h
        refine a_iconst K (dq 41 rfl) (v := 0) rfl ?_
        cases h
  · have h := ite_f c8 h
    refine a_iconst K (dq 43 rfl) (v := 0) rfl ?_
    cases h
def t_lc_13 : List (Nat × Instr × Nat) := [(1088, .aload_n 1, 1), (1089, .aload_n 0, 1), (1090, .iload 5, 2), (1092, .iconst 1, 1), (1093, .iadd, 1), (1094, .iaload, 1), (1095, .aload_n 0, 1), (1096, .iload 5, 2), (1098, .iconst 2, 1), (1099, .iadd, 1), (1100, .iaload, 1), (1101, .aload_n 3, 1), (1102, .invokestatic 188, 3), (1105, .istore 6, 2), (1107, .aload_n 2, 1), (1108, .aload_n 0, 1), (1109, .iload 5, 2), (1111, .iconst 1, 1), (1112, .iadd, 1), (1113, .iaload, 1), (1114, .aload_n 0, 1), (1115, .iload 5, 2), (1117, .iconst 2, 1), (1118, .iadd, 1), (1119, .iaload, 1), (1120, .invokevirtual 190, 3), (1123, .istore 7, 2), (1125, .aload_n 2, 1), (1126, .invokevirtual 147, 3), (1129, .iload 6, 2), (1131, .if_icmp .eq 5, 3), (1136, .iload 6, 2), (1138, .ifCond .ne 15, 3), (1153, .goto 1323, 3), (1141, .aload_n 3, 1), (1142, .iconst 0, 1), (1143, .laload, 1), (1144, .iload 7, 2), (1146, .i2l, 1), (1147, .lcmp, 1), (1148, .ifCond .eq 5, 3), (1151, .iconst 0, 1), (1152, .ireturn, 1), (1134, .iconst 0, 1), (1135, .ireturn, 1)]
theorem dt_lc_13 : tblOK code t_lc_13 = true := by decide +kernel
def p_lc_13 (xs : Nat → Int32) (L : Nat) (i : Int32) (σ : Sg) : Option Sg := if ib (i + 1) L then (if ib (i + 2) L then ((p_L_sumAgain (xs (i + 1).toNatClampNeg) (xs (i + 2).toNatClampNeg) σ).bind fun r3 => if ib (i + 1) L then (if ib (i + 2) L then ((p_X7_sumAgain (xs (i + 1).toNatClampNeg) (xs (i + 2).toNatClampNeg) r3.2).bind fun r6 => (p_X7_thrown  r6.2).bind fun r7 => if r7 = r3.1 then (if r3.1 = 0 then (if (lg_cmp (gL r6.2) r6.1.toInt64) = 0 then (some r6.2) else (none)) else (some r6.2)) else (none)) else none) else none) else none) else none
set_option maxRecDepth 20000 in
set_option maxHeartbeats 1000000 in
theorem s_lc_13 {l : Launch} {D : va_G} {ty : Nat → ClassId} {ρ : Nat → Nat → Nat} {N0 : Nat} (S : St l ty ρ N0) {xs : Nat → Int32} {L b : Nat} (i : Int32) (σ σ9 : Sg) (h : p_lc_13 xs L i σ = some σ9) {p : Program} {e : Env} {s : State} {m : MethodId} {args : Array Value} {below : List Frame} {meth : Method} {c : Code} {Q : State → Prop} (K : Cx p l s m args meth c code 9 RL ret D ty ρ N0) (hX : va_X b L xs s s.heap) (hbl : b < s.heap.size) (hbA : ¬ N0 ≤ b) {cs ss : Nat} (hcs : cs + 20 ≤ 603072) (hss : ss + 120 ≤ 7207018) (hk : ∀ c9 s9, c9 ≤ cs + 20 → s9 ≤ ss + 120 → WA p l e room_1 s m args below meth c D ty ρ N0 9 Q 2476 [some (.ref b), some (.ref (ρ 0 0)), some (.ref (ρ 20 0)), some (.ref (ρ 30 0)), some (.ref (ρ 31 0)), some (.int i), none, none, none] [] σ9 c9 s9) : WA p l e room_1 s m args below meth c D ty ρ N0 9 Q 1088 [some (.ref b), some (.ref (ρ 0 0)), some (.ref (ρ 20 0)), some (.ref (ρ 30 0)), some (.ref (ρ 31 0)), some (.int i), none, none, none] [] σ cs ss := by
  have dq := @tat _ _ dt_lc_13
  unfold p_lc_13 at h
  refine a_aload_n K (dq 0 rfl) rfl rfl ?_
  refine a_aload_n K (dq 1 rfl) rfl rfl ?_
  refine a_iload K (dq 2 rfl) rfl ?_
  refine a_iconst K (dq 3 rfl) (v := 1) rfl ?_
  refine a_iadd K (dq 4 rfl) ?_
  obtain ⟨c1, h⟩ := ib_some h
  refine a_sld K hX hbl hbA c1 (dq 5 rfl) ?_
  refine a_aload_n K (dq 6 rfl) rfl rfl ?_
  refine a_iload K (dq 7 rfl) rfl ?_
  refine a_iconst K (dq 8 rfl) (v := 2) rfl ?_
  refine a_iadd K (dq 9 rfl) ?_
  obtain ⟨c2, h⟩ := ib_some h
  refine a_sld K hX hbl hbA c2 (dq 10 rfl) ?_
  refine a_aload_n K (dq 11 rfl) rfl rfl ?_
  obtain ⟨r3, h3, h⟩ := bnd h
  refine a_callH K (s_L_sumAgain S (xs (i + 1).toNatClampNeg) (xs (i + 2).toNatClampNeg) σ r3 h3) cw_L_sumAgain mh_L_188 (by decide) rfl (rest := []) rfl (Nat.le_of_ble_eq_true rfl) (dq 12 rfl) (by constructor <;> (simp only [rmk, room_1]; omega)) ?_
  refine a_istore K (dq 13 rfl) (Nat.le_of_ble_eq_true rfl) (ls' := [some (.ref b), some (.ref (ρ 0 0)), some (.ref (ρ 20 0)), some (.ref (ρ 30 0)), some (.ref (ρ 31 0)), some (.int i), some (.int r3.1), none, none]) rfl ?_
  refine a_aload_n K (dq 14 rfl) rfl rfl ?_
  refine a_aload_n K (dq 15 rfl) rfl rfl ?_
  refine a_iload K (dq 16 rfl) rfl ?_
  refine a_iconst K (dq 17 rfl) (v := 1) rfl ?_
  refine a_iadd K (dq 18 rfl) ?_
  obtain ⟨c4, h⟩ := ib_some h
  refine a_sld K hX hbl hbA c4 (dq 19 rfl) ?_
  refine a_aload_n K (dq 20 rfl) rfl rfl ?_
  refine a_iload K (dq 21 rfl) rfl ?_
  refine a_iconst K (dq 22 rfl) (v := 2) rfl ?_
  refine a_iadd K (dq 23 rfl) ?_
  obtain ⟨c5, h⟩ := ib_some h
  refine a_sld K hX hbl hbA c5 (dq 24 rfl) ?_
  obtain ⟨r6, h6, h⟩ := bnd h
  refine a_callVi K (s_X7_sumAgain S (xs (i + 1).toNatClampNeg) (xs (i + 2).toNatClampNeg) r3.2 r6 h6) v_20 rfl rfl cw_X7_sumAgain ml_L_190 (by decide) rfl (rest := []) rfl (Nat.le_of_ble_eq_true rfl) (dq 25 rfl) (by constructor <;> (simp only [rmk, room_1]; omega)) ?_
  refine a_istore K (dq 26 rfl) (Nat.le_of_ble_eq_true rfl) (ls' := [some (.ref b), some (.ref (ρ 0 0)), some (.ref (ρ 20 0)), some (.ref (ρ 30 0)), some (.ref (ρ 31 0)), some (.int i), some (.int r3.1), some (.int r6.1), none]) rfl ?_
  refine a_aload_n K (dq 27 rfl) rfl rfl ?_
  obtain ⟨r7, h7, h⟩ := bnd h
  refine a_callVi K (s_X7_thrown S  r6.2 r7 h7) v_20 rfl rfl cw_X7_thrown ml_L_147 (by decide) rfl (rest := []) rfl (Nat.le_of_ble_eq_true rfl) (dq 28 rfl) (by constructor <;> (simp only [rmk, room_1]; omega)) ?_
  refine a_iload K (dq 29 rfl) rfl ?_
  refine a_icmp_eq K (tgt := 1136) (dq 30 rfl) rfl (fun c8 => ?_) (fun c8 => ?_)
  · have h := ite_t c8 h
    refine a_iload K (dq 31 rfl) rfl ?_
    refine a_if_ne K (tgt := 1153) (dq 32 rfl) rfl (fun c9 => ?_) (fun c9 => ?_)
    · have h := ite_f c9 h
      refine a_goto K (tgt := 2476) (dq 33 rfl) rfl ?_
      obtain rfl := Option.some.inj h
      refine a_le2 (ls' := [some (.ref b), some (.ref (ρ 0 0)), some (.ref (ρ 20 0)), some (.ref (ρ 30 0)), some (.ref (ρ 31 0)), some (.int i), none, none, none]) ⟨rfl, rfl, rfl, rfl, rfl, rfl, trivial⟩ ?_
      exact hk _ _ (by simp only [rmk]; omega) (by simp only [rmk]; omega)
    · have h := ite_t c9 h
      refine a_aload_n K (dq 34 rfl) rfl rfl ?_
      refine a_iconst K (dq 35 rfl) (v := 0) rfl ?_
      refine a_lald K (dq 36 rfl) ?_
      refine a_iload K (dq 37 rfl) rfl ?_
      refine a_i2l K (dq 38 rfl) ?_
      refine a_lcmp K (dq 39 rfl) ?_
      refine a_if_eq K (tgt := 1153) (dq 40 rfl) rfl (fun c10 => ?_) (fun c10 => ?_)
      · have h := ite_t c10 h
        refine a_goto K (tgt := 2476) (dq 33 rfl) rfl ?_
        obtain rfl := Option.some.inj h
        refine a_le2 (ls' := [some (.ref b), some (.ref (ρ 0 0)), some (.ref (ρ 20 0)), some (.ref (ρ 30 0)), some (.ref (ρ 31 0)), some (.int i), none, none, none]) ⟨rfl, rfl, rfl, rfl, rfl, rfl, trivial⟩ ?_
        exact hk _ _ (by simp only [rmk]; omega) (by simp only [rmk]; omega)
      · have h := ite_f c10 h
        refine a_iconst K (dq 41 rfl) (v := 0) rfl ?_
        cases h
  · have h := ite_f c8 h
    refine a_iconst K (dq 43 rfl) (v := 0) rfl ?_
    cases h
