def t_lc_14 : List (Nat × Instr × Nat) := [(1156, .aload_n 1, 1), (1157, .aload_n 0, 1), (1158, .iload 5, 2), (1160, .iconst 1, 1), (1161, .iadd, 1), (1162, .iaload, 1), (1163, .aload_n 0, 1), (1164, .iload 5, 2), (1166, .iconst 2, 1), (1167, .iadd, 1), (1168, .iaload, 1), (1169, .aload_n 3, 1), (1170, .invokestatic 191, 3), (1173, .istore 6, 2), (1175, .aload_n 2, 1), (1176, .aload_n 0, 1), (1177, .iload 5, 2), (1179, .iconst 1, 1), (1180, .iadd, 1), (1181, .iaload, 1), (1182, .aload_n 0, 1), (1183, .iload 5, 2), (1185, .iconst 2, 1), (1186, .iadd, 1), (1187, .iaload, 1), (1188, .invokevirtual 193, 3), (1191, .istore 7, 2), (1193, .aload_n 2, 1), (1194, .invokevirtual 147, 3), (1197, .iload 6, 2), (1199, .if_icmp .eq 5, 3), (1204, .iload 6, 2), (1206, .ifCond .ne 15, 3), (1221, .goto 1255, 3), (1209, .aload_n 3, 1), (1210, .iconst 0, 1), (1211, .laload, 1), (1212, .iload 7, 2), (1214, .i2l, 1), (1215, .lcmp, 1), (1216, .ifCond .eq 5, 3), (1219, .iconst 0, 1), (1220, .ireturn, 1), (1202, .iconst 0, 1), (1203, .ireturn, 1)]
theorem dt_lc_14 : tblOK code t_lc_14 = true := by decide +kernel
def p_lc_14 (xs : Nat → Int32) (L : Nat) (i : Int32) (σ : Sg) : Option Sg := if ib (i + 1) L then (if ib (i + 2) L then ((p_L_dearest (xs (i + 1).toNatClampNeg) (xs (i + 2).toNatClampNeg) σ).bind fun r3 => if ib (i + 1) L then (if ib (i + 2) L then ((p_X7_dearest (xs (i + 1).toNatClampNeg) (xs (i + 2).toNatClampNeg) r3.2).bind fun r6 => (p_X7_thrown  r6.2).bind fun r7 => if r7 = r3.1 then (if r3.1 = 0 then (if (lg_cmp (gL r6.2) r6.1.toInt64) = 0 then (some r6.2) else (none)) else (some r6.2)) else (none)) else none) else none) else none) else none
set_option maxRecDepth 20000 in
set_option maxHeartbeats 1000000 in
theorem s_lc_14 {l : Launch} {D : va_G} {ty : Nat → ClassId} {ρ : Nat → Nat → Nat} {N0 : Nat} (S : St l ty ρ N0) {xs : Nat → Int32} {L b : Nat} (i : Int32) (σ σ9 : Sg) (h : p_lc_14 xs L i σ = some σ9) {p : Program} {e : Env} {s : State} {m : MethodId} {args : Array Value} {below : List Frame} {meth : Method} {c : Code} {Q : State → Prop} (K : Cx p l s m args meth c code 9 RL ret D ty ρ N0) (hX : va_X b L xs s s.heap) (hbl : b < s.heap.size) (hbA : ¬ N0 ≤ b) {cs ss : Nat} (hcs : cs + 20 ≤ 603072) (hss : ss + 120 ≤ 7207018) (hk : ∀ c9 s9, c9 ≤ cs + 20 → s9 ≤ ss + 120 → WA p l e room_1 s m args below meth c D ty ρ N0 9 Q 2476 [some (.ref b), some (.ref (ρ 0 0)), some (.ref (ρ 20 0)), some (.ref (ρ 30 0)), some (.ref (ρ 31 0)), some (.int i), none, none, none] [] σ9 c9 s9) : WA p l e room_1 s m args below meth c D ty ρ N0 9 Q 1156 [some (.ref b), some (.ref (ρ 0 0)), some (.ref (ρ 20 0)), some (.ref (ρ 30 0)), some (.ref (ρ 31 0)), some (.int i), none, none, none] [] σ cs ss := by
  have dq := @tat _ _ dt_lc_14
  unfold p_lc_14 at h
  refine a_aload_n K (dq 0 rfl) rfl rfl ?_
  refine a_aload_n K (dq 1 rfl) rfl rfl ?_
  refine a_iload K (dq 2 rfl) rfl ?_
  refine a_iconst K (dq 3 rfl) (v := 1) rfl ?_
  refine a_iadd K (dq 4 rfl) ?_
  obtain ⟨c1, h⟩ := ib_some h
  refine a_sld K hX hbl hbA c1 (dq 5 rfl) ?_
  refine a_aload_n K (dq 6 rfl) rfl rfl ?_
  refine a_iload K (dq 7 rfl) rfl ?_
  refine a_iconst K (dq 8 rfl) (v := 2) rfl ?_
  refine a_iadd K (dq 9 rfl) ?_
  obtain ⟨c2, h⟩ := ib_some h
  refine a_sld K hX hbl hbA c2 (dq 10 rfl) ?_
  refine a_aload_n K (dq 11 rfl) rfl rfl ?_
  obtain ⟨r3, h3, h⟩ := bnd h
  refine a_callH K (s_L_dearest S (xs (i + 1).toNatClampNeg) (xs (i + 2).toNatClampNeg) σ r3 h3) cw_L_dearest mh_L_191 (by decide) rfl (rest := []) rfl (Nat.le_of_ble_eq_true rfl) (dq 12 rfl) (by constructor <;> (simp only [rmk, room_1]; omega)) ?_
  refine a_istore K (dq 13 rfl) (Nat.le_of_ble_eq_true rfl) (ls' := [some (.ref b), some (.ref (ρ 0 0)), some (.ref (ρ 20 0)), some (.ref (ρ 30 0)), some (.ref (ρ 31 0)), some (.int i), some (.int r3.1), none, none]) rfl ?_
  refine a_aload_n K (dq 14 rfl) rfl rfl ?_
  refine a_aload_n K (dq 15 rfl) rfl rfl ?_
  refine a_iload K (dq 16 rfl) rfl ?_
  refine a_iconst K (dq 17 rfl) (v := 1) rfl ?_
  refine a_iadd K (dq 18 rfl) ?_
  obtain ⟨c4, h⟩ := ib_some h
  refine a_sld K hX hbl hbA c4 (dq 19 rfl) ?_
  refine a_aload_n K (dq 20 rfl) rfl rfl ?_
  refine a_iload K (dq 21 rfl) rfl ?_
  refine a_iconst K (dq 22 rfl) (v := 2) rfl ?_
  refine a_iadd K (dq 23 rfl) ?_
  obtain ⟨c5, h⟩ := ib_some h
  refine a_sld K hX hbl hbA c5 (dq 24 rfl) ?_
  obtain ⟨r6, h6, h⟩ := bnd h
  refine a_callVi K (s_X7_dearest S (xs (i + 1).toNatClampNeg) (xs (i + 2).toNatClampNeg) r3.2 r6 h6) v_20 rfl rfl cw_X7_dearest ml_L_193 (by decide) rfl (rest := []) rfl (Nat.le_of_ble_eq_true rfl) (dq 25 rfl) (by constructor <;> (simp only [rmk, room_1]; omega)) ?_
  refine a_istore K (dq 26 rfl) (Nat.le_of_ble_eq_true rfl) (ls' := [some (.ref b), some (.ref (ρ 0 0)), some (.ref (ρ 20 0)), some (.ref (ρ 30 0)), some (.ref (ρ 31 0)), some (.int i), some (.int r3.1), some (.int r6.1), none]) rfl ?_
  refine a_aload_n K (dq 27 rfl) rfl rfl ?_
  obtain ⟨r7, h7, h⟩ := bnd h
  refine a_callVi K (s_X7_thrown S  r6.2 r7 h7) v_20 rfl rfl cw_X7_thrown ml_L_147 (by decide) rfl (rest := []) rfl (Nat.le_of_ble_eq_true rfl) (dq 28 rfl) (by constructor <;> (simp only [rmk, room_1]; omega)) ?_
  refine a_iload K (dq 29 rfl) rfl ?_
  refine a_icmp_eq K (tgt := 1204) (dq 30 rfl) rfl (fun c8 => ?_) (fun c8 => ?_)
  · have h := ite_t c8 h
    refine a_iload K (dq 31 rfl) rfl ?_
    refine a_if_ne K (tgt := 1221) (dq 32 rfl) rfl (fun c9 => ?_) (fun c9 => ?_)
    · have h := ite_f c9 h
      refine a_goto K (tgt := 2476) (dq 33 rfl) rfl ?_
      obtain rfl := Option.some.inj h
      refine a_le2 (ls' := [some (.ref b), some (.ref (ρ 0 0)), some (.ref (ρ 20 0)), some (.ref (ρ 30 0)), some (.ref (ρ 31 0)), some (.int i), none, none, none]) ⟨rfl, rfl, rfl, rfl, rfl, rfl, trivial⟩ ?_
      exact hk _ _ (by simp only [rmk]; omega) (by simp only [rmk]; omega)
    · have h := ite_t c9 h
      refine a_aload_n K (dq 34 rfl) rfl rfl ?_
      refine a_iconst K (dq 35 rfl) (v := 0) rfl ?_
      refine a_lald K (dq 36 rfl) ?_
      refine a_iload K (dq 37 rfl) rfl ?_
      refine a_i2l K (dq 38 rfl) ?_
      refine a_lcmp K (dq 39 rfl) ?_
      refine a_if_eq K (tgt := 1221) (dq 40 rfl) rfl (fun c10 => ?_) (fun c10 => ?_)
      · have h := ite_t c10 h
        refine a_goto K (tgt := 2476) (dq 33 rfl) rfl ?_
        obtain rfl := Option.some.inj h
        refine a_le2 (ls' := [some (.ref b), some (.ref (ρ 0 0)), some (.ref (ρ 20 0)), some (.ref (ρ 30 0)), some (.ref (ρ 31 0)), some (.int i), none, none, none]) ⟨rfl, rfl, rfl, rfl, rfl, rfl, trivial⟩ ?_
        exact hk _ _ (by simp only [rmk]; omega) (by simp only [rmk]; omega)
      · have h := ite_f c10 h
        refine a_iconst K (dq 41 rfl) (v := 0) rfl ?_
        cases h
  · have h := ite_f c8 h
    refine a_iconst K (dq 43 rfl) (v := 0) rfl ?_
    cases h
def t_lc_15 : List (Nat × Instr × Nat) := [(1224, .aload_n 1, 1), (1225, .aload_n 0, 1), (1226, .iload 5, 2), (1228, .iconst 1, 1), (1229, .iadd, 1), (1230, .iaload, 1), (1231, .aload_n 0, 1), (1232, .iload 5, 2), (1234, .iconst 2, 1), (1235, .iadd, 1), (1236, .iaload, 1), (1237, .aload_n 3, 1), (1238, .invokestatic 194, 3), (1241, .istore 6, 2), (1243, .aload_n 2, 1), (1244, .aload_n 0, 1), (1245, .iload 5, 2), (1247, .iconst 1, 1), (1248, .iadd, 1), (1249, .iaload, 1), (1250, .aload_n 0, 1), (1251, .iload 5, 2), (1253, .iconst 2, 1), (1254, .iadd, 1), (1255, .iaload, 1), (1256, .invokevirtual 196, 3), (1259, .istore 7, 2), (1261, .aload_n 2, 1), (1262, .invokevirtual 147, 3), (1265, .iload 6, 2), (1267, .if_icmp .eq 5, 3), (1272, .iload 6, 2), (1274, .ifCond .ne 22, 3), (1296, .goto 1180, 3), (1277, .aload_n 3, 1), (1278, .iconst 0, 1), (1279, .laload, 1), (1280, .iload 7, 2), (1282, .ifCond .eq 7, 3), (1289, .lconst 0, 1), (1290, .lcmp, 1), (1291, .ifCond .eq 5, 3), (1294, .iconst 0, 1), (1295, .ireturn, 1), (1285, .lconst 1, 1), (1286, .goto 4, 3), (1270, .iconst 0, 1), (1271, .ireturn, 1)]
theorem dt_lc_15 : tblOK code t_lc_15 = true := by decide +kernel
def p_lc_15 (xs : Nat → Int32) (L : Nat) (i : Int32) (σ : Sg) : Option Sg := if ib (i + 1) L then (if ib (i + 2) L then ((p_L_isJoined (xs (i + 1).toNatClampNeg) (xs (i + 2).toNatClampNeg) σ).bind fun r3 => if ib (i + 1) L then (if ib (i + 2) L then ((p_X7_isJoined (xs (i + 1).toNatClampNeg) (xs (i + 2).toNatClampNeg) r3.2).bind fun r6 => (p_X7_thrown  r6.2).bind fun r7 => if r7 = r3.1 then (if r3.1 = 0 then (if r6.1 = 0 then (if (lg_cmp (gL r6.2) 0) = 0 then (some r6.2) else (none)) else (if (lg_cmp (gL r6.2) 1) = 0 then (some r6.2) else (none))) else (some r6.2)) else (none)) else none) else none) else none) else none
set_option maxRecDepth 20000 in
set_option maxHeartbeats 1000000 in
theorem s_lc_15 {l : Launch} {D : va_G} {ty : Nat → ClassId} {ρ : Nat → Nat → Nat} {N0 : Nat} (S : St l ty ρ N0) {xs : Nat → Int32} {L b : Nat} (i : Int32) (σ σ9 : Sg) (h : p_lc_15 xs L i σ = some σ9) {p : Program} {e : Env} {s : State} {m : MethodId} {args : Array Value} {below : List Frame} {meth : Method} {c : Code} {Q : State → Prop} (K : Cx p l s m args meth c code 9 RL ret D ty ρ N0) (hX : va_X b L xs s s.heap) (hbl : b < s.heap.size) (hbA : ¬ N0 ≤ b) {cs ss : Nat} (hcs : cs + 20 ≤ 603072) (hss : ss + 120 ≤ 7207018) (hk : ∀ c9 s9, c9 ≤ cs + 20 → s9 ≤ ss + 120 → WA p l e room_1 s m args below meth c D ty ρ N0 9 Q 2476 [some (.ref b), some (.ref (ρ 0 0)), some (.ref (ρ 20 0)), some (.ref (ρ 30 0)), some (.ref (ρ 31 0)), some (.int i), none, none, none] [] σ9 c9 s9) : WA p l e room_1 s m args below meth c D ty ρ N0 9 Q 1224 [some (.ref b), some (.ref (ρ 0 0)), some (.ref (ρ 20 0)), some (.ref (ρ 30 0)), some (.ref (ρ 31 0)), some (.int i), none, none, none] [] σ cs ss := by
  have dq := @tat _ _ dt_lc_15
  unfold p_lc_15 at h
  refine a_aload_n K (dq 0 rfl) rfl rfl ?_
  refine a_aload_n K (dq 1 rfl) rfl rfl ?_
  refine a_iload K (dq 2 rfl) rfl ?_
  refine a_iconst K (dq 3 rfl) (v := 1) rfl ?_
  refine a_iadd K (dq 4 rfl) ?_
  obtain ⟨c1, h⟩ := ib_some h
  refine a_sld K hX hbl hbA c1 (dq 5 rfl) ?_
  refine a_aload_n K (dq 6 rfl) rfl rfl ?_
  refine a_iload K (dq 7 rfl) rfl ?_
  refine a_iconst K (dq 8 rfl) (v := 2) rfl ?_
  refine a_iadd K (dq 9 rfl) ?_
  obtain ⟨c2, h⟩ := ib_some h
  refine a_sld K hX hbl hbA c2 (dq 10 rfl) ?_
  refine a_aload_n K (dq 11 rfl) rfl rfl ?_
  obtain ⟨r3, h3, h⟩ := bnd h
  refine a_callH K (s_L_isJoined S (xs (i + 1).toNatClampNeg) (xs (i + 2).toNatClampNeg) σ r3 h3) cw_L_isJoined mh_L_194 (by decide) rfl (rest := []) rfl (Nat.le_of_ble_eq_true rfl) (dq 12 rfl) (by constructor <;> (simp only [rmk, room_1]; omega)) ?_
  refine a_istore K (dq 13 rfl) (Nat.le_of_ble_eq_true rfl) (ls' := [some (.ref b), some (.ref (ρ 0 0)), some (.ref (ρ 20 0)), some (.ref (ρ 30 0)), some (.ref (ρ 31 0)), some (.int i), some (.int r3.1), none, none]) rfl ?_
  refine a_aload_n K (dq 14 rfl) rfl rfl ?_
  refine a_aload_n K (dq 15 rfl) rfl rfl ?_
  refine a_iload K (dq 16 rfl) rfl ?_
  refine a_iconst K (dq 17 rfl) (v := 1) rfl ?_
  refine a_iadd K (dq 18 rfl) ?_
  obtain ⟨c4, h⟩ := ib_some h
  refine a_sld K hX hbl hbA c4 (dq 19 rfl) ?_
  refine a_aload_n K (dq 20 rfl) rfl rfl ?_
  refine a_iload K (dq 21 rfl) rfl ?_
  refine a_iconst K (dq 22 rfl) (v := 2) rfl ?_
  refine a_iadd K (dq 23 rfl) ?_
  obtain ⟨c5, h⟩ := ib_some h
  refine a_sld K hX hbl hbA c5 (dq 24 rfl) ?_
  obtain ⟨r6, h6, h⟩ := bnd h
  refine a_callVi K (s_X7_isJoined S (xs (i + 1).toNatClampNeg) (xs (i + 2).toNatClampNeg) r3.2 r6 h6) v_20 rfl rfl cw_X7_isJoined ml_L_196 (by decide) rfl (rest := []) rfl (Nat.le_of_ble_eq_true rfl) (dq 25 rfl) (by constructor <;> (simp only [rmk, room_1]; omega)) ?_
  refine a_istore K (dq 26 rfl) (Nat.le_of_ble_eq_true rfl) (ls' := [some (.ref b), some (.ref (ρ 0 0)), some (.ref (ρ 20 0)), some (.ref (ρ 30 0)), some (.ref (ρ 31 0)), some (.int i), some (.int r3.1), some (.int r6.1), none]) rfl ?_
  refine a_aload_n K (dq 27 rfl) rfl rfl ?_
  obtain ⟨r7, h7, h⟩ := bnd h
  refine a_callVi K (s_X7_thrown S  r6.2 r7 h7) v_20 rfl rfl cw_X7_thrown ml_L_147 (by decide) rfl (rest := []) rfl (Nat.le_of_ble_eq_true rfl) (dq 28 rfl) (by constructor <;> (simp only [rmk, room_1]; omega)) ?_
  refine a_iload K (dq 29 rfl) rfl ?_
  refine a_icmp_eq K (tgt := 1272) (dq 30 rfl) rfl (fun c8 => ?_) (fun c8 => ?_)
  · have h := ite_t c8 h
    refine a_iload K (dq 31 rfl) rfl ?_
    refine a_if_ne K (tgt := 1296) (dq 32 rfl) rfl (fun c9 => ?_) (fun c9 => ?_)
    · have h := ite_f c9 h
      refine a_goto K (tgt := 2476) (dq 33 rfl) rfl ?_
      obtain rfl := Option.some.inj h
      refine a_le2 (ls' := [some (.ref b), some (.ref (ρ 0 0)), some (.ref (ρ 20 0)), some (.ref (ρ 30 0)), some (.ref (ρ 31 0)), some (.int i), none, none, none]) ⟨rfl, rfl, rfl, rfl, rfl, rfl, trivial⟩ ?_
      exact hk _ _ (by simp only [rmk]; omega) (by simp only [rmk]; omega)
    · have h := ite_t c9 h
      refine a_aload_n K (dq 34 rfl) rfl rfl ?_
      refine a_iconst K (dq 35 rfl) (v := 0) rfl ?_
      refine a_lald K (dq 36 rfl) ?_
      refine a_iload K (dq 37 rfl) rfl ?_
      refine a_if_eq K (tgt := 1289) (dq 38 rfl) rfl (fun c10 => ?_) (fun c10 => ?_)
      · have h := ite_t c10 h
        refine a_lconst K (dq 39 rfl) (v := 0) rfl ?_
        refine a_lcmp K (dq 40 rfl) ?_
        refine a_if_eq K (tgt := 1296) (dq 41 rfl) rfl (fun c11 => ?_) (fun c11 => ?_)
        · have h := ite_t c11 h
          refine a_goto K (tgt := 2476) (dq 33 rfl) rfl ?_
          obtain rfl := Option.some.inj h
          refine a_le2 (ls' := [some (.ref b), some (.ref (ρ 0 0)), some (.ref (ρ 20 0)), some (.ref (ρ 30 0)), some (.ref (ρ 31 0)), some (.int i), none, none, none]) ⟨rfl, rfl, rfl, rfl, rfl, rfl, trivial⟩ ?_
          exact hk _ _ (by simp only [rmk]; omega) (by simp only [rmk]; omega)
        · have h := ite_f c11 h
          refine a_iconst K (dq 42 rfl) (v := 0) rfl ?_
          cases h
      · have h := ite_f c10 h
        refine a_lconst K (dq 44 rfl) (v := 1) rfl ?_
        refine a_goto K (tgt := 1290) (dq 45 rfl) rfl ?_
        refine a_lcmp K (dq 40 rfl) ?_
        refine a_if_eq K (tgt := 1296) (dq 41 rfl) rfl (fun c12 => ?_) (fun c12 => ?_)
        · have h := ite_t c12 h
          refine a_goto K (tgt := 2476) (dq 33 rfl) rfl ?_
          obtain rfl := Option.some.inj h
          refine a_le2 (ls' := [some (.ref b), some (.ref (ρ 0 0)), some (.ref (ρ 20 0)), some (.ref (ρ 30 0)), some (.ref (ρ 31 0)), some (.int i), none, none, none]) ⟨rfl, rfl, rfl, rfl, rfl, rfl, trivial⟩ ?_
          exact hk _ _ (by simp only [rmk]; omega) (by simp only [rmk]; omega)
        · have h := ite_f c12 h
          refine a_iconst K (dq 42 rfl) (v := 0) rfl ?_
          cases h
  · have h := ite_f c8 h
    refine a_iconst K (dq 46 rfl) (v := 0) rfl ?_
    cases h
def t_lc_16 : List (Nat × Instr × Nat) := [(1299, .aload_n 1, 1), (1300, .aload_n 0, 1), (1301, .iload 5, 2), (1303, .iconst 1, 1), (1304, .iadd, 1), (1305, .iaload, 1), (1306, .aload_n 0, 1), (1307, .iload 5, 2), (1309, .iconst 2, 1), (1310, .iadd, 1), (1311, .iaload, 1), (1312, .aload_n 3, 1), (1313, .invokestatic 197, 3), (1316, .istore 6, 2), (1318, .aload_n 2, 1), (1319, .aload_n 0, 1), (1320, .iload 5, 2), (1322, .iconst 1, 1), (1323, .iadd, 1), (1324, .iaload, 1), (1325, .aload_n 0, 1), (1326, .iload 5, 2), (1328, .iconst 2, 1), (1329, .iadd, 1), (1330, .iaload, 1), (1331, .invokevirtual 199, 3), (1334, .istore 7, 2), (1336, .aload_n 2, 1), (1337, .invokevirtual 147, 3), (1340, .iload 6, 2), (1342, .if_icmp .eq 5, 3), (1347, .iload 6, 2), (1349, .ifCond .ne 22, 3), (1371, .goto 1105, 3), (1352, .aload_n 3, 1), (1353, .iconst 0, 1), (1354, .laload, 1), (1355, .iload 7, 2), (1357, .ifCond .eq 7, 3), (1364, .lconst 0, 1), (1365, .lcmp, 1), (1366, .ifCond .eq 5, 3), (1369, .iconst 0, 1), (1370, .ireturn, 1), (1360, .lconst 1, 1), (1361, .goto 4, 3), (1345, .iconst 0, 1), (1346, .ireturn, 1)]
theorem dt_lc_16 : tblOK code t_lc_16 = true := by decide +kernel
def p_lc_16 (xs : Nat → Int32) (L : Nat) (i : Int32) (σ : Sg) : Option Sg := if ib (i + 1) L then (if ib (i + 2) L then ((p_L_isTrack (xs (i + 1).toNatClampNeg) (xs (i + 2).toNatClampNeg) σ).bind fun r3 => if ib (i + 1) L then (if ib (i + 2) L then ((p_X7_isTrack (xs (i + 1).toNatClampNeg) (xs (i + 2).toNatClampNeg) r3.2).bind fun r6 => (p_X7_thrown  r6.2).bind fun r7 => if r7 = r3.1 then (if r3.1 = 0 then (if r6.1 = 0 then (if (lg_cmp (gL r6.2) 0) = 0 then (some r6.2) else (none)) else (if (lg_cmp (gL r6.2) 1) = 0 then (some r6.2) else (none))) else (some r6.2)) else (none)) else none) else none) else none) else none
set_option maxRecDepth 20000 in
set_option maxHeartbeats 1000000 in
theorem s_lc_16 {l : Launch} {D : va_G} {ty : Nat → ClassId} {ρ : Nat → Nat → Nat} {N0 : Nat} (S : St l ty ρ N0) {xs : Nat → Int32} {L b : Nat} (i : Int32) (σ σ9 : Sg) (h : p_lc_16 xs L i σ = some σ9) {p : Program} {e : Env} {s : State} {m : MethodId} {args : Array Value} {below : List Frame} {meth : Method} {c : Code} {Q : State → Prop} (K : Cx p l s m args meth c code 9 RL ret D ty ρ N0) (hX : va_X b L xs s s.heap) (hbl : b < s.heap.size) (hbA : ¬ N0 ≤ b) {cs ss : Nat} (hcs : cs + 20 ≤ 603072) (hss : ss + 120 ≤ 7207018) (hk : ∀ c9 s9, c9 ≤ cs + 20 → s9 ≤ ss + 120 → WA p l e room_1 s m args below meth c D ty ρ N0 9 Q 2476 [some (.ref b), some (.ref (ρ 0 0)), some (.ref (ρ 20 0)), some (.ref (ρ 30 0)), some (.ref (ρ 31 0)), some (.int i), none, none, none] [] σ9 c9 s9) : WA p l e room_1 s m args below meth c D ty ρ N0 9 Q 1299 [some (.ref b), some (.ref (ρ 0 0)), some (.ref (ρ 20 0)), some (.ref (ρ 30 0)), some (.ref (ρ 31 0)), some (.int i), none, none, none] [] σ cs ss := by
  have dq := @tat _ _ dt_lc_16
  unfold p_lc_16 at h
  refine a_aload_n K (dq 0 rfl) rfl rfl ?_
  refine a_aload_n K (dq 1 rfl) rfl rfl ?_
  refine a_iload K (dq 2 rfl) rfl ?_
  refine a_iconst K (dq 3 rfl) (v := 1) rfl ?_
  refine a_iadd K (dq 4 rfl) ?_
  obtain ⟨c1, h⟩ := ib_some h
  refine a_sld K hX hbl hbA c1 (dq 5 rfl) ?_
  refine a_aload_n K (dq 6 rfl) rfl rfl ?_
  refine a_iload K (dq 7 rfl) rfl ?_
  refine a_iconst K (dq 8 rfl) (v := 2) rfl ?_
  refine a_iadd K (dq 9 rfl) ?_
  obtain ⟨c2, h⟩ := ib_some h
  refine a_sld K hX hbl hbA c2 (dq 10 rfl) ?_
  refine a_aload_n K (dq 11 rfl) rfl rfl ?_
  obtain ⟨r3, h3, h⟩ := bnd h
  refine a_callH K (s_L_isTrack S (xs (i + 1).toNatClampNeg) (xs (i + 2).toNatClampNeg) σ r3 h3) cw_L_isTrack mh_L_197 (by decide) rfl (rest := []) rfl (Nat.le_of_ble_eq_true rfl) (dq 12 rfl) (by constructor <;> (simp only [rmk, room_1]; omega)) ?_
  refine a_istore K (dq 13 rfl) (Nat.le_of_ble_eq_true rfl) (ls' := [some (.ref b), some (.ref (ρ 0 0)), some (.ref (ρ 20 0)), some (.ref (ρ 30 0)), some (.ref (ρ 31 0)), some (.int i), some (.int r3.1), none, none]) rfl ?_
  refine a_aload_n K (dq 14 rfl) rfl rfl ?_
  refine a_aload_n K (dq 15 rfl) rfl rfl ?_
  refine a_iload K (dq 16 rfl) rfl ?_
  refine a_iconst K (dq 17 rfl) (v := 1) rfl ?_
  refine a_iadd K (dq 18 rfl) ?_
  obtain ⟨c4, h⟩ := ib_some h
  refine a_sld K hX hbl hbA c4 (dq 19 rfl) ?_
  refine a_aload_n K (dq 20 rfl) rfl rfl ?_
  refine a_iload K (dq 21 rfl) rfl ?_
  refine a_iconst K (dq 22 rfl) (v := 2) rfl ?_
  refine a_iadd K (dq 23 rfl) ?_
  obtain ⟨c5, h⟩ := ib_some h
  refine a_sld K hX hbl hbA c5 (dq 24 rfl) ?_
  obtain ⟨r6, h6, h⟩ := bnd h
  refine a_callVi K (s_X7_isTrack S (xs (i + 1).toNatClampNeg) (xs (i + 2).toNatClampNeg) r3.2 r6 h6) v_20 rfl rfl cw_X7_isTrack ml_L_199 (by decide) rfl (rest := []) rfl (Nat.le_of_ble_eq_true rfl) (dq 25 rfl) (by constructor <;> (simp only [rmk, room_1]; omega)) ?_
  refine a_istore K (dq 26 rfl) (Nat.le_of_ble_eq_true rfl) (ls' := [some (.ref b), some (.ref (ρ 0 0)), some (.ref (ρ 20 0)), some (.ref (ρ 30 0)), some (.ref (ρ 31 0)), some (.int i), some (.int r3.1), some (.int r6.1), none]) rfl ?_
  refine a_aload_n K (dq 27 rfl) rfl rfl ?_
  obtain ⟨r7, h7, h⟩ := bnd h
  refine a_callVi K (s_X7_thrown S  r6.2 r7 h7) v_20 rfl rfl cw_X7_thrown ml_L_147 (by decide) rfl (rest := []) rfl (Nat.le_of_ble_eq_true rfl) (dq 28 rfl) (by constructor <;> (simp only [rmk, room_1]; omega)) ?_
  refine a_iload K (dq 29 rfl) rfl ?_
  refine a_icmp_eq K (tgt := 1347) (dq 30 rfl) rfl (fun c8 => ?_) (fun c8 => ?_)
  · have h := ite_t c8 h
    refine a_iload K (dq 31 rfl) rfl ?_
    refine a_if_ne K (tgt := 1371) (dq 32 rfl) rfl (fun c9 => ?_) (fun c9 => ?_)
    · have h := ite_f c9 h
      refine a_goto K (tgt := 2476) (dq 33 rfl) rfl ?_
      obtain rfl := Option.some.inj h
      refine a_le2 (ls' := [some (.ref b), some (.ref (ρ 0 0)), some (.ref (ρ 20 0)), some (.ref (ρ 30 0)), some (.ref (ρ 31 0)), some (.int i), none, none, none]) ⟨rfl, rfl, rfl, rfl, rfl, rfl, trivial⟩ ?_
      exact hk _ _ (by simp only [rmk]; omega) (by simp only [rmk]; omega)
    · have h := ite_t c9 h
      refine a_aload_n K (dq 34 rfl) rfl rfl ?_
      refine a_iconst K (dq 35 rfl) (v := 0) rfl ?_
      refine a_lald K (dq 36 rfl) ?_
      refine a_iload K (dq 37 rfl) rfl ?_
      refine a_if_eq K (tgt := 1364) (dq 38 rfl) rfl (fun c10 => ?_) (fun c10 => ?_)
      · have h := ite_t c10 h
        refine a_lconst K (dq 39 rfl) (v := 0) rfl ?_
        refine a_lcmp K (dq 40 rfl) ?_
        refine a_if_eq K (tgt := 1371) (dq 41 rfl) rfl (fun c11 => ?_) (fun c11 => ?_)
        · have h := ite_t c11 h
          refine a_goto K (tgt := 2476) (dq 33 rfl) rfl ?_
          obtain rfl := Option.some.inj h
          refine a_le2 (ls' := [some (.ref b), some (.ref (ρ 0 0)), some (.ref (ρ 20 0)), some (.ref (ρ 30 0)), some (.ref (ρ 31 0)), some (.int i), none, none, none]) ⟨rfl, rfl, rfl, rfl, rfl, rfl, trivial⟩ ?_
          exact hk _ _ (by simp only [rmk]; omega) (by simp only [rmk]; omega)
        · have h := ite_f c11 h
          refine a_iconst K (dq 42 rfl) (v := 0) rfl ?_
          cases h
      · have h := ite_f c10 h
        refine a_lconst K (dq 44 rfl) (v := 1) rfl ?_
        refine a_goto K (tgt := 1365) (dq 45 rfl) rfl ?_
        refine a_lcmp K (dq 40 rfl) ?_
        refine a_if_eq K (tgt := 1371) (dq 41 rfl) rfl (fun c12 => ?_) (fun c12 => ?_)
        · have h := ite_t c12 h
          refine a_goto K (tgt := 2476) (dq 33 rfl) rfl ?_
          obtain rfl := Option.some.inj h
          refine a_le2 (ls' := [some (.ref b), some (.ref (ρ 0 0)), some (.ref (ρ 20 0)), some (.ref (ρ 30 0)), some (.ref (ρ 31 0)), some (.int i), none, none, none]) ⟨rfl, rfl, rfl, rfl, rfl, rfl, trivial⟩ ?_
          exact hk _ _ (by simp only [rmk]; omega) (by simp only [rmk]; omega)
        · have h := ite_f c12 h
          refine a_iconst K (dq 42 rfl) (v := 0) rfl ?_
          cases h
  · have h := ite_f c8 h
    refine a_iconst K (dq 46 rfl) (v := 0) rfl ?_
    cases h
def t_lc_17 : List (Nat × Instr × Nat) := [(1374, .aload_n 1, 1), (1375, .aload_n 0, 1), (1376, .iload 5, 2), (1378, .iconst 1, 1), (1379, .iadd, 1), (1380, .iaload, 1), (1381, .aload_n 0, 1), (1382, .iload 5, 2), (1384, .iconst 2, 1), (1385, .iadd, 1), (1386, .iaload, 1), (1387, .aload_n 3, 1), (1388, .invokestatic 200, 3), (1391, .istore 6, 2), (1393, .aload_n 2, 1), (1394, .aload_n 0, 1), (1395, .iload 5, 2), (1397, .iconst 1, 1), (1398, .iadd, 1), (1399, .iaload, 1), (1400, .aload_n 0, 1), (1401, .iload 5, 2), (1403, .iconst 2, 1), (1404, .iadd, 1), (1405, .iaload, 1), (1406, .invokevirtual 202, 3), (1409, .istore 7, 2), (1411, .aload_n 2, 1), (1412, .invokevirtual 147, 3), (1415, .iload 6, 2), (1417, .if_icmp .eq 5, 3), (1422, .iload 6, 2), (1424, .ifCond .ne 15, 3), (1439, .goto 1037, 3), (1427, .aload_n 3, 1), (1428, .iconst 0, 1), (1429, .laload, 1), (1430, .iload 7, 2), (1432, .i2l, 1), (1433, .lcmp, 1), (1434, .ifCond .eq 5, 3), (1437, .iconst 0, 1), (1438, .ireturn, 1), (1420, .iconst 0, 1), (1421, .ireturn, 1)]
theorem dt_lc_17 : tblOK code t_lc_17 = true := by decide +kernel
def p_lc_17 (xs : Nat → Int32) (L : Nat) (i : Int32) (σ : Sg) : Option Sg := if ib (i + 1) L then (if ib (i + 2) L then ((p_L_exposed (xs (i + 1).toNatClampNeg) (xs (i + 2).toNatClampNeg) σ).bind fun r3 => if ib (i + 1) L then (if ib (i + 2) L then ((p_X7_exposed (xs (i + 1).toNatClampNeg) (xs (i + 2).toNatClampNeg) r3.2).bind fun r6 => (p_X7_thrown  r6.2).bind fun r7 => if r7 = r3.1 then (if r3.1 = 0 then (if (lg_cmp (gL r6.2) r6.1.toInt64) = 0 then (some r6.2) else (none)) else (some r6.2)) else (none)) else none) else none) else none) else none
set_option maxRecDepth 20000 in
set_option maxHeartbeats 1000000 in
theorem s_lc_17 {l : Launch} {D : va_G} {ty : Nat → ClassId} {ρ : Nat → Nat → Nat} {N0 : Nat} (S : St l ty ρ N0) {xs : Nat → Int32} {L b : Nat} (i : Int32) (σ σ9 : Sg) (h : p_lc_17 xs L i σ = some σ9) {p : Program} {e : Env} {s : State} {m : MethodId} {args : Array Value} {below : List Frame} {meth : Method} {c : Code} {Q : State → Prop} (K : Cx p l s m args meth c code 9 RL ret D ty ρ N0) (hX : va_X b L xs s s.heap) (hbl : b < s.heap.size) (hbA : ¬ N0 ≤ b) {cs ss : Nat} (hcs : cs + 20 ≤ 603072) (hss : ss + 120 ≤ 7207018) (hk : ∀ c9 s9, c9 ≤ cs + 20 → s9 ≤ ss + 120 → WA p l e room_1 s m args below meth c D ty ρ N0 9 Q 2476 [some (.ref b), some (.ref (ρ 0 0)), some (.ref (ρ 20 0)), some (.ref (ρ 30 0)), some (.ref (ρ 31 0)), some (.int i), none, none, none] [] σ9 c9 s9) : WA p l e room_1 s m args below meth c D ty ρ N0 9 Q 1374 [some (.ref b), some (.ref (ρ 0 0)), some (.ref (ρ 20 0)), some (.ref (ρ 30 0)), some (.ref (ρ 31 0)), some (.int i), none, none, none] [] σ cs ss := by
  have dq := @tat _ _ dt_lc_17
  unfold p_lc_17 at h
  refine a_aload_n K (dq 0 rfl) rfl rfl ?_
  refine a_aload_n K (dq 1 rfl) rfl rfl ?_
  refine a_iload K (dq 2 rfl) rfl ?_
  refine a_iconst K (dq 3 rfl) (v := 1) rfl ?_
  refine a_iadd K (dq 4 rfl) ?_
  obtain ⟨c1, h⟩ := ib_some h
  refine a_sld K hX hbl hbA c1 (dq 5 rfl) ?_
  refine a_aload_n K (dq 6 rfl) rfl rfl ?_
  refine a_iload K (dq 7 rfl) rfl ?_
  refine a_iconst K (dq 8 rfl) (v := 2) rfl ?_
  refine a_iadd K (dq 9 rfl) ?_
  obtain ⟨c2, h⟩ := ib_some h
  refine a_sld K hX hbl hbA c2 (dq 10 rfl) ?_
  refine a_aload_n K (dq 11 rfl) rfl rfl ?_
  obtain ⟨r3, h3, h⟩ := bnd h
  refine a_callH K (s_L_exposed S (xs (i + 1).toNatClampNeg) (xs (i + 2).toNatClampNeg) σ r3 h3) cw_L_exposed mh_L_200 (by decide) rfl (rest := []) rfl (Nat.le_of_ble_eq_true rfl) (dq 12 rfl) (by constructor <;> (simp only [rmk, room_1]; omega)) ?_
  refine a_istore K (dq 13 rfl) (Nat.le_of_ble_eq_true rfl) (ls' := [some (.ref b), some (.ref (ρ 0 0)), some (.ref (ρ 20 0)), some (.ref (ρ 30 0)), some (.ref (ρ 31 0)), some (.int i), some (.int r3.1), none, none]) rfl ?_
  refine a_aload_n K (dq 14 rfl) rfl rfl ?_
  refine a_aload_n K (dq 15 rfl) rfl rfl ?_
  refine a_iload K (dq 16 rfl) rfl ?_
  refine a_iconst K (dq 17 rfl) (v := 1) rfl ?_
  refine a_iadd K (dq 18 rfl) ?_
  obtain ⟨c4, h⟩ := ib_some h
  refine a_sld K hX hbl hbA c4 (dq 19 rfl) ?_
  refine a_aload_n K (dq 20 rfl) rfl rfl ?_
  refine a_iload K (dq 21 rfl) rfl ?_
  refine a_iconst K (dq 22 rfl) (v := 2) rfl ?_
  refine a_iadd K (dq 23 rfl) ?_
  obtain ⟨c5, h⟩ := ib_some h
  refine a_sld K hX hbl hbA c5 (dq 24 rfl) ?_
  obtain ⟨r6, h6, h⟩ := bnd h
  refine a_callVi K (s_X7_exposed S (xs (i + 1).toNatClampNeg) (xs (i + 2).toNatClampNeg) r3.2 r6 h6) v_20 rfl rfl cw_X7_exposed ml_L_202 (by decide) rfl (rest := []) rfl (Nat.le_of_ble_eq_true rfl) (dq 25 rfl) (by constructor <;> (simp only [rmk, room_1]; omega)) ?_
  refine a_istore K (dq 26 rfl) (Nat.le_of_ble_eq_true rfl) (ls' := [some (.ref b), some (.ref (ρ 0 0)), some (.ref (ρ 20 0)), some (.ref (ρ 30 0)), some (.ref (ρ 31 0)), some (.int i), some (.int r3.1), some (.int r6.1), none]) rfl ?_
  refine a_aload_n K (dq 27 rfl) rfl rfl ?_
  obtain ⟨r7, h7, h⟩ := bnd h
  refine a_callVi K (s_X7_thrown S  r6.2 r7 h7) v_20 rfl rfl cw_X7_thrown ml_L_147 (by decide) rfl (rest := []) rfl (Nat.le_of_ble_eq_true rfl) (dq 28 rfl) (by constructor <;> (simp only [rmk, room_1]; omega)) ?_
  refine a_iload K (dq 29 rfl) rfl ?_
  refine a_icmp_eq K (tgt := 1422) (dq 30 rfl) rfl (fun c8 => ?_) (fun c8 => ?_)
  · have h := ite_t c8 h
    refine a_iload K (dq 31 rfl) rfl ?_
    refine a_if_ne K (tgt := 1439) (dq 32 rfl) rfl (fun c9 => ?_) (fun c9 => ?_)
    · have h := ite_f c9 h
      refine a_goto K (tgt := 2476) (dq 33 rfl) rfl ?_
      obtain rfl := Option.some.inj h
      refine a_le2 (ls' := [some (.ref b), some (.ref (ρ 0 0)), some (.ref (ρ 20 0)), some (.ref (ρ 30 0)), some (.ref (ρ 31 0)), some (.int i), none, none, none]) ⟨rfl, rfl, rfl, rfl, rfl, rfl, trivial⟩ ?_
      exact hk _ _ (by simp only [rmk]; omega) (by simp only [rmk]; omega)
    · have h := ite_t c9 h
      refine a_aload_n K (dq 34 rfl) rfl rfl ?_
      refine a_iconst K (dq 35 rfl) (v := 0) rfl ?_
      refine a_lald K (dq 36 rfl) ?_
      refine a_iload K (dq 37 rfl) rfl ?_
      refine a_i2l K (dq 38 rfl) ?_
      refine a_lcmp K (dq 39 rfl) ?_
      refine a_if_eq K (tgt := 1439) (dq 40 rfl) rfl (fun c10 => ?_) (fun c10 => ?_)
      · have h := ite_t c10 h
        refine a_goto K (tgt := 2476) (dq 33 rfl) rfl ?_
        obtain rfl := Option.some.inj h
        refine a_le2 (ls' := [some (.ref b), some (.ref (ρ 0 0)), some (.ref (ρ 20 0)), some (.ref (ρ 30 0)), some (.ref (ρ 31 0)), some (.int i), none, none, none]) ⟨rfl, rfl, rfl, rfl, rfl, rfl, trivial⟩ ?_
        exact hk _ _ (by simp only [rmk]; omega) (by simp only [rmk]; omega)
      · have h := ite_f c10 h
        refine a_iconst K (dq 41 rfl) (v := 0) rfl ?_
        cases h
  · have h := ite_f c8 h
    refine a_iconst K (dq 43 rfl) (v := 0) rfl ?_
    cases h
def t_lc_18 : List (Nat × Instr × Nat) := [(1442, .aload_n 1, 1), (1443, .aload_n 0, 1), (1444, .iload 5, 2), (1446, .iconst 1, 1), (1447, .iadd, 1), (1448, .iaload, 1), (1449, .aload_n 3, 1), (1450, .invokestatic 203, 3), (1453, .istore 6, 2), (1455, .aload_n 2, 1), (1456, .aload_n 0, 1), (1457, .iload 5, 2), (1459, .iconst 1, 1), (1460, .iadd, 1), (1461, .iaload, 1), (1462, .invokevirtual 205, 3), (1465, .istore 7, 2), (1467, .aload_n 2, 1), (1468, .invokevirtual 147, 3), (1471, .iload 6, 2), (1473, .if_icmp .eq 5, 3), (1478, .iload 6, 2), (1480, .ifCond .ne 15, 3), (1495, .goto 981, 3), (1483, .aload_n 3, 1), (1484, .iconst 0, 1), (1485, .laload, 1), (1486, .iload 7, 2), (1488, .i2l, 1), (1489, .lcmp, 1), (1490, .ifCond .eq 5, 3), (1493, .iconst 0, 1), (1494, .ireturn, 1), (1476, .iconst 0, 1), (1477, .ireturn, 1)]
theorem dt_lc_18 : tblOK code t_lc_18 = true := by decide +kernel
def p_lc_18 (xs : Nat → Int32) (L : Nat) (i : Int32) (σ : Sg) : Option Sg := if ib (i + 1) L then ((p_L_wouldChange (xs (i + 1).toNatClampNeg) σ).bind fun r2 => if ib (i + 1) L then ((p_X7_wouldChange (xs (i + 1).toNatClampNeg) r2.2).bind fun r4 => (p_X7_thrown  r4.2).bind fun r5 => if r5 = r2.1 then (if r2.1 = 0 then (if (lg_cmp (gL r4.2) r4.1.toInt64) = 0 then (some r4.2) else (none)) else (some r4.2)) else (none)) else none) else none
set_option maxRecDepth 20000 in
set_option maxHeartbeats 1000000 in
theorem s_lc_18 {l : Launch} {D : va_G} {ty : Nat → ClassId} {ρ : Nat → Nat → Nat} {N0 : Nat} (S : St l ty ρ N0) {xs : Nat → Int32} {L b : Nat} (i : Int32) (σ σ9 : Sg) (h : p_lc_18 xs L i σ = some σ9) {p : Program} {e : Env} {s : State} {m : MethodId} {args : Array Value} {below : List Frame} {meth : Method} {c : Code} {Q : State → Prop} (K : Cx p l s m args meth c code 9 RL ret D ty ρ N0) (hX : va_X b L xs s s.heap) (hbl : b < s.heap.size) (hbA : ¬ N0 ≤ b) {cs ss : Nat} (hcs : cs + 20 ≤ 603072) (hss : ss + 120 ≤ 7207018) (hk : ∀ c9 s9, c9 ≤ cs + 20 → s9 ≤ ss + 120 → WA p l e room_1 s m args below meth c D ty ρ N0 9 Q 2476 [some (.ref b), some (.ref (ρ 0 0)), some (.ref (ρ 20 0)), some (.ref (ρ 30 0)), some (.ref (ρ 31 0)), some (.int i), none, none, none] [] σ9 c9 s9) : WA p l e room_1 s m args below meth c D ty ρ N0 9 Q 1442 [some (.ref b), some (.ref (ρ 0 0)), some (.ref (ρ 20 0)), some (.ref (ρ 30 0)), some (.ref (ρ 31 0)), some (.int i), none, none, none] [] σ cs ss := by
  have dq := @tat _ _ dt_lc_18
  unfold p_lc_18 at h
  refine a_aload_n K (dq 0 rfl) rfl rfl ?_
  refine a_aload_n K (dq 1 rfl) rfl rfl ?_
  refine a_iload K (dq 2 rfl) rfl ?_
  refine a_iconst K (dq 3 rfl) (v := 1) rfl ?_
  refine a_iadd K (dq 4 rfl) ?_
  obtain ⟨c1, h⟩ := ib_some h
  refine a_sld K hX hbl hbA c1 (dq 5 rfl) ?_
  refine a_aload_n K (dq 6 rfl) rfl rfl ?_
  obtain ⟨r2, h2, h⟩ := bnd h
  refine a_callH K (s_L_wouldChange S (xs (i + 1).toNatClampNeg) σ r2 h2) cw_L_wouldChange mh_L_203 (by decide) rfl (rest := []) rfl (Nat.le_of_ble_eq_true rfl) (dq 7 rfl) (by constructor <;> (simp only [rmk, room_1]; omega)) ?_
  refine a_istore K (dq 8 rfl) (Nat.le_of_ble_eq_true rfl) (ls' := [some (.ref b), some (.ref (ρ 0 0)), some (.ref (ρ 20 0)), some (.ref (ρ 30 0)), some (.ref (ρ 31 0)), some (.int i), some (.int r2.1), none, none]) rfl ?_
  refine a_aload_n K (dq 9 rfl) rfl rfl ?_
  refine a_aload_n K (dq 10 rfl) rfl rfl ?_
  refine a_iload K (dq 11 rfl) rfl ?_
  refine a_iconst K (dq 12 rfl) (v := 1) rfl ?_
  refine a_iadd K (dq 13 rfl) ?_
  obtain ⟨c3, h⟩ := ib_some h
  refine a_sld K hX hbl hbA c3 (dq 14 rfl) ?_
  obtain ⟨r4, h4, h⟩ := bnd h
  refine a_callVi K (s_X7_wouldChange S (xs (i + 1).toNatClampNeg) r2.2 r4 h4) v_20 rfl rfl cw_X7_wouldChange ml_L_205 (by decide) rfl (rest := []) rfl (Nat.le_of_ble_eq_true rfl) (dq 15 rfl) (by constructor <;> (simp only [rmk, room_1]; omega)) ?_
  refine a_istore K (dq 16 rfl) (Nat.le_of_ble_eq_true rfl) (ls' := [some (.ref b), some (.ref (ρ 0 0)), some (.ref (ρ 20 0)), some (.ref (ρ 30 0)), some (.ref (ρ 31 0)), some (.int i), some (.int r2.1), some (.int r4.1), none]) rfl ?_
  refine a_aload_n K (dq 17 rfl) rfl rfl ?_
  obtain ⟨r5, h5, h⟩ := bnd h
  refine a_callVi K (s_X7_thrown S  r4.2 r5 h5) v_20 rfl rfl cw_X7_thrown ml_L_147 (by decide) rfl (rest := []) rfl (Nat.le_of_ble_eq_true rfl) (dq 18 rfl) (by constructor <;> (simp only [rmk, room_1]; omega)) ?_
  refine a_iload K (dq 19 rfl) rfl ?_
  refine a_icmp_eq K (tgt := 1478) (dq 20 rfl) rfl (fun c6 => ?_) (fun c6 => ?_)
  · have h := ite_t c6 h
    refine a_iload K (dq 21 rfl) rfl ?_
    refine a_if_ne K (tgt := 1495) (dq 22 rfl) rfl (fun c7 => ?_) (fun c7 => ?_)
    · have h := ite_f c7 h
      refine a_goto K (tgt := 2476) (dq 23 rfl) rfl ?_
      obtain rfl := Option.some.inj h
      refine a_le2 (ls' := [some (.ref b), some (.ref (ρ 0 0)), some (.ref (ρ 20 0)), some (.ref (ρ 30 0)), some (.ref (ρ 31 0)), some (.int i), none, none, none]) ⟨rfl, rfl, rfl, rfl, rfl, rfl, trivial⟩ ?_
      exact hk _ _ (by simp only [rmk]; omega) (by simp only [rmk]; omega)
    · have h := ite_t c7 h
      refine a_aload_n K (dq 24 rfl) rfl rfl ?_
      refine a_iconst K (dq 25 rfl) (v := 0) rfl ?_
      refine a_lald K (dq 26 rfl) ?_
      refine a_iload K (dq 27 rfl) rfl ?_
      refine a_i2l K (dq 28 rfl) ?_
      refine a_lcmp K (dq 29 rfl) ?_
      refine a_if_eq K (tgt := 1495) (dq 30 rfl) rfl (fun c8 => ?_) (fun c8 => ?_)
      · have h := ite_t c8 h
        refine a_goto K (tgt := 2476) (dq 23 rfl) rfl ?_
        obtain rfl := Option.some.inj h
        refine a_le2 (ls' := [some (.ref b), some (.ref (ρ 0 0)), some (.ref (ρ 20 0)), some (.ref (ρ 30 0)), some (.ref (ρ 31 0)), some (.int i), none, none, none]) ⟨rfl, rfl, rfl, rfl, rfl, rfl, trivial⟩ ?_
        exact hk _ _ (by simp only [rmk]; omega) (by simp only [rmk]; omega)
      · have h := ite_f c8 h
        refine a_iconst K (dq 31 rfl) (v := 0) rfl ?_
        cases h
  · have h := ite_f c6 h
    refine a_iconst K (dq 33 rfl) (v := 0) rfl ?_
    cases h
def t_lc_19 : List (Nat × Instr × Nat) := [(1498, .aload_n 1, 1), (1499, .invokevirtual 206, 3), (1502, .aload_n 2, 1), (1503, .invokevirtual 209, 3), (1506, .if_icmp .eq 970, 3), (1509, .iconst 0, 1), (1510, .ireturn, 1)]
theorem dt_lc_19 : tblOK code t_lc_19 = true := by decide +kernel
def p_lc_19 (xs : Nat → Int32) (L : Nat) (i : Int32) (σ : Sg) : Option Sg := (p_X6_trees  σ).bind fun r1 => (p_X7_trees  σ).bind fun r2 => if r1 = r2.1 then (some r2.2) else (none)
set_option maxRecDepth 20000 in
set_option maxHeartbeats 1000000 in
theorem s_lc_19 {l : Launch} {D : va_G} {ty : Nat → ClassId} {ρ : Nat → Nat → Nat} {N0 : Nat} (S : St l ty ρ N0) {xs : Nat → Int32} {L b : Nat} (i : Int32) (σ σ9 : Sg) (h : p_lc_19 xs L i σ = some σ9) {p : Program} {e : Env} {s : State} {m : MethodId} {args : Array Value} {below : List Frame} {meth : Method} {c : Code} {Q : State → Prop} (K : Cx p l s m args meth c code 9 RL ret D ty ρ N0) (hX : va_X b L xs s s.heap) (hbl : b < s.heap.size) (hbA : ¬ N0 ≤ b) {cs ss : Nat} (hcs : cs + 20 ≤ 603072) (hss : ss + 120 ≤ 7207018) (hk : ∀ c9 s9, c9 ≤ cs + 20 → s9 ≤ ss + 120 → WA p l e room_1 s m args below meth c D ty ρ N0 9 Q 2476 [some (.ref b), some (.ref (ρ 0 0)), some (.ref (ρ 20 0)), some (.ref (ρ 30 0)), some (.ref (ρ 31 0)), some (.int i), none, none, none] [] σ9 c9 s9) : WA p l e room_1 s m args below meth c D ty ρ N0 9 Q 1498 [some (.ref b), some (.ref (ρ 0 0)), some (.ref (ρ 20 0)), some (.ref (ρ 30 0)), some (.ref (ρ 31 0)), some (.int i), none, none, none] [] σ cs ss := by
  have dq := @tat _ _ dt_lc_19
  unfold p_lc_19 at h
  refine a_aload_n K (dq 0 rfl) rfl rfl ?_
  obtain ⟨r1, h1, h⟩ := bnd h
  refine a_callVi K (s_X6_trees S  σ r1 h1) v_0 rfl rfl cw_X6_trees ml_L_206 (by decide) rfl (rest := []) rfl (Nat.le_of_ble_eq_true rfl) (dq 1 rfl) (by constructor <;> (simp only [rmk, room_1]; omega)) ?_
  refine a_aload_n K (dq 2 rfl) rfl rfl ?_
  obtain ⟨r2, h2, h⟩ := bnd h
  refine a_callVi K (s_X7_trees S  σ r2 h2) v_20 rfl rfl cw_X7_trees ml_L_209 (by decide) rfl (rest := [.int r1]) rfl (Nat.le_of_ble_eq_true rfl) (dq 3 rfl) (by constructor <;> (simp only [rmk, room_1]; omega)) ?_
  refine a_icmp_eq K (tgt := 2476) (dq 4 rfl) rfl (fun c3 => ?_) (fun c3 => ?_)
  · have h := ite_t c3 h
    obtain rfl := Option.some.inj h
    refine a_le2 (ls' := [some (.ref b), some (.ref (ρ 0 0)), some (.ref (ρ 20 0)), some (.ref (ρ 30 0)), some (.ref (ρ 31 0)), some (.int i), none, none, none]) ⟨rfl, rfl, rfl, rfl, rfl, rfl, trivial⟩ ?_
    exact hk _ _ (by simp only [rmk]; omega) (by simp only [rmk]; omega)
  · have h := ite_f c3 h
    refine a_iconst K (dq 5 rfl) (v := 0) rfl ?_
    cases h
def t_lc_20 : List (Nat × Instr × Nat) := [(1511, .aload_n 1, 1), (1512, .aload_n 0, 1), (1513, .iload 5, 2), (1515, .iconst 1, 1), (1516, .iadd, 1), (1517, .iaload, 1), (1518, .aload_n 3, 1), (1519, .invokestatic 210, 3), (1522, .istore 6, 2), (1524, .aload_n 2, 1), (1525, .aload_n 0, 1), (1526, .iload 5, 2), (1528, .iconst 1, 1), (1529, .iadd, 1), (1530, .iaload, 1), (1531, .invokevirtual 212, 3), (1534, .istore 7, 2), (1536, .aload_n 2, 1), (1537, .invokevirtual 147, 3), (1540, .iload 6, 2), (1542, .if_icmp .eq 5, 3), (1547, .iload 6, 2), (1549, .ifCond .ne 15, 3), (1564, .goto 912, 3), (1552, .aload_n 3, 1), (1553, .iconst 0, 1), (1554, .laload, 1), (1555, .iload 7, 2), (1557, .i2l, 1), (1558, .lcmp, 1), (1559, .ifCond .eq 5, 3), (1562, .iconst 0, 1), (1563, .ireturn, 1), (1545, .iconst 0, 1), (1546, .ireturn, 1)]
theorem dt_lc_20 : tblOK code t_lc_20 = true := by decide +kernel
def p_lc_20 (xs : Nat → Int32) (L : Nat) (i : Int32) (σ : Sg) : Option Sg := if ib (i + 1) L then ((p_L_size (xs (i + 1).toNatClampNeg) σ).bind fun r2 => if ib (i + 1) L then ((p_X7_size (xs (i + 1).toNatClampNeg) r2.2).bind fun r4 => (p_X7_thrown  r4.2).bind fun r5 => if r5 = r2.1 then (if r2.1 = 0 then (if (lg_cmp (gL r4.2) r4.1.toInt64) = 0 then (some r4.2) else (none)) else (some r4.2)) else (none)) else none) else none
set_option maxRecDepth 20000 in
set_option maxHeartbeats 1000000 in
theorem s_lc_20 {l : Launch} {D : va_G} {ty : Nat → ClassId} {ρ : Nat → Nat → Nat} {N0 : Nat} (S : St l ty ρ N0) {xs : Nat → Int32} {L b : Nat} (i : Int32) (σ σ9 : Sg) (h : p_lc_20 xs L i σ = some σ9) {p : Program} {e : Env} {s : State} {m : MethodId} {args : Array Value} {below : List Frame} {meth : Method} {c : Code} {Q : State → Prop} (K : Cx p l s m args meth c code 9 RL ret D ty ρ N0) (hX : va_X b L xs s s.heap) (hbl : b < s.heap.size) (hbA : ¬ N0 ≤ b) {cs ss : Nat} (hcs : cs + 20 ≤ 603072) (hss : ss + 120 ≤ 7207018) (hk : ∀ c9 s9, c9 ≤ cs + 20 → s9 ≤ ss + 120 → WA p l e room_1 s m args below meth c D ty ρ N0 9 Q 2476 [some (.ref b), some (.ref (ρ 0 0)), some (.ref (ρ 20 0)), some (.ref (ρ 30 0)), some (.ref (ρ 31 0)), some (.int i), none, none, none] [] σ9 c9 s9) : WA p l e room_1 s m args below meth c D ty ρ N0 9 Q 1511 [some (.ref b), some (.ref (ρ 0 0)), some (.ref (ρ 20 0)), some (.ref (ρ 30 0)), some (.ref (ρ 31 0)), some (.int i), none, none, none] [] σ cs ss := by
  have dq := @tat _ _ dt_lc_20
  unfold p_lc_20 at h
  refine a_aload_n K (dq 0 rfl) rfl rfl ?_
  refine a_aload_n K (dq 1 rfl) rfl rfl ?_
  refine a_iload K (dq 2 rfl) rfl ?_
  refine a_iconst K (dq 3 rfl) (v := 1) rfl ?_
  refine a_iadd K (dq 4 rfl) ?_
  obtain ⟨c1, h⟩ := ib_some h
  refine a_sld K hX hbl hbA c1 (dq 5 rfl) ?_
  refine a_aload_n K (dq 6 rfl) rfl rfl ?_
  obtain ⟨r2, h2, h⟩ := bnd h
  refine a_callH K (s_L_size S (xs (i + 1).toNatClampNeg) σ r2 h2) cw_L_size mh_L_210 (by decide) rfl (rest := []) rfl (Nat.le_of_ble_eq_true rfl) (dq 7 rfl) (by constructor <;> (simp only [rmk, room_1]; omega)) ?_
  refine a_istore K (dq 8 rfl) (Nat.le_of_ble_eq_true rfl) (ls' := [some (.ref b), some (.ref (ρ 0 0)), some (.ref (ρ 20 0)), some (.ref (ρ 30 0)), some (.ref (ρ 31 0)), some (.int i), some (.int r2.1), none, none]) rfl ?_
  refine a_aload_n K (dq 9 rfl) rfl rfl ?_
  refine a_aload_n K (dq 10 rfl) rfl rfl ?_
  refine a_iload K (dq 11 rfl) rfl ?_
  refine a_iconst K (dq 12 rfl) (v := 1) rfl ?_
  refine a_iadd K (dq 13 rfl) ?_
  obtain ⟨c3, h⟩ := ib_some h
  refine a_sld K hX hbl hbA c3 (dq 14 rfl) ?_
  obtain ⟨r4, h4, h⟩ := bnd h
  refine a_callVi K (s_X7_size S (xs (i + 1).toNatClampNeg) r2.2 r4 h4) v_20 rfl rfl cw_X7_size ml_L_212 (by decide) rfl (rest := []) rfl (Nat.le_of_ble_eq_true rfl) (dq 15 rfl) (by constructor <;> (simp only [rmk, room_1]; omega)) ?_
  refine a_istore K (dq 16 rfl) (Nat.le_of_ble_eq_true rfl) (ls' := [some (.ref b), some (.ref (ρ 0 0)), some (.ref (ρ 20 0)), some (.ref (ρ 30 0)), some (.ref (ρ 31 0)), some (.int i), some (.int r2.1), some (.int r4.1), none]) rfl ?_
  refine a_aload_n K (dq 17 rfl) rfl rfl ?_
  obtain ⟨r5, h5, h⟩ := bnd h
  refine a_callVi K (s_X7_thrown S  r4.2 r5 h5) v_20 rfl rfl cw_X7_thrown ml_L_147 (by decide) rfl (rest := []) rfl (Nat.le_of_ble_eq_true rfl) (dq 18 rfl) (by constructor <;> (simp only [rmk, room_1]; omega)) ?_
  refine a_iload K (dq 19 rfl) rfl ?_
  refine a_icmp_eq K (tgt := 1547) (dq 20 rfl) rfl (fun c6 => ?_) (fun c6 => ?_)
  · have h := ite_t c6 h
    refine a_iload K (dq 21 rfl) rfl ?_
    refine a_if_ne K (tgt := 1564) (dq 22 rfl) rfl (fun c7 => ?_) (fun c7 => ?_)
    · have h := ite_f c7 h
      refine a_goto K (tgt := 2476) (dq 23 rfl) rfl ?_
      obtain rfl := Option.some.inj h
      refine a_le2 (ls' := [some (.ref b), some (.ref (ρ 0 0)), some (.ref (ρ 20 0)), some (.ref (ρ 30 0)), some (.ref (ρ 31 0)), some (.int i), none, none, none]) ⟨rfl, rfl, rfl, rfl, rfl, rfl, trivial⟩ ?_
      exact hk _ _ (by simp only [rmk]; omega) (by simp only [rmk]; omega)
    · have h := ite_t c7 h
      refine a_aload_n K (dq 24 rfl) rfl rfl ?_
      refine a_iconst K (dq 25 rfl) (v := 0) rfl ?_
      refine a_lald K (dq 26 rfl) ?_
      refine a_iload K (dq 27 rfl) rfl ?_
      refine a_i2l K (dq 28 rfl) ?_
      refine a_lcmp K (dq 29 rfl) ?_
      refine a_if_eq K (tgt := 1564) (dq 30 rfl) rfl (fun c8 => ?_) (fun c8 => ?_)
      · have h := ite_t c8 h
        refine a_goto K (tgt := 2476) (dq 23 rfl) rfl ?_
        obtain rfl := Option.some.inj h
        refine a_le2 (ls' := [some (.ref b), some (.ref (ρ 0 0)), some (.ref (ρ 20 0)), some (.ref (ρ 30 0)), some (.ref (ρ 31 0)), some (.int i), none, none, none]) ⟨rfl, rfl, rfl, rfl, rfl, rfl, trivial⟩ ?_
        exact hk _ _ (by simp only [rmk]; omega) (by simp only [rmk]; omega)
      · have h := ite_f c8 h
        refine a_iconst K (dq 31 rfl) (v := 0) rfl ?_
        cases h
  · have h := ite_f c6 h
    refine a_iconst K (dq 33 rfl) (v := 0) rfl ?_
    cases h
