def t_lc_21 : List (Nat × Instr × Nat) := [(1567, .aload_n 1, 1), (1568, .aload_n 0, 1), (1569, .iload 5, 2), (1571, .iconst 1, 1), (1572, .iadd, 1), (1573, .iaload, 1), (1574, .aload_n 3, 1), (1575, .invokestatic 213, 3), (1578, .istore 6, 2), (1580, .aload_n 2, 1), (1581, .aload_n 0, 1), (1582, .iload 5, 2), (1584, .iconst 1, 1), (1585, .iadd, 1), (1586, .iaload, 1), (1587, .invokevirtual 215, 3), (1590, .istore 7, 2), (1592, .aload_n 2, 1), (1593, .invokevirtual 147, 3), (1596, .iload 6, 2), (1598, .if_icmp .eq 5, 3), (1603, .iload 6, 2), (1605, .ifCond .ne 15, 3), (1620, .goto 856, 3), (1608, .aload_n 3, 1), (1609, .iconst 0, 1), (1610, .laload, 1), (1611, .iload 7, 2), (1613, .i2l, 1), (1614, .lcmp, 1), (1615, .ifCond .eq 5, 3), (1618, .iconst 0, 1), (1619, .ireturn, 1), (1601, .iconst 0, 1), (1602, .ireturn, 1)]
theorem dt_lc_21 : tblOK code t_lc_21 = true := by decide +kernel
def p_lc_21 (xs : Nat → Int32) (L : Nat) (i : Int32) (σ : Sg) : Option Sg := if ib (i + 1) L then ((p_L_farthest (xs (i + 1).toNatClampNeg) σ).bind fun r2 => if ib (i + 1) L then ((p_X7_farthest (xs (i + 1).toNatClampNeg) r2.2).bind fun r4 => (p_X7_thrown  r4.2).bind fun r5 => if r5 = r2.1 then (if r2.1 = 0 then (if (lg_cmp (gL r4.2) r4.1.toInt64) = 0 then (some r4.2) else (none)) else (some r4.2)) else (none)) else none) else none
set_option maxRecDepth 20000 in
set_option maxHeartbeats 1000000 in
theorem s_lc_21 {l : Launch} {D : va_G} {ty : Nat → ClassId} {ρ : Nat → Nat → Nat} {N0 : Nat} (S : St l ty ρ N0) {xs : Nat → Int32} {L b : Nat} (i : Int32) (σ σ9 : Sg) (h : p_lc_21 xs L i σ = some σ9) {p : Program} {e : Env} {s : State} {m : MethodId} {args : Array Value} {below : List Frame} {meth : Method} {c : Code} {Q : State → Prop} (K : Cx p l s m args meth c code 9 RL ret D ty ρ N0) (hX : va_X b L xs s s.heap) (hbl : b < s.heap.size) (hbA : ¬ N0 ≤ b) {cs ss : Nat} (hcs : cs + 20 ≤ 603072) (hss : ss + 120 ≤ 7207018) (hk : ∀ c9 s9, c9 ≤ cs + 20 → s9 ≤ ss + 120 → WA p l e room_1 s m args below meth c D ty ρ N0 9 Q 2476 [some (.ref b), some (.ref (ρ 0 0)), some (.ref (ρ 20 0)), some (.ref (ρ 30 0)), some (.ref (ρ 31 0)), some (.int i), none, none, none] [] σ9 c9 s9) : WA p l e room_1 s m args below meth c D ty ρ N0 9 Q 1567 [some (.ref b), some (.ref (ρ 0 0)), some (.ref (ρ 20 0)), some (.ref (ρ 30 0)), some (.ref (ρ 31 0)), some (.int i), none, none, none] [] σ cs ss := by
  have dq := @tat _ _ dt_lc_21
  unfold p_lc_21 at h
  refine a_aload_n K (dq 0 rfl) rfl rfl ?_
  refine a_aload_n K (dq 1 rfl) rfl rfl ?_
  refine a_iload K (dq 2 rfl) rfl ?_
  refine a_iconst K (dq 3 rfl) (v := 1) rfl ?_
  refine a_iadd K (dq 4 rfl) ?_
  obtain ⟨c1, h⟩ := ib_some h
  refine a_sld K hX hbl hbA c1 (dq 5 rfl) ?_
  refine a_aload_n K (dq 6 rfl) rfl rfl ?_
  obtain ⟨r2, h2, h⟩ := bnd h
  refine a_callH K (s_L_farthest S (xs (i + 1).toNatClampNeg) σ r2 h2) cw_L_farthest mh_L_213 (by decide) rfl (rest := []) rfl (Nat.le_of_ble_eq_true rfl) (dq 7 rfl) (by constructor <;> (simp only [rmk, room_1]; omega)) ?_
  refine a_istore K (dq 8 rfl) (Nat.le_of_ble_eq_true rfl) (ls' := [some (.ref b), some (.ref (ρ 0 0)), some (.ref (ρ 20 0)), some (.ref (ρ 30 0)), some (.ref (ρ 31 0)), some (.int i), some (.int r2.1), none, none]) rfl ?_
  refine a_aload_n K (dq 9 rfl) rfl rfl ?_
  refine a_aload_n K (dq 10 rfl) rfl rfl ?_
  refine a_iload K (dq 11 rfl) rfl ?_
  refine a_iconst K (dq 12 rfl) (v := 1) rfl ?_
  refine a_iadd K (dq 13 rfl) ?_
  obtain ⟨c3, h⟩ := ib_some h
  refine a_sld K hX hbl hbA c3 (dq 14 rfl) ?_
  obtain ⟨r4, h4, h⟩ := bnd h
  refine a_callVi K (s_X7_farthest S (xs (i + 1).toNatClampNeg) r2.2 r4 h4) v_20 rfl rfl cw_X7_farthest ml_L_215 (by decide) rfl (rest := []) rfl (Nat.le_of_ble_eq_true rfl) (dq 15 rfl) (by constructor <;> (simp only [rmk, room_1]; omega)) ?_
  refine a_istore K (dq 16 rfl) (Nat.le_of_ble_eq_true rfl) (ls' := [some (.ref b), some (.ref (ρ 0 0)), some (.ref (ρ 20 0)), some (.ref (ρ 30 0)), some (.ref (ρ 31 0)), some (.int i), some (.int r2.1), some (.int r4.1), none]) rfl ?_
  refine a_aload_n K (dq 17 rfl) rfl rfl ?_
  obtain ⟨r5, h5, h⟩ := bnd h
  refine a_callVi K (s_X7_thrown S  r4.2 r5 h5) v_20 rfl rfl cw_X7_thrown ml_L_147 (by decide) rfl (rest := []) rfl (Nat.le_of_ble_eq_true rfl) (dq 18 rfl) (by constructor <;> (simp only [rmk, room_1]; omega)) ?_
  refine a_iload K (dq 19 rfl) rfl ?_
  refine a_icmp_eq K (tgt := 1603) (dq 20 rfl) rfl (fun c6 => ?_) (fun c6 => ?_)
  · have h := ite_t c6 h
    refine a_iload K (dq 21 rfl) rfl ?_
    refine a_if_ne K (tgt := 1620) (dq 22 rfl) rfl (fun c7 => ?_) (fun c7 => ?_)
    · have h := ite_f c7 h
      refine a_goto K (tgt := 2476) (dq 23 rfl) rfl ?_
      obtain rfl := Option.some.inj h
      refine a_le2 (ls' := [some (.ref b), some (.ref (ρ 0 0)), some (.ref (ρ 20 0)), some (.ref (ρ 30 0)), some (.ref (ρ 31 0)), some (.int i), none, none, none]) ⟨rfl, rfl, rfl, rfl, rfl, rfl, trivial⟩ ?_
      exact hk _ _ (by simp only [rmk]; omega) (by simp only [rmk]; omega)
    · have h := ite_t c7 h
      refine a_aload_n K (dq 24 rfl) rfl rfl ?_
      refine a_iconst K (dq 25 rfl) (v := 0) rfl ?_
      refine a_lald K (dq 26 rfl) ?_
      refine a_iload K (dq 27 rfl) rfl ?_
      refine a_i2l K (dq 28 rfl) ?_
      refine a_lcmp K (dq 29 rfl) ?_
      refine a_if_eq K (tgt := 1620) (dq 30 rfl) rfl (fun c8 => ?_) (fun c8 => ?_)
      · have h := ite_t c8 h
        refine a_goto K (tgt := 2476) (dq 23 rfl) rfl ?_
        obtain rfl := Option.some.inj h
        refine a_le2 (ls' := [some (.ref b), some (.ref (ρ 0 0)), some (.ref (ρ 20 0)), some (.ref (ρ 30 0)), some (.ref (ρ 31 0)), some (.int i), none, none, none]) ⟨rfl, rfl, rfl, rfl, rfl, rfl, trivial⟩ ?_
        exact hk _ _ (by simp only [rmk]; omega) (by simp only [rmk]; omega)
      · have h := ite_f c8 h
        refine a_iconst K (dq 31 rfl) (v := 0) rfl ?_
        cases h
  · have h := ite_f c6 h
    refine a_iconst K (dq 33 rfl) (v := 0) rfl ?_
    cases h
def t_lc_22 : List (Nat × Instr × Nat) := [(1623, .aload_n 1, 1), (1624, .aload_n 0, 1), (1625, .iload 5, 2), (1627, .iconst 1, 1), (1628, .iadd, 1), (1629, .iaload, 1), (1630, .aload_n 3, 1), (1631, .invokestatic 216, 3), (1634, .istore 6, 2), (1636, .aload_n 2, 1), (1637, .aload_n 0, 1), (1638, .iload 5, 2), (1640, .iconst 1, 1), (1641, .iadd, 1), (1642, .iaload, 1), (1643, .invokevirtual 218, 3), (1646, .istore 7, 2), (1648, .aload_n 2, 1), (1649, .invokevirtual 147, 3), (1652, .iload 6, 2), (1654, .if_icmp .eq 5, 3), (1659, .iload 6, 2), (1661, .ifCond .ne 15, 3), (1676, .goto 800, 3), (1664, .aload_n 3, 1), (1665, .iconst 0, 1), (1666, .laload, 1), (1667, .iload 7, 2), (1669, .i2l, 1), (1670, .lcmp, 1), (1671, .ifCond .eq 5, 3), (1674, .iconst 0, 1), (1675, .ireturn, 1), (1657, .iconst 0, 1), (1658, .ireturn, 1)]
theorem dt_lc_22 : tblOK code t_lc_22 = true := by decide +kernel
def p_lc_22 (xs : Nat → Int32) (L : Nat) (i : Int32) (σ : Sg) : Option Sg := if ib (i + 1) L then ((p_L_longest (xs (i + 1).toNatClampNeg) σ).bind fun r2 => if ib (i + 1) L then ((p_X7_longest (xs (i + 1).toNatClampNeg) r2.2).bind fun r4 => (p_X7_thrown  r4.2).bind fun r5 => if r5 = r2.1 then (if r2.1 = 0 then (if (lg_cmp (gL r4.2) r4.1.toInt64) = 0 then (some r4.2) else (none)) else (some r4.2)) else (none)) else none) else none
set_option maxRecDepth 20000 in
set_option maxHeartbeats 1000000 in
theorem s_lc_22 {l : Launch} {D : va_G} {ty : Nat → ClassId} {ρ : Nat → Nat → Nat} {N0 : Nat} (S : St l ty ρ N0) {xs : Nat → Int32} {L b : Nat} (i : Int32) (σ σ9 : Sg) (h : p_lc_22 xs L i σ = some σ9) {p : Program} {e : Env} {s : State} {m : MethodId} {args : Array Value} {below : List Frame} {meth : Method} {c : Code} {Q : State → Prop} (K : Cx p l s m args meth c code 9 RL ret D ty ρ N0) (hX : va_X b L xs s s.heap) (hbl : b < s.heap.size) (hbA : ¬ N0 ≤ b) {cs ss : Nat} (hcs : cs + 20 ≤ 603072) (hss : ss + 120 ≤ 7207018) (hk : ∀ c9 s9, c9 ≤ cs + 20 → s9 ≤ ss + 120 → WA p l e room_1 s m args below meth c D ty ρ N0 9 Q 2476 [some (.ref b), some (.ref (ρ 0 0)), some (.ref (ρ 20 0)), some (.ref (ρ 30 0)), some (.ref (ρ 31 0)), some (.int i), none, none, none] [] σ9 c9 s9) : WA p l e room_1 s m args below meth c D ty ρ N0 9 Q 1623 [some (.ref b), some (.ref (ρ 0 0)), some (.ref (ρ 20 0)), some (.ref (ρ 30 0)), some (.ref (ρ 31 0)), some (.int i), none, none, none] [] σ cs ss := by
  have dq := @tat _ _ dt_lc_22
  unfold p_lc_22 at h
  refine a_aload_n K (dq 0 rfl) rfl rfl ?_
  refine a_aload_n K (dq 1 rfl) rfl rfl ?_
  refine a_iload K (dq 2 rfl) rfl ?_
  refine a_iconst K (dq 3 rfl) (v := 1) rfl ?_
  refine a_iadd K (dq 4 rfl) ?_
  obtain ⟨c1, h⟩ := ib_some h
  refine a_sld K hX hbl hbA c1 (dq 5 rfl) ?_
  refine a_aload_n K (dq 6 rfl) rfl rfl ?_
  obtain ⟨r2, h2, h⟩ := bnd h
  refine a_callH K (s_L_longest S (xs (i + 1).toNatClampNeg) σ r2 h2) cw_L_longest mh_L_216 (by decide) rfl (rest := []) rfl (Nat.le_of_ble_eq_true rfl) (dq 7 rfl) (by constructor <;> (simp only [rmk, room_1]; omega)) ?_
  refine a_istore K (dq 8 rfl) (Nat.le_of_ble_eq_true rfl) (ls' := [some (.ref b), some (.ref (ρ 0 0)), some (.ref (ρ 20 0)), some (.ref (ρ 30 0)), some (.ref (ρ 31 0)), some (.int i), some (.int r2.1), none, none]) rfl ?_
  refine a_aload_n K (dq 9 rfl) rfl rfl ?_
  refine a_aload_n K (dq 10 rfl) rfl rfl ?_
  refine a_iload K (dq 11 rfl) rfl ?_
  refine a_iconst K (dq 12 rfl) (v := 1) rfl ?_
  refine a_iadd K (dq 13 rfl) ?_
  obtain ⟨c3, h⟩ := ib_some h
  refine a_sld K hX hbl hbA c3 (dq 14 rfl) ?_
  obtain ⟨r4, h4, h⟩ := bnd h
  refine a_callVi K (s_X7_longest S (xs (i + 1).toNatClampNeg) r2.2 r4 h4) v_20 rfl rfl cw_X7_longest ml_L_218 (by decide) rfl (rest := []) rfl (Nat.le_of_ble_eq_true rfl) (dq 15 rfl) (by constructor <;> (simp only [rmk, room_1]; omega)) ?_
  refine a_istore K (dq 16 rfl) (Nat.le_of_ble_eq_true rfl) (ls' := [some (.ref b), some (.ref (ρ 0 0)), some (.ref (ρ 20 0)), some (.ref (ρ 30 0)), some (.ref (ρ 31 0)), some (.int i), some (.int r2.1), some (.int r4.1), none]) rfl ?_
  refine a_aload_n K (dq 17 rfl) rfl rfl ?_
  obtain ⟨r5, h5, h⟩ := bnd h
  refine a_callVi K (s_X7_thrown S  r4.2 r5 h5) v_20 rfl rfl cw_X7_thrown ml_L_147 (by decide) rfl (rest := []) rfl (Nat.le_of_ble_eq_true rfl) (dq 18 rfl) (by constructor <;> (simp only [rmk, room_1]; omega)) ?_
  refine a_iload K (dq 19 rfl) rfl ?_
  refine a_icmp_eq K (tgt := 1659) (dq 20 rfl) rfl (fun c6 => ?_) (fun c6 => ?_)
  · have h := ite_t c6 h
    refine a_iload K (dq 21 rfl) rfl ?_
    refine a_if_ne K (tgt := 1676) (dq 22 rfl) rfl (fun c7 => ?_) (fun c7 => ?_)
    · have h := ite_f c7 h
      refine a_goto K (tgt := 2476) (dq 23 rfl) rfl ?_
      obtain rfl := Option.some.inj h
      refine a_le2 (ls' := [some (.ref b), some (.ref (ρ 0 0)), some (.ref (ρ 20 0)), some (.ref (ρ 30 0)), some (.ref (ρ 31 0)), some (.int i), none, none, none]) ⟨rfl, rfl, rfl, rfl, rfl, rfl, trivial⟩ ?_
      exact hk _ _ (by simp only [rmk]; omega) (by simp only [rmk]; omega)
    · have h := ite_t c7 h
      refine a_aload_n K (dq 24 rfl) rfl rfl ?_
      refine a_iconst K (dq 25 rfl) (v := 0) rfl ?_
      refine a_lald K (dq 26 rfl) ?_
      refine a_iload K (dq 27 rfl) rfl ?_
      refine a_i2l K (dq 28 rfl) ?_
      refine a_lcmp K (dq 29 rfl) ?_
      refine a_if_eq K (tgt := 1676) (dq 30 rfl) rfl (fun c8 => ?_) (fun c8 => ?_)
      · have h := ite_t c8 h
        refine a_goto K (tgt := 2476) (dq 23 rfl) rfl ?_
        obtain rfl := Option.some.inj h
        refine a_le2 (ls' := [some (.ref b), some (.ref (ρ 0 0)), some (.ref (ρ 20 0)), some (.ref (ρ 30 0)), some (.ref (ρ 31 0)), some (.int i), none, none, none]) ⟨rfl, rfl, rfl, rfl, rfl, rfl, trivial⟩ ?_
        exact hk _ _ (by simp only [rmk]; omega) (by simp only [rmk]; omega)
      · have h := ite_f c8 h
        refine a_iconst K (dq 31 rfl) (v := 0) rfl ?_
        cases h
  · have h := ite_f c6 h
    refine a_iconst K (dq 33 rfl) (v := 0) rfl ?_
    cases h
def t_lc_23 : List (Nat × Instr × Nat) := [(1679, .aload_n 1, 1), (1680, .aload_n 0, 1), (1681, .iload 5, 2), (1683, .iconst 1, 1), (1684, .iadd, 1), (1685, .iaload, 1), (1686, .aload_n 0, 1), (1687, .iload 5, 2), (1689, .iconst 2, 1), (1690, .iadd, 1), (1691, .iaload, 1), (1692, .aload_n 3, 1), (1693, .invokestatic 219, 3), (1696, .istore 6, 2), (1698, .aload_n 2, 1), (1699, .aload_n 0, 1), (1700, .iload 5, 2), (1702, .iconst 1, 1), (1703, .iadd, 1), (1704, .iaload, 1), (1705, .aload_n 0, 1), (1706, .iload 5, 2), (1708, .iconst 2, 1), (1709, .iadd, 1), (1710, .iaload, 1), (1711, .invokevirtual 221, 3), (1714, .istore 7, 2), (1716, .aload_n 2, 1), (1717, .invokevirtual 147, 3), (1720, .iload 6, 2), (1722, .if_icmp .eq 5, 3), (1727, .iload 6, 2), (1729, .ifCond .ne 15, 3), (1744, .goto 732, 3), (1732, .aload_n 3, 1), (1733, .iconst 0, 1), (1734, .laload, 1), (1735, .iload 7, 2), (1737, .i2l, 1), (1738, .lcmp, 1), (1739, .ifCond .eq 5, 3), (1742, .iconst 0, 1), (1743, .ireturn, 1), (1725, .iconst 0, 1), (1726, .ireturn, 1)]
theorem dt_lc_23 : tblOK code t_lc_23 = true := by decide +kernel
def p_lc_23 (xs : Nat → Int32) (L : Nat) (i : Int32) (σ : Sg) : Option Sg := if ib (i + 1) L then (if ib (i + 2) L then ((p_L_wouldSplit (xs (i + 1).toNatClampNeg) (xs (i + 2).toNatClampNeg) σ).bind fun r3 => if ib (i + 1) L then (if ib (i + 2) L then ((p_X7_wouldSplit (xs (i + 1).toNatClampNeg) (xs (i + 2).toNatClampNeg) r3.2).bind fun r6 => (p_X7_thrown  r6.2).bind fun r7 => if r7 = r3.1 then (if r3.1 = 0 then (if (lg_cmp (gL r6.2) r6.1.toInt64) = 0 then (some r6.2) else (none)) else (some r6.2)) else (none)) else none) else none) else none) else none
set_option maxRecDepth 20000 in
set_option maxHeartbeats 1000000 in
theorem s_lc_23 {l : Launch} {D : va_G} {ty : Nat → ClassId} {ρ : Nat → Nat → Nat} {N0 : Nat} (S : St l ty ρ N0) {xs : Nat → Int32} {L b : Nat} (i : Int32) (σ σ9 : Sg) (h : p_lc_23 xs L i σ = some σ9) {p : Program} {e : Env} {s : State} {m : MethodId} {args : Array Value} {below : List Frame} {meth : Method} {c : Code} {Q : State → Prop} (K : Cx p l s m args meth c code 9 RL ret D ty ρ N0) (hX : va_X b L xs s s.heap) (hbl : b < s.heap.size) (hbA : ¬ N0 ≤ b) {cs ss : Nat} (hcs : cs + 20 ≤ 603072) (hss : ss + 120 ≤ 7207018) (hk : ∀ c9 s9, c9 ≤ cs + 20 → s9 ≤ ss + 120 → WA p l e room_1 s m args below meth c D ty ρ N0 9 Q 2476 [some (.ref b), some (.ref (ρ 0 0)), some (.ref (ρ 20 0)), some (.ref (ρ 30 0)), some (.ref (ρ 31 0)), some (.int i), none, none, none] [] σ9 c9 s9) : WA p l e room_1 s m args below meth c D ty ρ N0 9 Q 1679 [some (.ref b), some (.ref (ρ 0 0)), some (.ref (ρ 20 0)), some (.ref (ρ 30 0)), some (.ref (ρ 31 0)), some (.int i), none, none, none] [] σ cs ss := by
  have dq := @tat _ _ dt_lc_23
  unfold p_lc_23 at h
  refine a_aload_n K (dq 0 rfl) rfl rfl ?_
  refine a_aload_n K (dq 1 rfl) rfl rfl ?_
  refine a_iload K (dq 2 rfl) rfl ?_
  refine a_iconst K (dq 3 rfl) (v := 1) rfl ?_
  refine a_iadd K (dq 4 rfl) ?_
  obtain ⟨c1, h⟩ := ib_some h
  refine a_sld K hX hbl hbA c1 (dq 5 rfl) ?_
  refine a_aload_n K (dq 6 rfl) rfl rfl ?_
  refine a_iload K (dq 7 rfl) rfl ?_
  refine a_iconst K (dq 8 rfl) (v := 2) rfl ?_
  refine a_iadd K (dq 9 rfl) ?_
  obtain ⟨c2, h⟩ := ib_some h
  refine a_sld K hX hbl hbA c2 (dq 10 rfl) ?_
  refine a_aload_n K (dq 11 rfl) rfl rfl ?_
  obtain ⟨r3, h3, h⟩ := bnd h
  refine a_callH K (s_L_wouldSplit S (xs (i + 1).toNatClampNeg) (xs (i + 2).toNatClampNeg) σ r3 h3) cw_L_wouldSplit mh_L_219 (by decide) rfl (rest := []) rfl (Nat.le_of_ble_eq_true rfl) (dq 12 rfl) (by constructor <;> (simp only [rmk, room_1]; omega)) ?_
  refine a_istore K (dq 13 rfl) (Nat.le_of_ble_eq_true rfl) (ls' := [some (.ref b), some (.ref (ρ 0 0)), some (.ref (ρ 20 0)), some (.ref (ρ 30 0)), some (.ref (ρ 31 0)), some (.int i), some (.int r3.1), none, none]) rfl ?_
  refine a_aload_n K (dq 14 rfl) rfl rfl ?_
  refine a_aload_n K (dq 15 rfl) rfl rfl ?_
  refine a_iload K (dq 16 rfl) rfl ?_
  refine a_iconst K (dq 17 rfl) (v := 1) rfl ?_
  refine a_iadd K (dq 18 rfl) ?_
  obtain ⟨c4, h⟩ := ib_some h
  refine a_sld K hX hbl hbA c4 (dq 19 rfl) ?_
  refine a_aload_n K (dq 20 rfl) rfl rfl ?_
  refine a_iload K (dq 21 rfl) rfl ?_
  refine a_iconst K (dq 22 rfl) (v := 2) rfl ?_
  refine a_iadd K (dq 23 rfl) ?_
  obtain ⟨c5, h⟩ := ib_some h
  refine a_sld K hX hbl hbA c5 (dq 24 rfl) ?_
  obtain ⟨r6, h6, h⟩ := bnd h
  refine a_callVi K (s_X7_wouldSplit S (xs (i + 1).toNatClampNeg) (xs (i + 2).toNatClampNeg) r3.2 r6 h6) v_20 rfl rfl cw_X7_wouldSplit ml_L_221 (by decide) rfl (rest := []) rfl (Nat.le_of_ble_eq_true rfl) (dq 25 rfl) (by constructor <;> (simp only [rmk, room_1]; omega)) ?_
  refine a_istore K (dq 26 rfl) (Nat.le_of_ble_eq_true rfl) (ls' := [some (.ref b), some (.ref (ρ 0 0)), some (.ref (ρ 20 0)), some (.ref (ρ 30 0)), some (.ref (ρ 31 0)), some (.int i), some (.int r3.1), some (.int r6.1), none]) rfl ?_
  refine a_aload_n K (dq 27 rfl) rfl rfl ?_
  obtain ⟨r7, h7, h⟩ := bnd h
  refine a_callVi K (s_X7_thrown S  r6.2 r7 h7) v_20 rfl rfl cw_X7_thrown ml_L_147 (by decide) rfl (rest := []) rfl (Nat.le_of_ble_eq_true rfl) (dq 28 rfl) (by constructor <;> (simp only [rmk, room_1]; omega)) ?_
  refine a_iload K (dq 29 rfl) rfl ?_
  refine a_icmp_eq K (tgt := 1727) (dq 30 rfl) rfl (fun c8 => ?_) (fun c8 => ?_)
  · have h := ite_t c8 h
    refine a_iload K (dq 31 rfl) rfl ?_
    refine a_if_ne K (tgt := 1744) (dq 32 rfl) rfl (fun c9 => ?_) (fun c9 => ?_)
    · have h := ite_f c9 h
      refine a_goto K (tgt := 2476) (dq 33 rfl) rfl ?_
      obtain rfl := Option.some.inj h
      refine a_le2 (ls' := [some (.ref b), some (.ref (ρ 0 0)), some (.ref (ρ 20 0)), some (.ref (ρ 30 0)), some (.ref (ρ 31 0)), some (.int i), none, none, none]) ⟨rfl, rfl, rfl, rfl, rfl, rfl, trivial⟩ ?_
      exact hk _ _ (by simp only [rmk]; omega) (by simp only [rmk]; omega)
    · have h := ite_t c9 h
      refine a_aload_n K (dq 34 rfl) rfl rfl ?_
      refine a_iconst K (dq 35 rfl) (v := 0) rfl ?_
      refine a_lald K (dq 36 rfl) ?_
      refine a_iload K (dq 37 rfl) rfl ?_
      refine a_i2l K (dq 38 rfl) ?_
      refine a_lcmp K (dq 39 rfl) ?_
      refine a_if_eq K (tgt := 1744) (dq 40 rfl) rfl (fun c10 => ?_) (fun c10 => ?_)
      · have h := ite_t c10 h
        refine a_goto K (tgt := 2476) (dq 33 rfl) rfl ?_
        obtain rfl := Option.some.inj h
        refine a_le2 (ls' := [some (.ref b), some (.ref (ρ 0 0)), some (.ref (ρ 20 0)), some (.ref (ρ 30 0)), some (.ref (ρ 31 0)), some (.int i), none, none, none]) ⟨rfl, rfl, rfl, rfl, rfl, rfl, trivial⟩ ?_
        exact hk _ _ (by simp only [rmk]; omega) (by simp only [rmk]; omega)
      · have h := ite_f c10 h
        refine a_iconst K (dq 41 rfl) (v := 0) rfl ?_
        cases h
  · have h := ite_f c8 h
    refine a_iconst K (dq 43 rfl) (v := 0) rfl ?_
    cases h
def t_lc_24 : List (Nat × Instr × Nat) := [(1747, .aload_n 1, 1), (1748, .aload_n 0, 1), (1749, .iload 5, 2), (1751, .iconst 1, 1), (1752, .iadd, 1), (1753, .iaload, 1), (1754, .aload_n 3, 1), (1755, .invokestatic 222, 3), (1758, .istore 6, 2), (1760, .aload_n 2, 1), (1761, .aload_n 0, 1), (1762, .iload 5, 2), (1764, .iconst 1, 1), (1765, .iadd, 1), (1766, .iaload, 1), (1767, .invokevirtual 224, 3), (1770, .istore 7, 2), (1772, .aload_n 2, 1), (1773, .invokevirtual 147, 3), (1776, .iload 6, 2), (1778, .if_icmp .eq 5, 3), (1783, .iload 6, 2), (1785, .ifCond .ne 15, 3), (1800, .goto 676, 3), (1788, .aload_n 3, 1), (1789, .iconst 0, 1), (1790, .laload, 1), (1791, .iload 7, 2), (1793, .i2l, 1), (1794, .lcmp, 1), (1795, .ifCond .eq 5, 3), (1798, .iconst 0, 1), (1799, .ireturn, 1), (1781, .iconst 0, 1), (1782, .ireturn, 1)]
theorem dt_lc_24 : tblOK code t_lc_24 = true := by decide +kernel
def p_lc_24 (xs : Nat → Int32) (L : Nat) (i : Int32) (σ : Sg) : Option Sg := if ib (i + 1) L then ((p_L_drover (xs (i + 1).toNatClampNeg) σ).bind fun r2 => if ib (i + 1) L then ((p_X7_drover (xs (i + 1).toNatClampNeg) r2.2).bind fun r4 => (p_X7_thrown  r4.2).bind fun r5 => if r5 = r2.1 then (if r2.1 = 0 then (if (lg_cmp (gL r4.2) r4.1.toInt64) = 0 then (some r4.2) else (none)) else (some r4.2)) else (none)) else none) else none
set_option maxRecDepth 20000 in
set_option maxHeartbeats 1000000 in
theorem s_lc_24 {l : Launch} {D : va_G} {ty : Nat → ClassId} {ρ : Nat → Nat → Nat} {N0 : Nat} (S : St l ty ρ N0) {xs : Nat → Int32} {L b : Nat} (i : Int32) (σ σ9 : Sg) (h : p_lc_24 xs L i σ = some σ9) {p : Program} {e : Env} {s : State} {m : MethodId} {args : Array Value} {below : List Frame} {meth : Method} {c : Code} {Q : State → Prop} (K : Cx p l s m args meth c code 9 RL ret D ty ρ N0) (hX : va_X b L xs s s.heap) (hbl : b < s.heap.size) (hbA : ¬ N0 ≤ b) {cs ss : Nat} (hcs : cs + 20 ≤ 603072) (hss : ss + 120 ≤ 7207018) (hk : ∀ c9 s9, c9 ≤ cs + 20 → s9 ≤ ss + 120 → WA p l e room_1 s m args below meth c D ty ρ N0 9 Q 2476 [some (.ref b), some (.ref (ρ 0 0)), some (.ref (ρ 20 0)), some (.ref (ρ 30 0)), some (.ref (ρ 31 0)), some (.int i), none, none, none] [] σ9 c9 s9) : WA p l e room_1 s m args below meth c D ty ρ N0 9 Q 1747 [some (.ref b), some (.ref (ρ 0 0)), some (.ref (ρ 20 0)), some (.ref (ρ 30 0)), some (.ref (ρ 31 0)), some (.int i), none, none, none] [] σ cs ss := by
  have dq := @tat _ _ dt_lc_24
  unfold p_lc_24 at h
  refine a_aload_n K (dq 0 rfl) rfl rfl ?_
  refine a_aload_n K (dq 1 rfl) rfl rfl ?_
  refine a_iload K (dq 2 rfl) rfl ?_
  refine a_iconst K (dq 3 rfl) (v := 1) rfl ?_
  refine a_iadd K (dq 4 rfl) ?_
  obtain ⟨c1, h⟩ := ib_some h
  refine a_sld K hX hbl hbA c1 (dq 5 rfl) ?_
  refine a_aload_n K (dq 6 rfl) rfl rfl ?_
  obtain ⟨r2, h2, h⟩ := bnd h
  refine a_callH K (s_L_drover S (xs (i + 1).toNatClampNeg) σ r2 h2) cw_L_drover mh_L_222 (by decide) rfl (rest := []) rfl (Nat.le_of_ble_eq_true rfl) (dq 7 rfl) (by constructor <;> (simp only [rmk, room_1]; omega)) ?_
  refine a_istore K (dq 8 rfl) (Nat.le_of_ble_eq_true rfl) (ls' := [some (.ref b), some (.ref (ρ 0 0)), some (.ref (ρ 20 0)), some (.ref (ρ 30 0)), some (.ref (ρ 31 0)), some (.int i), some (.int r2.1), none, none]) rfl ?_
  refine a_aload_n K (dq 9 rfl) rfl rfl ?_
  refine a_aload_n K (dq 10 rfl) rfl rfl ?_
  refine a_iload K (dq 11 rfl) rfl ?_
  refine a_iconst K (dq 12 rfl) (v := 1) rfl ?_
  refine a_iadd K (dq 13 rfl) ?_
  obtain ⟨c3, h⟩ := ib_some h
  refine a_sld K hX hbl hbA c3 (dq 14 rfl) ?_
  obtain ⟨r4, h4, h⟩ := bnd h
  refine a_callVi K (s_X7_drover S (xs (i + 1).toNatClampNeg) r2.2 r4 h4) v_20 rfl rfl cw_X7_drover ml_L_224 (by decide) rfl (rest := []) rfl (Nat.le_of_ble_eq_true rfl) (dq 15 rfl) (by constructor <;> (simp only [rmk, room_1]; omega)) ?_
  refine a_istore K (dq 16 rfl) (Nat.le_of_ble_eq_true rfl) (ls' := [some (.ref b), some (.ref (ρ 0 0)), some (.ref (ρ 20 0)), some (.ref (ρ 30 0)), some (.ref (ρ 31 0)), some (.int i), some (.int r2.1), some (.int r4.1), none]) rfl ?_
  refine a_aload_n K (dq 17 rfl) rfl rfl ?_
  obtain ⟨r5, h5, h⟩ := bnd h
  refine a_callVi K (s_X7_thrown S  r4.2 r5 h5) v_20 rfl rfl cw_X7_thrown ml_L_147 (by decide) rfl (rest := []) rfl (Nat.le_of_ble_eq_true rfl) (dq 18 rfl) (by constructor <;> (simp only [rmk, room_1]; omega)) ?_
  refine a_iload K (dq 19 rfl) rfl ?_
  refine a_icmp_eq K (tgt := 1783) (dq 20 rfl) rfl (fun c6 => ?_) (fun c6 => ?_)
  · have h := ite_t c6 h
    refine a_iload K (dq 21 rfl) rfl ?_
    refine a_if_ne K (tgt := 1800) (dq 22 rfl) rfl (fun c7 => ?_) (fun c7 => ?_)
    · have h := ite_f c7 h
      refine a_goto K (tgt := 2476) (dq 23 rfl) rfl ?_
      obtain rfl := Option.some.inj h
      refine a_le2 (ls' := [some (.ref b), some (.ref (ρ 0 0)), some (.ref (ρ 20 0)), some (.ref (ρ 30 0)), some (.ref (ρ 31 0)), some (.int i), none, none, none]) ⟨rfl, rfl, rfl, rfl, rfl, rfl, trivial⟩ ?_
      exact hk _ _ (by simp only [rmk]; omega) (by simp only [rmk]; omega)
    · have h := ite_t c7 h
      refine a_aload_n K (dq 24 rfl) rfl rfl ?_
      refine a_iconst K (dq 25 rfl) (v := 0) rfl ?_
      refine a_lald K (dq 26 rfl) ?_
      refine a_iload K (dq 27 rfl) rfl ?_
      refine a_i2l K (dq 28 rfl) ?_
      refine a_lcmp K (dq 29 rfl) ?_
      refine a_if_eq K (tgt := 1800) (dq 30 rfl) rfl (fun c8 => ?_) (fun c8 => ?_)
      · have h := ite_t c8 h
        refine a_goto K (tgt := 2476) (dq 23 rfl) rfl ?_
        obtain rfl := Option.some.inj h
        refine a_le2 (ls' := [some (.ref b), some (.ref (ρ 0 0)), some (.ref (ρ 20 0)), some (.ref (ρ 30 0)), some (.ref (ρ 31 0)), some (.int i), none, none, none]) ⟨rfl, rfl, rfl, rfl, rfl, rfl, trivial⟩ ?_
        exact hk _ _ (by simp only [rmk]; omega) (by simp only [rmk]; omega)
      · have h := ite_f c8 h
        refine a_iconst K (dq 31 rfl) (v := 0) rfl ?_
        cases h
  · have h := ite_f c6 h
    refine a_iconst K (dq 33 rfl) (v := 0) rfl ?_
    cases h
def t_lc_25 : List (Nat × Instr × Nat) := [(1803, .aload_n 1, 1), (1804, .aload_n 0, 1), (1805, .iload 5, 2), (1807, .iconst 1, 1), (1808, .iadd, 1), (1809, .iaload, 1), (1810, .aload_n 3, 1), (1811, .invokestatic 225, 3), (1814, .istore 6, 2), (1816, .aload_n 2, 1), (1817, .aload_n 0, 1), (1818, .iload 5, 2), (1820, .iconst 1, 1), (1821, .iadd, 1), (1822, .iaload, 1), (1823, .invokevirtual 227, 3), (1826, .istore 7, 2), (1828, .aload_n 2, 1), (1829, .invokevirtual 147, 3), (1832, .iload 6, 2), (1834, .if_icmp .eq 5, 3), (1839, .iload 6, 2), (1841, .ifCond .ne 15, 3), (1856, .goto 620, 3), (1844, .aload_n 3, 1), (1845, .iconst 0, 1), (1846, .laload, 1), (1847, .iload 7, 2), (1849, .i2l, 1), (1850, .lcmp, 1), (1851, .ifCond .eq 5, 3), (1854, .iconst 0, 1), (1855, .ireturn, 1), (1837, .iconst 0, 1), (1838, .ireturn, 1)]
theorem dt_lc_25 : tblOK code t_lc_25 = true := by decide +kernel
def p_lc_25 (xs : Nat → Int32) (L : Nat) (i : Int32) (σ : Sg) : Option Sg := if ib (i + 1) L then ((p_L_ranked (xs (i + 1).toNatClampNeg) σ).bind fun r2 => if ib (i + 1) L then ((p_X7_ranked (xs (i + 1).toNatClampNeg) r2.2).bind fun r4 => (p_X7_thrown  r4.2).bind fun r5 => if r5 = r2.1 then (if r2.1 = 0 then (if (lg_cmp (gL r4.2) r4.1.toInt64) = 0 then (some r4.2) else (none)) else (some r4.2)) else (none)) else none) else none
set_option maxRecDepth 20000 in
set_option maxHeartbeats 1000000 in
theorem s_lc_25 {l : Launch} {D : va_G} {ty : Nat → ClassId} {ρ : Nat → Nat → Nat} {N0 : Nat} (S : St l ty ρ N0) {xs : Nat → Int32} {L b : Nat} (i : Int32) (σ σ9 : Sg) (h : p_lc_25 xs L i σ = some σ9) {p : Program} {e : Env} {s : State} {m : MethodId} {args : Array Value} {below : List Frame} {meth : Method} {c : Code} {Q : State → Prop} (K : Cx p l s m args meth c code 9 RL ret D ty ρ N0) (hX : va_X b L xs s s.heap) (hbl : b < s.heap.size) (hbA : ¬ N0 ≤ b) {cs ss : Nat} (hcs : cs + 20 ≤ 603072) (hss : ss + 120 ≤ 7207018) (hk : ∀ c9 s9, c9 ≤ cs + 20 → s9 ≤ ss + 120 → WA p l e room_1 s m args below meth c D ty ρ N0 9 Q 2476 [some (.ref b), some (.ref (ρ 0 0)), some (.ref (ρ 20 0)), some (.ref (ρ 30 0)), some (.ref (ρ 31 0)), some (.int i), none, none, none] [] σ9 c9 s9) : WA p l e room_1 s m args below meth c D ty ρ N0 9 Q 1803 [some (.ref b), some (.ref (ρ 0 0)), some (.ref (ρ 20 0)), some (.ref (ρ 30 0)), some (.ref (ρ 31 0)), some (.int i), none, none, none] [] σ cs ss := by
  have dq := @tat _ _ dt_lc_25
  unfold p_lc_25 at h
  refine a_aload_n K (dq 0 rfl) rfl rfl ?_
  refine a_aload_n K (dq 1 rfl) rfl rfl ?_
  refine a_iload K (dq 2 rfl) rfl ?_
  refine a_iconst K (dq 3 rfl) (v := 1) rfl ?_
  refine a_iadd K (dq 4 rfl) ?_
  obtain ⟨c1, h⟩ := ib_some h
  refine a_sld K hX hbl hbA c1 (dq 5 rfl) ?_
  refine a_aload_n K (dq 6 rfl) rfl rfl ?_
  obtain ⟨r2, h2, h⟩ := bnd h
  refine a_callH K (s_L_ranked S (xs (i + 1).toNatClampNeg) σ r2 h2) cw_L_ranked mh_L_225 (by decide) rfl (rest := []) rfl (Nat.le_of_ble_eq_true rfl) (dq 7 rfl) (by constructor <;> (simp only [rmk, room_1]; omega)) ?_
  refine a_istore K (dq 8 rfl) (Nat.le_of_ble_eq_true rfl) (ls' := [some (.ref b), some (.ref (ρ 0 0)), some (.ref (ρ 20 0)), some (.ref (ρ 30 0)), some (.ref (ρ 31 0)), some (.int i), some (.int r2.1), none, none]) rfl ?_
  refine a_aload_n K (dq 9 rfl) rfl rfl ?_
  refine a_aload_n K (dq 10 rfl) rfl rfl ?_
  refine a_iload K (dq 11 rfl) rfl ?_
  refine a_iconst K (dq 12 rfl) (v := 1) rfl ?_
  refine a_iadd K (dq 13 rfl) ?_
  obtain ⟨c3, h⟩ := ib_some h
  refine a_sld K hX hbl hbA c3 (dq 14 rfl) ?_
  obtain ⟨r4, h4, h⟩ := bnd h
  refine a_callVi K (s_X7_ranked S (xs (i + 1).toNatClampNeg) r2.2 r4 h4) v_20 rfl rfl cw_X7_ranked ml_L_227 (by decide) rfl (rest := []) rfl (Nat.le_of_ble_eq_true rfl) (dq 15 rfl) (by constructor <;> (simp only [rmk, room_1]; omega)) ?_
  refine a_istore K (dq 16 rfl) (Nat.le_of_ble_eq_true rfl) (ls' := [some (.ref b), some (.ref (ρ 0 0)), some (.ref (ρ 20 0)), some (.ref (ρ 30 0)), some (.ref (ρ 31 0)), some (.int i), some (.int r2.1), some (.int r4.1), none]) rfl ?_
  refine a_aload_n K (dq 17 rfl) rfl rfl ?_
  obtain ⟨r5, h5, h⟩ := bnd h
  refine a_callVi K (s_X7_thrown S  r4.2 r5 h5) v_20 rfl rfl cw_X7_thrown ml_L_147 (by decide) rfl (rest := []) rfl (Nat.le_of_ble_eq_true rfl) (dq 18 rfl) (by constructor <;> (simp only [rmk, room_1]; omega)) ?_
  refine a_iload K (dq 19 rfl) rfl ?_
  refine a_icmp_eq K (tgt := 1839) (dq 20 rfl) rfl (fun c6 => ?_) (fun c6 => ?_)
  · have h := ite_t c6 h
    refine a_iload K (dq 21 rfl) rfl ?_
    refine a_if_ne K (tgt := 1856) (dq 22 rfl) rfl (fun c7 => ?_) (fun c7 => ?_)
    · have h := ite_f c7 h
      refine a_goto K (tgt := 2476) (dq 23 rfl) rfl ?_
      obtain rfl := Option.some.inj h
      refine a_le2 (ls' := [some (.ref b), some (.ref (ρ 0 0)), some (.ref (ρ 20 0)), some (.ref (ρ 30 0)), some (.ref (ρ 31 0)), some (.int i), none, none, none]) ⟨rfl, rfl, rfl, rfl, rfl, rfl, trivial⟩ ?_
      exact hk _ _ (by simp only [rmk]; omega) (by simp only [rmk]; omega)
    · have h := ite_t c7 h
      refine a_aload_n K (dq 24 rfl) rfl rfl ?_
      refine a_iconst K (dq 25 rfl) (v := 0) rfl ?_
      refine a_lald K (dq 26 rfl) ?_
      refine a_iload K (dq 27 rfl) rfl ?_
      refine a_i2l K (dq 28 rfl) ?_
      refine a_lcmp K (dq 29 rfl) ?_
      refine a_if_eq K (tgt := 1856) (dq 30 rfl) rfl (fun c8 => ?_) (fun c8 => ?_)
      · have h := ite_t c8 h
        refine a_goto K (tgt := 2476) (dq 23 rfl) rfl ?_
        obtain rfl := Option.some.inj h
        refine a_le2 (ls' := [some (.ref b), some (.ref (ρ 0 0)), some (.ref (ρ 20 0)), some (.ref (ρ 30 0)), some (.ref (ρ 31 0)), some (.int i), none, none, none]) ⟨rfl, rfl, rfl, rfl, rfl, rfl, trivial⟩ ?_
        exact hk _ _ (by simp only [rmk]; omega) (by simp only [rmk]; omega)
      · have h := ite_f c8 h
        refine a_iconst K (dq 31 rfl) (v := 0) rfl ?_
        cases h
  · have h := ite_f c6 h
    refine a_iconst K (dq 33 rfl) (v := 0) rfl ?_
    cases h
def t_lc_26 : List (Nat × Instr × Nat) := [(1859, .aload_n 1, 1), (1860, .aload_n 0, 1), (1861, .iload 5, 2), (1863, .iconst 1, 1), (1864, .iadd, 1), (1865, .iaload, 1), (1866, .i2c, 1), (1867, .aload_n 3, 1), (1868, .invokestatic 228, 3), (1871, .istore 6, 2), (1873, .aload_n 2, 1), (1874, .aload_n 0, 1), (1875, .iload 5, 2), (1877, .iconst 1, 1), (1878, .iadd, 1), (1879, .iaload, 1), (1880, .i2c, 1), (1881, .invokevirtual 231, 3), (1884, .istore 7, 2), (1886, .aload_n 2, 1), (1887, .invokevirtual 147, 3), (1890, .iload 6, 2), (1892, .if_icmp .eq 5, 3), (1897, .iload 6, 2), (1899, .ifCond .ne 15, 3), (1914, .goto 562, 3), (1902, .aload_n 3, 1), (1903, .iconst 0, 1), (1904, .laload, 1), (1905, .iload 7, 2), (1907, .i2l, 1), (1908, .lcmp, 1), (1909, .ifCond .eq 5, 3), (1912, .iconst 0, 1), (1913, .ireturn, 1), (1895, .iconst 0, 1), (1896, .ireturn, 1)]
theorem dt_lc_26 : tblOK code t_lc_26 = true := by decide +kernel
def p_lc_26 (xs : Nat → Int32) (L : Nat) (i : Int32) (σ : Sg) : Option Sg := if ib (i + 1) L then ((p_L_append (((xs (i + 1).toNatClampNeg).toUInt32 % 65536).toInt32) σ).bind fun r2 => if ib (i + 1) L then ((p_X7_append (((xs (i + 1).toNatClampNeg).toUInt32 % 65536).toInt32) r2.2).bind fun r4 => (p_X7_thrown  r4.2).bind fun r5 => if r5 = r2.1 then (if r2.1 = 0 then (if (lg_cmp (gL r4.2) r4.1.toInt64) = 0 then (some r4.2) else (none)) else (some r4.2)) else (none)) else none) else none
set_option maxRecDepth 20000 in
set_option maxHeartbeats 1000000 in
theorem s_lc_26 {l : Launch} {D : va_G} {ty : Nat → ClassId} {ρ : Nat → Nat → Nat} {N0 : Nat} (S : St l ty ρ N0) {xs : Nat → Int32} {L b : Nat} (i : Int32) (σ σ9 : Sg) (h : p_lc_26 xs L i σ = some σ9) {p : Program} {e : Env} {s : State} {m : MethodId} {args : Array Value} {below : List Frame} {meth : Method} {c : Code} {Q : State → Prop} (K : Cx p l s m args meth c code 9 RL ret D ty ρ N0) (hX : va_X b L xs s s.heap) (hbl : b < s.heap.size) (hbA : ¬ N0 ≤ b) {cs ss : Nat} (hcs : cs + 20 ≤ 603072) (hss : ss + 120 ≤ 7207018) (hk : ∀ c9 s9, c9 ≤ cs + 20 → s9 ≤ ss + 120 → WA p l e room_1 s m args below meth c D ty ρ N0 9 Q 2476 [some (.ref b), some (.ref (ρ 0 0)), some (.ref (ρ 20 0)), some (.ref (ρ 30 0)), some (.ref (ρ 31 0)), some (.int i), none, none, none] [] σ9 c9 s9) : WA p l e room_1 s m args below meth c D ty ρ N0 9 Q 1859 [some (.ref b), some (.ref (ρ 0 0)), some (.ref (ρ 20 0)), some (.ref (ρ 30 0)), some (.ref (ρ 31 0)), some (.int i), none, none, none] [] σ cs ss := by
  have dq := @tat _ _ dt_lc_26
  unfold p_lc_26 at h
  refine a_aload_n K (dq 0 rfl) rfl rfl ?_
  refine a_aload_n K (dq 1 rfl) rfl rfl ?_
  refine a_iload K (dq 2 rfl) rfl ?_
  refine a_iconst K (dq 3 rfl) (v := 1) rfl ?_
  refine a_iadd K (dq 4 rfl) ?_
  obtain ⟨c1, h⟩ := ib_some h
  refine a_sld K hX hbl hbA c1 (dq 5 rfl) ?_
  refine a_i2c K (dq 6 rfl) ?_
  refine a_aload_n K (dq 7 rfl) rfl rfl ?_
  obtain ⟨r2, h2, h⟩ := bnd h
  refine a_callH K (s_L_append S (((xs (i + 1).toNatClampNeg).toUInt32 % 65536).toInt32) σ r2 h2) cw_L_append mh_L_228 (by decide) rfl (rest := []) rfl (Nat.le_of_ble_eq_true rfl) (dq 8 rfl) (by constructor <;> (simp only [rmk, room_1]; omega)) ?_
  refine a_istore K (dq 9 rfl) (Nat.le_of_ble_eq_true rfl) (ls' := [some (.ref b), some (.ref (ρ 0 0)), some (.ref (ρ 20 0)), some (.ref (ρ 30 0)), some (.ref (ρ 31 0)), some (.int i), some (.int r2.1), none, none]) rfl ?_
  refine a_aload_n K (dq 10 rfl) rfl rfl ?_
  refine a_aload_n K (dq 11 rfl) rfl rfl ?_
  refine a_iload K (dq 12 rfl) rfl ?_
  refine a_iconst K (dq 13 rfl) (v := 1) rfl ?_
  refine a_iadd K (dq 14 rfl) ?_
  obtain ⟨c3, h⟩ := ib_some h
  refine a_sld K hX hbl hbA c3 (dq 15 rfl) ?_
  refine a_i2c K (dq 16 rfl) ?_
  obtain ⟨r4, h4, h⟩ := bnd h
  refine a_callVi K (s_X7_append S (((xs (i + 1).toNatClampNeg).toUInt32 % 65536).toInt32) r2.2 r4 h4) v_20 rfl rfl cw_X7_append ml_L_231 (by decide) rfl (rest := []) rfl (Nat.le_of_ble_eq_true rfl) (dq 17 rfl) (by constructor <;> (simp only [rmk, room_1]; omega)) ?_
  refine a_istore K (dq 18 rfl) (Nat.le_of_ble_eq_true rfl) (ls' := [some (.ref b), some (.ref (ρ 0 0)), some (.ref (ρ 20 0)), some (.ref (ρ 30 0)), some (.ref (ρ 31 0)), some (.int i), some (.int r2.1), some (.int r4.1), none]) rfl ?_
  refine a_aload_n K (dq 19 rfl) rfl rfl ?_
  obtain ⟨r5, h5, h⟩ := bnd h
  refine a_callVi K (s_X7_thrown S  r4.2 r5 h5) v_20 rfl rfl cw_X7_thrown ml_L_147 (by decide) rfl (rest := []) rfl (Nat.le_of_ble_eq_true rfl) (dq 20 rfl) (by constructor <;> (simp only [rmk, room_1]; omega)) ?_
  refine a_iload K (dq 21 rfl) rfl ?_
  refine a_icmp_eq K (tgt := 1897) (dq 22 rfl) rfl (fun c6 => ?_) (fun c6 => ?_)
  · have h := ite_t c6 h
    refine a_iload K (dq 23 rfl) rfl ?_
    refine a_if_ne K (tgt := 1914) (dq 24 rfl) rfl (fun c7 => ?_) (fun c7 => ?_)
    · have h := ite_f c7 h
      refine a_goto K (tgt := 2476) (dq 25 rfl) rfl ?_
      obtain rfl := Option.some.inj h
      refine a_le2 (ls' := [some (.ref b), some (.ref (ρ 0 0)), some (.ref (ρ 20 0)), some (.ref (ρ 30 0)), some (.ref (ρ 31 0)), some (.int i), none, none, none]) ⟨rfl, rfl, rfl, rfl, rfl, rfl, trivial⟩ ?_
      exact hk _ _ (by simp only [rmk]; omega) (by simp only [rmk]; omega)
    · have h := ite_t c7 h
      refine a_aload_n K (dq 26 rfl) rfl rfl ?_
      refine a_iconst K (dq 27 rfl) (v := 0) rfl ?_
      refine a_lald K (dq 28 rfl) ?_
      refine a_iload K (dq 29 rfl) rfl ?_
      refine a_i2l K (dq 30 rfl) ?_
      refine a_lcmp K (dq 31 rfl) ?_
      refine a_if_eq K (tgt := 1914) (dq 32 rfl) rfl (fun c8 => ?_) (fun c8 => ?_)
      · have h := ite_t c8 h
        refine a_goto K (tgt := 2476) (dq 25 rfl) rfl ?_
        obtain rfl := Option.some.inj h
        refine a_le2 (ls' := [some (.ref b), some (.ref (ρ 0 0)), some (.ref (ρ 20 0)), some (.ref (ρ 30 0)), some (.ref (ρ 31 0)), some (.int i), none, none, none]) ⟨rfl, rfl, rfl, rfl, rfl, rfl, trivial⟩ ?_
        exact hk _ _ (by simp only [rmk]; omega) (by simp only [rmk]; omega)
      · have h := ite_f c8 h
        refine a_iconst K (dq 33 rfl) (v := 0) rfl ?_
        cases h
  · have h := ite_f c6 h
    refine a_iconst K (dq 35 rfl) (v := 0) rfl ?_
    cases h
def t_lc_27 : List (Nat × Instr × Nat) := [(1917, .aload_n 1, 1), (1918, .aload_n 3, 1), (1919, .invokestatic 232, 3), (1922, .istore 6, 2), (1924, .aload_n 2, 1), (1925, .invokevirtual 235, 3), (1928, .istore 7, 2), (1930, .aload_n 2, 1), (1931, .invokevirtual 147, 3), (1934, .iload 6, 2), (1936, .if_icmp .eq 5, 3), (1941, .iload 6, 2), (1943, .ifCond .ne 15, 3), (1958, .goto 518, 3), (1946, .aload_n 3, 1), (1947, .iconst 0, 1), (1948, .laload, 1), (1949, .iload 7, 2), (1951, .i2l, 1), (1952, .lcmp, 1), (1953, .ifCond .eq 5, 3), (1956, .iconst 0, 1), (1957, .ireturn, 1), (1939, .iconst 0, 1), (1940, .ireturn, 1)]
theorem dt_lc_27 : tblOK code t_lc_27 = true := by decide +kernel
def p_lc_27 (xs : Nat → Int32) (L : Nat) (i : Int32) (σ : Sg) : Option Sg := (p_L_commands  σ).bind fun r1 => (p_X7_commands  r1.2).bind fun r2 => (p_X7_thrown  r2.2).bind fun r3 => if r3 = r1.1 then (if r1.1 = 0 then (if (lg_cmp (gL r2.2) r2.1.toInt64) = 0 then (some r2.2) else (none)) else (some r2.2)) else (none)
set_option maxRecDepth 20000 in
set_option maxHeartbeats 1000000 in
theorem s_lc_27 {l : Launch} {D : va_G} {ty : Nat → ClassId} {ρ : Nat → Nat → Nat} {N0 : Nat} (S : St l ty ρ N0) {xs : Nat → Int32} {L b : Nat} (i : Int32) (σ σ9 : Sg) (h : p_lc_27 xs L i σ = some σ9) {p : Program} {e : Env} {s : State} {m : MethodId} {args : Array Value} {below : List Frame} {meth : Method} {c : Code} {Q : State → Prop} (K : Cx p l s m args meth c code 9 RL ret D ty ρ N0) (hX : va_X b L xs s s.heap) (hbl : b < s.heap.size) (hbA : ¬ N0 ≤ b) {cs ss : Nat} (hcs : cs + 20 ≤ 603072) (hss : ss + 120 ≤ 7207018) (hk : ∀ c9 s9, c9 ≤ cs + 20 → s9 ≤ ss + 120 → WA p l e room_1 s m args below meth c D ty ρ N0 9 Q 2476 [some (.ref b), some (.ref (ρ 0 0)), some (.ref (ρ 20 0)), some (.ref (ρ 30 0)), some (.ref (ρ 31 0)), some (.int i), none, none, none] [] σ9 c9 s9) : WA p l e room_1 s m args below meth c D ty ρ N0 9 Q 1917 [some (.ref b), some (.ref (ρ 0 0)), some (.ref (ρ 20 0)), some (.ref (ρ 30 0)), some (.ref (ρ 31 0)), some (.int i), none, none, none] [] σ cs ss := by
  have dq := @tat _ _ dt_lc_27
  unfold p_lc_27 at h
  refine a_aload_n K (dq 0 rfl) rfl rfl ?_
  refine a_aload_n K (dq 1 rfl) rfl rfl ?_
  obtain ⟨r1, h1, h⟩ := bnd h
  refine a_callH K (s_L_commands S  σ r1 h1) cw_L_commands mh_L_232 (by decide) rfl (rest := []) rfl (Nat.le_of_ble_eq_true rfl) (dq 2 rfl) (by constructor <;> (simp only [rmk, room_1]; omega)) ?_
  refine a_istore K (dq 3 rfl) (Nat.le_of_ble_eq_true rfl) (ls' := [some (.ref b), some (.ref (ρ 0 0)), some (.ref (ρ 20 0)), some (.ref (ρ 30 0)), some (.ref (ρ 31 0)), some (.int i), some (.int r1.1), none, none]) rfl ?_
  refine a_aload_n K (dq 4 rfl) rfl rfl ?_
  obtain ⟨r2, h2, h⟩ := bnd h
  refine a_callVi K (s_X7_commands S  r1.2 r2 h2) v_20 rfl rfl cw_X7_commands ml_L_235 (by decide) rfl (rest := []) rfl (Nat.le_of_ble_eq_true rfl) (dq 5 rfl) (by constructor <;> (simp only [rmk, room_1]; omega)) ?_
  refine a_istore K (dq 6 rfl) (Nat.le_of_ble_eq_true rfl) (ls' := [some (.ref b), some (.ref (ρ 0 0)), some (.ref (ρ 20 0)), some (.ref (ρ 30 0)), some (.ref (ρ 31 0)), some (.int i), some (.int r1.1), some (.int r2.1), none]) rfl ?_
  refine a_aload_n K (dq 7 rfl) rfl rfl ?_
  obtain ⟨r3, h3, h⟩ := bnd h
  refine a_callVi K (s_X7_thrown S  r2.2 r3 h3) v_20 rfl rfl cw_X7_thrown ml_L_147 (by decide) rfl (rest := []) rfl (Nat.le_of_ble_eq_true rfl) (dq 8 rfl) (by constructor <;> (simp only [rmk, room_1]; omega)) ?_
  refine a_iload K (dq 9 rfl) rfl ?_
  refine a_icmp_eq K (tgt := 1941) (dq 10 rfl) rfl (fun c4 => ?_) (fun c4 => ?_)
  · have h := ite_t c4 h
    refine a_iload K (dq 11 rfl) rfl ?_
    refine a_if_ne K (tgt := 1958) (dq 12 rfl) rfl (fun c5 => ?_) (fun c5 => ?_)
    · have h := ite_f c5 h
      refine a_goto K (tgt := 2476) (dq 13 rfl) rfl ?_
      obtain rfl := Option.some.inj h
      refine a_le2 (ls' := [some (.ref b), some (.ref (ρ 0 0)), some (.ref (ρ 20 0)), some (.ref (ρ 30 0)), some (.ref (ρ 31 0)), some (.int i), none, none, none]) ⟨rfl, rfl, rfl, rfl, rfl, rfl, trivial⟩ ?_
      exact hk _ _ (by simp only [rmk]; omega) (by simp only [rmk]; omega)
    · have h := ite_t c5 h
      refine a_aload_n K (dq 14 rfl) rfl rfl ?_
      refine a_iconst K (dq 15 rfl) (v := 0) rfl ?_
      refine a_lald K (dq 16 rfl) ?_
      refine a_iload K (dq 17 rfl) rfl ?_
      refine a_i2l K (dq 18 rfl) ?_
      refine a_lcmp K (dq 19 rfl) ?_
      refine a_if_eq K (tgt := 1958) (dq 20 rfl) rfl (fun c6 => ?_) (fun c6 => ?_)
      · have h := ite_t c6 h
        refine a_goto K (tgt := 2476) (dq 13 rfl) rfl ?_
        obtain rfl := Option.some.inj h
        refine a_le2 (ls' := [some (.ref b), some (.ref (ρ 0 0)), some (.ref (ρ 20 0)), some (.ref (ρ 30 0)), some (.ref (ρ 31 0)), some (.int i), none, none, none]) ⟨rfl, rfl, rfl, rfl, rfl, rfl, trivial⟩ ?_
        exact hk _ _ (by simp only [rmk]; omega) (by simp only [rmk]; omega)
      · have h := ite_f c6 h
        refine a_iconst K (dq 21 rfl) (v := 0) rfl ?_
        cases h
  · have h := ite_f c4 h
    refine a_iconst K (dq 23 rfl) (v := 0) rfl ?_
    cases h
