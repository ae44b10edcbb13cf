def t_lc_28 : List (Nat × Instr × Nat) := [(1961, .aload_n 1, 1), (1962, .invokevirtual 236, 3), (1965, .aload_n 2, 1), (1966, .invokevirtual 239, 3), (1969, .if_icmp .eq 507, 3), (1972, .iconst 0, 1), (1973, .ireturn, 1)]
theorem dt_lc_28 : tblOK code t_lc_28 = true := by decide +kernel
def p_lc_28 (xs : Nat → Int32) (L : Nat) (i : Int32) (σ : Sg) : Option Sg := (p_X6_faultPosition  σ).bind fun r1 => (p_X7_faultPosition  σ).bind fun r2 => if r1 = r2.1 then (some r2.2) else (none)
set_option maxRecDepth 20000 in
set_option maxHeartbeats 1000000 in
theorem s_lc_28 {l : Launch} {D : va_G} {ty : Nat → ClassId} {ρ : Nat → Nat → Nat} {N0 : Nat} (S : St l ty ρ N0) {xs : Nat → Int32} {L b : Nat} (i : Int32) (σ σ9 : Sg) (h : p_lc_28 xs L i σ = some σ9) {p : Program} {e : Env} {s : State} {m : MethodId} {args : Array Value} {below : List Frame} {meth : Method} {c : Code} {Q : State → Prop} (K : Cx p l s m args meth c code 9 RL ret D ty ρ N0) (hX : va_X b L xs s s.heap) (hbl : b < s.heap.size) (hbA : ¬ N0 ≤ b) {cs ss : Nat} (hcs : cs + 20 ≤ 603072) (hss : ss + 120 ≤ 7207018) (hk : ∀ c9 s9, c9 ≤ cs + 20 → s9 ≤ ss + 120 → WA p l e room_1 s m args below meth c D ty ρ N0 9 Q 2476 [some (.ref b), some (.ref (ρ 0 0)), some (.ref (ρ 20 0)), some (.ref (ρ 30 0)), some (.ref (ρ 31 0)), some (.int i), none, none, none] [] σ9 c9 s9) : WA p l e room_1 s m args below meth c D ty ρ N0 9 Q 1961 [some (.ref b), some (.ref (ρ 0 0)), some (.ref (ρ 20 0)), some (.ref (ρ 30 0)), some (.ref (ρ 31 0)), some (.int i), none, none, none] [] σ cs ss := by
  have dq := @tat _ _ dt_lc_28
  unfold p_lc_28 at h
  refine a_aload_n K (dq 0 rfl) rfl rfl ?_
  obtain ⟨r1, h1, h⟩ := bnd h
  refine a_callVi K (s_X6_faultPosition S  σ r1 h1) v_0 rfl rfl cw_X6_faultPosition ml_L_236 (by decide) rfl (rest := []) rfl (Nat.le_of_ble_eq_true rfl) (dq 1 rfl) (by constructor <;> (simp only [rmk, room_1]; omega)) ?_
  refine a_aload_n K (dq 2 rfl) rfl rfl ?_
  obtain ⟨r2, h2, h⟩ := bnd h
  refine a_callVi K (s_X7_faultPosition S  σ r2 h2) v_20 rfl rfl cw_X7_faultPosition ml_L_239 (by decide) rfl (rest := [.int r1]) rfl (Nat.le_of_ble_eq_true rfl) (dq 3 rfl) (by constructor <;> (simp only [rmk, room_1]; omega)) ?_
  refine a_icmp_eq K (tgt := 2476) (dq 4 rfl) rfl (fun c3 => ?_) (fun c3 => ?_)
  · have h := ite_t c3 h
    obtain rfl := Option.some.inj h
    refine a_le2 (ls' := [some (.ref b), some (.ref (ρ 0 0)), some (.ref (ρ 20 0)), some (.ref (ρ 30 0)), some (.ref (ρ 31 0)), some (.int i), none, none, none]) ⟨rfl, rfl, rfl, rfl, rfl, rfl, trivial⟩ ?_
    exact hk _ _ (by simp only [rmk]; omega) (by simp only [rmk]; omega)
  · have h := ite_f c3 h
    refine a_iconst K (dq 5 rfl) (v := 0) rfl ?_
    cases h
def t_lc_29 : List (Nat × Instr × Nat) := [(1974, .aload_n 1, 1), (1975, .aload_n 0, 1), (1976, .iload 5, 2), (1978, .iconst 1, 1), (1979, .iadd, 1), (1980, .iaload, 1), (1981, .aload_n 3, 1), (1982, .invokestatic 240, 3), (1985, .istore 6, 2), (1987, .aload_n 2, 1), (1988, .aload_n 0, 1), (1989, .iload 5, 2), (1991, .iconst 1, 1), (1992, .iadd, 1), (1993, .iaload, 1), (1994, .invokevirtual 242, 3), (1997, .istore 7, 2), (1999, .aload_n 2, 1), (2000, .invokevirtual 147, 3), (2003, .iload 6, 2), (2005, .if_icmp .eq 5, 3), (2010, .iload 6, 2), (2012, .ifCond .ne 15, 3), (2027, .goto 449, 3), (2015, .aload_n 3, 1), (2016, .iconst 0, 1), (2017, .laload, 1), (2018, .iload 7, 2), (2020, .i2l, 1), (2021, .lcmp, 1), (2022, .ifCond .eq 5, 3), (2025, .iconst 0, 1), (2026, .ireturn, 1), (2008, .iconst 0, 1), (2009, .ireturn, 1)]
theorem dt_lc_29 : tblOK code t_lc_29 = true := by decide +kernel
def p_lc_29 (xs : Nat → Int32) (L : Nat) (i : Int32) (σ : Sg) : Option Sg := if ib (i + 1) L then ((p_L_reason (xs (i + 1).toNatClampNeg) σ).bind fun r2 => if ib (i + 1) L then ((p_X7_reason (xs (i + 1).toNatClampNeg) r2.2).bind fun r4 => (p_X7_thrown  r4.2).bind fun r5 => if r5 = r2.1 then (if r2.1 = 0 then (if (lg_cmp (gL r4.2) r4.1.toInt64) = 0 then (some r4.2) else (none)) else (some r4.2)) else (none)) else none) else none
set_option maxRecDepth 20000 in
set_option maxHeartbeats 1000000 in
theorem s_lc_29 {l : Launch} {D : va_G} {ty : Nat → ClassId} {ρ : Nat → Nat → Nat} {N0 : Nat} (S : St l ty ρ N0) {xs : Nat → Int32} {L b : Nat} (i : Int32) (σ σ9 : Sg) (h : p_lc_29 xs L i σ = some σ9) {p : Program} {e : Env} {s : State} {m : MethodId} {args : Array Value} {below : List Frame} {meth : Method} {c : Code} {Q : State → Prop} (K : Cx p l s m args meth c code 9 RL ret D ty ρ N0) (hX : va_X b L xs s s.heap) (hbl : b < s.heap.size) (hbA : ¬ N0 ≤ b) {cs ss : Nat} (hcs : cs + 20 ≤ 603072) (hss : ss + 120 ≤ 7207018) (hk : ∀ c9 s9, c9 ≤ cs + 20 → s9 ≤ ss + 120 → WA p l e room_1 s m args below meth c D ty ρ N0 9 Q 2476 [some (.ref b), some (.ref (ρ 0 0)), some (.ref (ρ 20 0)), some (.ref (ρ 30 0)), some (.ref (ρ 31 0)), some (.int i), none, none, none] [] σ9 c9 s9) : WA p l e room_1 s m args below meth c D ty ρ N0 9 Q 1974 [some (.ref b), some (.ref (ρ 0 0)), some (.ref (ρ 20 0)), some (.ref (ρ 30 0)), some (.ref (ρ 31 0)), some (.int i), none, none, none] [] σ cs ss := by
  have dq := @tat _ _ dt_lc_29
  unfold p_lc_29 at h
  refine a_aload_n K (dq 0 rfl) rfl rfl ?_
  refine a_aload_n K (dq 1 rfl) rfl rfl ?_
  refine a_iload K (dq 2 rfl) rfl ?_
  refine a_iconst K (dq 3 rfl) (v := 1) rfl ?_
  refine a_iadd K (dq 4 rfl) ?_
  obtain ⟨c1, h⟩ := ib_some h
  refine a_sld K hX hbl hbA c1 (dq 5 rfl) ?_
  refine a_aload_n K (dq 6 rfl) rfl rfl ?_
  obtain ⟨r2, h2, h⟩ := bnd h
  refine a_callH K (s_L_reason S (xs (i + 1).toNatClampNeg) σ r2 h2) cw_L_reason mh_L_240 (by decide) rfl (rest := []) rfl (Nat.le_of_ble_eq_true rfl) (dq 7 rfl) (by constructor <;> (simp only [rmk, room_1]; omega)) ?_
  refine a_istore K (dq 8 rfl) (Nat.le_of_ble_eq_true rfl) (ls' := [some (.ref b), some (.ref (ρ 0 0)), some (.ref (ρ 20 0)), some (.ref (ρ 30 0)), some (.ref (ρ 31 0)), some (.int i), some (.int r2.1), none, none]) rfl ?_
  refine a_aload_n K (dq 9 rfl) rfl rfl ?_
  refine a_aload_n K (dq 10 rfl) rfl rfl ?_
  refine a_iload K (dq 11 rfl) rfl ?_
  refine a_iconst K (dq 12 rfl) (v := 1) rfl ?_
  refine a_iadd K (dq 13 rfl) ?_
  obtain ⟨c3, h⟩ := ib_some h
  refine a_sld K hX hbl hbA c3 (dq 14 rfl) ?_
  obtain ⟨r4, h4, h⟩ := bnd h
  refine a_callVi K (s_X7_reason S (xs (i + 1).toNatClampNeg) r2.2 r4 h4) v_20 rfl rfl cw_X7_reason ml_L_242 (by decide) rfl (rest := []) rfl (Nat.le_of_ble_eq_true rfl) (dq 15 rfl) (by constructor <;> (simp only [rmk, room_1]; omega)) ?_
  refine a_istore K (dq 16 rfl) (Nat.le_of_ble_eq_true rfl) (ls' := [some (.ref b), some (.ref (ρ 0 0)), some (.ref (ρ 20 0)), some (.ref (ρ 30 0)), some (.ref (ρ 31 0)), some (.int i), some (.int r2.1), some (.int r4.1), none]) rfl ?_
  refine a_aload_n K (dq 17 rfl) rfl rfl ?_
  obtain ⟨r5, h5, h⟩ := bnd h
  refine a_callVi K (s_X7_thrown S  r4.2 r5 h5) v_20 rfl rfl cw_X7_thrown ml_L_147 (by decide) rfl (rest := []) rfl (Nat.le_of_ble_eq_true rfl) (dq 18 rfl) (by constructor <;> (simp only [rmk, room_1]; omega)) ?_
  refine a_iload K (dq 19 rfl) rfl ?_
  refine a_icmp_eq K (tgt := 2010) (dq 20 rfl) rfl (fun c6 => ?_) (fun c6 => ?_)
  · have h := ite_t c6 h
    refine a_iload K (dq 21 rfl) rfl ?_
    refine a_if_ne K (tgt := 2027) (dq 22 rfl) rfl (fun c7 => ?_) (fun c7 => ?_)
    · have h := ite_f c7 h
      refine a_goto K (tgt := 2476) (dq 23 rfl) rfl ?_
      obtain rfl := Option.some.inj h
      refine a_le2 (ls' := [some (.ref b), some (.ref (ρ 0 0)), some (.ref (ρ 20 0)), some (.ref (ρ 30 0)), some (.ref (ρ 31 0)), some (.int i), none, none, none]) ⟨rfl, rfl, rfl, rfl, rfl, rfl, trivial⟩ ?_
      exact hk _ _ (by simp only [rmk]; omega) (by simp only [rmk]; omega)
    · have h := ite_t c7 h
      refine a_aload_n K (dq 24 rfl) rfl rfl ?_
      refine a_iconst K (dq 25 rfl) (v := 0) rfl ?_
      refine a_lald K (dq 26 rfl) ?_
      refine a_iload K (dq 27 rfl) rfl ?_
      refine a_i2l K (dq 28 rfl) ?_
      refine a_lcmp K (dq 29 rfl) ?_
      refine a_if_eq K (tgt := 2027) (dq 30 rfl) rfl (fun c8 => ?_) (fun c8 => ?_)
      · have h := ite_t c8 h
        refine a_goto K (tgt := 2476) (dq 23 rfl) rfl ?_
        obtain rfl := Option.some.inj h
        refine a_le2 (ls' := [some (.ref b), some (.ref (ρ 0 0)), some (.ref (ρ 20 0)), some (.ref (ρ 30 0)), some (.ref (ρ 31 0)), some (.int i), none, none, none]) ⟨rfl, rfl, rfl, rfl, rfl, rfl, trivial⟩ ?_
        exact hk _ _ (by simp only [rmk]; omega) (by simp only [rmk]; omega)
      · have h := ite_f c8 h
        refine a_iconst K (dq 31 rfl) (v := 0) rfl ?_
        cases h
  · have h := ite_f c6 h
    refine a_iconst K (dq 33 rfl) (v := 0) rfl ?_
    cases h
def t_lc_30 : List (Nat × Instr × Nat) := [(2030, .aload_n 1, 1), (2031, .aload_n 0, 1), (2032, .iload 5, 2), (2034, .iconst 1, 1), (2035, .iadd, 1), (2036, .iaload, 1), (2037, .aload_n 0, 1), (2038, .iload 5, 2), (2040, .iconst 2, 1), (2041, .iadd, 1), (2042, .iaload, 1), (2043, .aload_n 3, 1), (2044, .invokestatic 243, 3), (2047, .istore 6, 2), (2049, .aload_n 2, 1), (2050, .aload_n 0, 1), (2051, .iload 5, 2), (2053, .iconst 1, 1), (2054, .iadd, 1), (2055, .iaload, 1), (2056, .aload_n 0, 1), (2057, .iload 5, 2), (2059, .iconst 2, 1), (2060, .iadd, 1), (2061, .iaload, 1), (2062, .invokevirtual 245, 3), (2065, .istore 7, 2), (2067, .aload_n 2, 1), (2068, .invokevirtual 147, 3), (2071, .iload 6, 2), (2073, .if_icmp .eq 5, 3), (2078, .iload 6, 2), (2080, .ifCond .ne 15, 3), (2095, .goto 381, 3), (2083, .aload_n 3, 1), (2084, .iconst 0, 1), (2085, .laload, 1), (2086, .iload 7, 2), (2088, .i2l, 1), (2089, .lcmp, 1), (2090, .ifCond .eq 5, 3), (2093, .iconst 0, 1), (2094, .ireturn, 1), (2076, .iconst 0, 1), (2077, .ireturn, 1)]
theorem dt_lc_30 : tblOK code t_lc_30 = true := by decide +kernel
def p_lc_30 (xs : Nat → Int32) (L : Nat) (i : Int32) (σ : Sg) : Option Sg := if ib (i + 1) L then (if ib (i + 2) L then ((p_L_way (xs (i + 1).toNatClampNeg) (xs (i + 2).toNatClampNeg) σ).bind fun r3 => if ib (i + 1) L then (if ib (i + 2) L then ((p_X7_way (xs (i + 1).toNatClampNeg) (xs (i + 2).toNatClampNeg) r3.2).bind fun r6 => (p_X7_thrown  r6.2).bind fun r7 => if r7 = r3.1 then (if r3.1 = 0 then (if (lg_cmp (gL r6.2) r6.1.toInt64) = 0 then (some r6.2) else (none)) else (some r6.2)) else (none)) else none) else none) else none) else none
set_option maxRecDepth 20000 in
set_option maxHeartbeats 1000000 in
theorem s_lc_30 {l : Launch} {D : va_G} {ty : Nat → ClassId} {ρ : Nat → Nat → Nat} {N0 : Nat} (S : St l ty ρ N0) {xs : Nat → Int32} {L b : Nat} (i : Int32) (σ σ9 : Sg) (h : p_lc_30 xs L i σ = some σ9) {p : Program} {e : Env} {s : State} {m : MethodId} {args : Array Value} {below : List Frame} {meth : Method} {c : Code} {Q : State → Prop} (K : Cx p l s m args meth c code 9 RL ret D ty ρ N0) (hX : va_X b L xs s s.heap) (hbl : b < s.heap.size) (hbA : ¬ N0 ≤ b) {cs ss : Nat} (hcs : cs + 20 ≤ 603072) (hss : ss + 120 ≤ 7207018) (hk : ∀ c9 s9, c9 ≤ cs + 20 → s9 ≤ ss + 120 → WA p l e room_1 s m args below meth c D ty ρ N0 9 Q 2476 [some (.ref b), some (.ref (ρ 0 0)), some (.ref (ρ 20 0)), some (.ref (ρ 30 0)), some (.ref (ρ 31 0)), some (.int i), none, none, none] [] σ9 c9 s9) : WA p l e room_1 s m args below meth c D ty ρ N0 9 Q 2030 [some (.ref b), some (.ref (ρ 0 0)), some (.ref (ρ 20 0)), some (.ref (ρ 30 0)), some (.ref (ρ 31 0)), some (.int i), none, none, none] [] σ cs ss := by
  have dq := @tat _ _ dt_lc_30
  unfold p_lc_30 at h
  refine a_aload_n K (dq 0 rfl) rfl rfl ?_
  refine a_aload_n K (dq 1 rfl) rfl rfl ?_
  refine a_iload K (dq 2 rfl) rfl ?_
  refine a_iconst K (dq 3 rfl) (v := 1) rfl ?_
  refine a_iadd K (dq 4 rfl) ?_
  obtain ⟨c1, h⟩ := ib_some h
  refine a_sld K hX hbl hbA c1 (dq 5 rfl) ?_
  refine a_aload_n K (dq 6 rfl) rfl rfl ?_
  refine a_iload K (dq 7 rfl) rfl ?_
  refine a_iconst K (dq 8 rfl) (v := 2) rfl ?_
  refine a_iadd K (dq 9 rfl) ?_
  obtain ⟨c2, h⟩ := ib_some h
  refine a_sld K hX hbl hbA c2 (dq 10 rfl) ?_
  refine a_aload_n K (dq 11 rfl) rfl rfl ?_
  obtain ⟨r3, h3, h⟩ := bnd h
  refine a_callH K (s_L_way S (xs (i + 1).toNatClampNeg) (xs (i + 2).toNatClampNeg) σ r3 h3) cw_L_way mh_L_243 (by decide) rfl (rest := []) rfl (Nat.le_of_ble_eq_true rfl) (dq 12 rfl) (by constructor <;> (simp only [rmk, room_1]; omega)) ?_
  refine a_istore K (dq 13 rfl) (Nat.le_of_ble_eq_true rfl) (ls' := [some (.ref b), some (.ref (ρ 0 0)), some (.ref (ρ 20 0)), some (.ref (ρ 30 0)), some (.ref (ρ 31 0)), some (.int i), some (.int r3.1), none, none]) rfl ?_
  refine a_aload_n K (dq 14 rfl) rfl rfl ?_
  refine a_aload_n K (dq 15 rfl) rfl rfl ?_
  refine a_iload K (dq 16 rfl) rfl ?_
  refine a_iconst K (dq 17 rfl) (v := 1) rfl ?_
  refine a_iadd K (dq 18 rfl) ?_
  obtain ⟨c4, h⟩ := ib_some h
  refine a_sld K hX hbl hbA c4 (dq 19 rfl) ?_
  refine a_aload_n K (dq 20 rfl) rfl rfl ?_
  refine a_iload K (dq 21 rfl) rfl ?_
  refine a_iconst K (dq 22 rfl) (v := 2) rfl ?_
  refine a_iadd K (dq 23 rfl) ?_
  obtain ⟨c5, h⟩ := ib_some h
  refine a_sld K hX hbl hbA c5 (dq 24 rfl) ?_
  obtain ⟨r6, h6, h⟩ := bnd h
  refine a_callVi K (s_X7_way S (xs (i + 1).toNatClampNeg) (xs (i + 2).toNatClampNeg) r3.2 r6 h6) v_20 rfl rfl cw_X7_way ml_L_245 (by decide) rfl (rest := []) rfl (Nat.le_of_ble_eq_true rfl) (dq 25 rfl) (by constructor <;> (simp only [rmk, room_1]; omega)) ?_
  refine a_istore K (dq 26 rfl) (Nat.le_of_ble_eq_true rfl) (ls' := [some (.ref b), some (.ref (ρ 0 0)), some (.ref (ρ 20 0)), some (.ref (ρ 30 0)), some (.ref (ρ 31 0)), some (.int i), some (.int r3.1), some (.int r6.1), none]) rfl ?_
  refine a_aload_n K (dq 27 rfl) rfl rfl ?_
  obtain ⟨r7, h7, h⟩ := bnd h
  refine a_callVi K (s_X7_thrown S  r6.2 r7 h7) v_20 rfl rfl cw_X7_thrown ml_L_147 (by decide) rfl (rest := []) rfl (Nat.le_of_ble_eq_true rfl) (dq 28 rfl) (by constructor <;> (simp only [rmk, room_1]; omega)) ?_
  refine a_iload K (dq 29 rfl) rfl ?_
  refine a_icmp_eq K (tgt := 2078) (dq 30 rfl) rfl (fun c8 => ?_) (fun c8 => ?_)
  · have h := ite_t c8 h
    refine a_iload K (dq 31 rfl) rfl ?_
    refine a_if_ne K (tgt := 2095) (dq 32 rfl) rfl (fun c9 => ?_) (fun c9 => ?_)
    · have h := ite_f c9 h
      refine a_goto K (tgt := 2476) (dq 33 rfl) rfl ?_
      obtain rfl := Option.some.inj h
      refine a_le2 (ls' := [some (.ref b), some (.ref (ρ 0 0)), some (.ref (ρ 20 0)), some (.ref (ρ 30 0)), some (.ref (ρ 31 0)), some (.int i), none, none, none]) ⟨rfl, rfl, rfl, rfl, rfl, rfl, trivial⟩ ?_
      exact hk _ _ (by simp only [rmk]; omega) (by simp only [rmk]; omega)
    · have h := ite_t c9 h
      refine a_aload_n K (dq 34 rfl) rfl rfl ?_
      refine a_iconst K (dq 35 rfl) (v := 0) rfl ?_
      refine a_lald K (dq 36 rfl) ?_
      refine a_iload K (dq 37 rfl) rfl ?_
      refine a_i2l K (dq 38 rfl) ?_
      refine a_lcmp K (dq 39 rfl) ?_
      refine a_if_eq K (tgt := 2095) (dq 40 rfl) rfl (fun c10 => ?_) (fun c10 => ?_)
      · have h := ite_t c10 h
        refine a_goto K (tgt := 2476) (dq 33 rfl) rfl ?_
        obtain rfl := Option.some.inj h
        refine a_le2 (ls' := [some (.ref b), some (.ref (ρ 0 0)), some (.ref (ρ 20 0)), some (.ref (ρ 30 0)), some (.ref (ρ 31 0)), some (.int i), none, none, none]) ⟨rfl, rfl, rfl, rfl, rfl, rfl, trivial⟩ ?_
        exact hk _ _ (by simp only [rmk]; omega) (by simp only [rmk]; omega)
      · have h := ite_f c10 h
        refine a_iconst K (dq 41 rfl) (v := 0) rfl ?_
        cases h
  · have h := ite_f c8 h
    refine a_iconst K (dq 43 rfl) (v := 0) rfl ?_
    cases h
def t_lc_31 : List (Nat × Instr × Nat) := [(2098, .aload_n 1, 1), (2099, .aload_n 0, 1), (2100, .iload 5, 2), (2102, .iconst 1, 1), (2103, .iadd, 1), (2104, .iaload, 1), (2105, .aload_n 3, 1), (2106, .invokestatic 246, 3), (2109, .istore 6, 2), (2111, .aload_n 2, 1), (2112, .aload_n 0, 1), (2113, .iload 5, 2), (2115, .iconst 1, 1), (2116, .iadd, 1), (2117, .iaload, 1), (2118, .invokevirtual 248, 3), (2121, .istore 7, 2), (2123, .aload_n 2, 1), (2124, .invokevirtual 147, 3), (2127, .iload 6, 2), (2129, .if_icmp .eq 5, 3), (2134, .iload 6, 2), (2136, .ifCond .ne 15, 3), (2151, .goto 325, 3), (2139, .aload_n 3, 1), (2140, .iconst 0, 1), (2141, .laload, 1), (2142, .iload 7, 2), (2144, .i2l, 1), (2145, .lcmp, 1), (2146, .ifCond .eq 5, 3), (2149, .iconst 0, 1), (2150, .ireturn, 1), (2132, .iconst 0, 1), (2133, .ireturn, 1)]
theorem dt_lc_31 : tblOK code t_lc_31 = true := by decide +kernel
def p_lc_31 (xs : Nat → Int32) (L : Nat) (i : Int32) (σ : Sg) : Option Sg := if ib (i + 1) L then ((p_L_tree (xs (i + 1).toNatClampNeg) σ).bind fun r2 => if ib (i + 1) L then ((p_X7_tree (xs (i + 1).toNatClampNeg) r2.2).bind fun r4 => (p_X7_thrown  r4.2).bind fun r5 => if r5 = r2.1 then (if r2.1 = 0 then (if (lg_cmp (gL r4.2) r4.1.toInt64) = 0 then (some r4.2) else (none)) else (some r4.2)) else (none)) else none) else none
set_option maxRecDepth 20000 in
set_option maxHeartbeats 1000000 in
theorem s_lc_31 {l : Launch} {D : va_G} {ty : Nat → ClassId} {ρ : Nat → Nat → Nat} {N0 : Nat} (S : St l ty ρ N0) {xs : Nat → Int32} {L b : Nat} (i : Int32) (σ σ9 : Sg) (h : p_lc_31 xs L i σ = some σ9) {p : Program} {e : Env} {s : State} {m : MethodId} {args : Array Value} {below : List Frame} {meth : Method} {c : Code} {Q : State → Prop} (K : Cx p l s m args meth c code 9 RL ret D ty ρ N0) (hX : va_X b L xs s s.heap) (hbl : b < s.heap.size) (hbA : ¬ N0 ≤ b) {cs ss : Nat} (hcs : cs + 20 ≤ 603072) (hss : ss + 120 ≤ 7207018) (hk : ∀ c9 s9, c9 ≤ cs + 20 → s9 ≤ ss + 120 → WA p l e room_1 s m args below meth c D ty ρ N0 9 Q 2476 [some (.ref b), some (.ref (ρ 0 0)), some (.ref (ρ 20 0)), some (.ref (ρ 30 0)), some (.ref (ρ 31 0)), some (.int i), none, none, none] [] σ9 c9 s9) : WA p l e room_1 s m args below meth c D ty ρ N0 9 Q 2098 [some (.ref b), some (.ref (ρ 0 0)), some (.ref (ρ 20 0)), some (.ref (ρ 30 0)), some (.ref (ρ 31 0)), some (.int i), none, none, none] [] σ cs ss := by
  have dq := @tat _ _ dt_lc_31
  unfold p_lc_31 at h
  refine a_aload_n K (dq 0 rfl) rfl rfl ?_
  refine a_aload_n K (dq 1 rfl) rfl rfl ?_
  refine a_iload K (dq 2 rfl) rfl ?_
  refine a_iconst K (dq 3 rfl) (v := 1) rfl ?_
  refine a_iadd K (dq 4 rfl) ?_
  obtain ⟨c1, h⟩ := ib_some h
  refine a_sld K hX hbl hbA c1 (dq 5 rfl) ?_
  refine a_aload_n K (dq 6 rfl) rfl rfl ?_
  obtain ⟨r2, h2, h⟩ := bnd h
  refine a_callH K (s_L_tree S (xs (i + 1).toNatClampNeg) σ r2 h2) cw_L_tree mh_L_246 (by decide) rfl (rest := []) rfl (Nat.le_of_ble_eq_true rfl) (dq 7 rfl) (by constructor <;> (simp only [rmk, room_1]; omega)) ?_
  refine a_istore K (dq 8 rfl) (Nat.le_of_ble_eq_true rfl) (ls' := [some (.ref b), some (.ref (ρ 0 0)), some (.ref (ρ 20 0)), some (.ref (ρ 30 0)), some (.ref (ρ 31 0)), some (.int i), some (.int r2.1), none, none]) rfl ?_
  refine a_aload_n K (dq 9 rfl) rfl rfl ?_
  refine a_aload_n K (dq 10 rfl) rfl rfl ?_
  refine a_iload K (dq 11 rfl) rfl ?_
  refine a_iconst K (dq 12 rfl) (v := 1) rfl ?_
  refine a_iadd K (dq 13 rfl) ?_
  obtain ⟨c3, h⟩ := ib_some h
  refine a_sld K hX hbl hbA c3 (dq 14 rfl) ?_
  obtain ⟨r4, h4, h⟩ := bnd h
  refine a_callVi K (s_X7_tree S (xs (i + 1).toNatClampNeg) r2.2 r4 h4) v_20 rfl rfl cw_X7_tree ml_L_248 (by decide) rfl (rest := []) rfl (Nat.le_of_ble_eq_true rfl) (dq 15 rfl) (by constructor <;> (simp only [rmk, room_1]; omega)) ?_
  refine a_istore K (dq 16 rfl) (Nat.le_of_ble_eq_true rfl) (ls' := [some (.ref b), some (.ref (ρ 0 0)), some (.ref (ρ 20 0)), some (.ref (ρ 30 0)), some (.ref (ρ 31 0)), some (.int i), some (.int r2.1), some (.int r4.1), none]) rfl ?_
  refine a_aload_n K (dq 17 rfl) rfl rfl ?_
  obtain ⟨r5, h5, h⟩ := bnd h
  refine a_callVi K (s_X7_thrown S  r4.2 r5 h5) v_20 rfl rfl cw_X7_thrown ml_L_147 (by decide) rfl (rest := []) rfl (Nat.le_of_ble_eq_true rfl) (dq 18 rfl) (by constructor <;> (simp only [rmk, room_1]; omega)) ?_
  refine a_iload K (dq 19 rfl) rfl ?_
  refine a_icmp_eq K (tgt := 2134) (dq 20 rfl) rfl (fun c6 => ?_) (fun c6 => ?_)
  · have h := ite_t c6 h
    refine a_iload K (dq 21 rfl) rfl ?_
    refine a_if_ne K (tgt := 2151) (dq 22 rfl) rfl (fun c7 => ?_) (fun c7 => ?_)
    · have h := ite_f c7 h
      refine a_goto K (tgt := 2476) (dq 23 rfl) rfl ?_
      obtain rfl := Option.some.inj h
      refine a_le2 (ls' := [some (.ref b), some (.ref (ρ 0 0)), some (.ref (ρ 20 0)), some (.ref (ρ 30 0)), some (.ref (ρ 31 0)), some (.int i), none, none, none]) ⟨rfl, rfl, rfl, rfl, rfl, rfl, trivial⟩ ?_
      exact hk _ _ (by simp only [rmk]; omega) (by simp only [rmk]; omega)
    · have h := ite_t c7 h
      refine a_aload_n K (dq 24 rfl) rfl rfl ?_
      refine a_iconst K (dq 25 rfl) (v := 0) rfl ?_
      refine a_lald K (dq 26 rfl) ?_
      refine a_iload K (dq 27 rfl) rfl ?_
      refine a_i2l K (dq 28 rfl) ?_
      refine a_lcmp K (dq 29 rfl) ?_
      refine a_if_eq K (tgt := 2151) (dq 30 rfl) rfl (fun c8 => ?_) (fun c8 => ?_)
      · have h := ite_t c8 h
        refine a_goto K (tgt := 2476) (dq 23 rfl) rfl ?_
        obtain rfl := Option.some.inj h
        refine a_le2 (ls' := [some (.ref b), some (.ref (ρ 0 0)), some (.ref (ρ 20 0)), some (.ref (ρ 30 0)), some (.ref (ρ 31 0)), some (.int i), none, none, none]) ⟨rfl, rfl, rfl, rfl, rfl, rfl, trivial⟩ ?_
        exact hk _ _ (by simp only [rmk]; omega) (by simp only [rmk]; omega)
      · have h := ite_f c8 h
        refine a_iconst K (dq 31 rfl) (v := 0) rfl ?_
        cases h
  · have h := ite_f c6 h
    refine a_iconst K (dq 33 rfl) (v := 0) rfl ?_
    cases h
def t_lc_32 : List (Nat × Instr × Nat) := [(2154, .aload_n 1, 1), (2155, .aload_n 0, 1), (2156, .iload 5, 2), (2158, .iconst 1, 1), (2159, .iadd, 1), (2160, .iaload, 1), (2161, .aload_n 3, 1), (2162, .invokestatic 249, 3), (2165, .istore 6, 2), (2167, .aload_n 2, 1), (2168, .aload_n 0, 1), (2169, .iload 5, 2), (2171, .iconst 1, 1), (2172, .iadd, 1), (2173, .iaload, 1), (2174, .invokevirtual 251, 3), (2177, .istore 7, 2), (2179, .aload_n 2, 1), (2180, .invokevirtual 147, 3), (2183, .iload 6, 2), (2185, .if_icmp .eq 5, 3), (2190, .iload 6, 2), (2192, .ifCond .ne 15, 3), (2207, .goto 269, 3), (2195, .aload_n 3, 1), (2196, .iconst 0, 1), (2197, .laload, 1), (2198, .iload 7, 2), (2200, .i2l, 1), (2201, .lcmp, 1), (2202, .ifCond .eq 5, 3), (2205, .iconst 0, 1), (2206, .ireturn, 1), (2188, .iconst 0, 1), (2189, .ireturn, 1)]
theorem dt_lc_32 : tblOK code t_lc_32 = true := by decide +kernel
def p_lc_32 (xs : Nat → Int32) (L : Nat) (i : Int32) (σ : Sg) : Option Sg := if ib (i + 1) L then ((p_L_character (xs (i + 1).toNatClampNeg) σ).bind fun r2 => if ib (i + 1) L then ((p_X7_character (xs (i + 1).toNatClampNeg) r2.2).bind fun r4 => (p_X7_thrown  r4.2).bind fun r5 => if r5 = r2.1 then (if r2.1 = 0 then (if (lg_cmp (gL r4.2) r4.1.toInt64) = 0 then (some r4.2) else (none)) else (some r4.2)) else (none)) else none) else none
set_option maxRecDepth 20000 in
set_option maxHeartbeats 1000000 in
theorem s_lc_32 {l : Launch} {D : va_G} {ty : Nat → ClassId} {ρ : Nat → Nat → Nat} {N0 : Nat} (S : St l ty ρ N0) {xs : Nat → Int32} {L b : Nat} (i : Int32) (σ σ9 : Sg) (h : p_lc_32 xs L i σ = some σ9) {p : Program} {e : Env} {s : State} {m : MethodId} {args : Array Value} {below : List Frame} {meth : Method} {c : Code} {Q : State → Prop} (K : Cx p l s m args meth c code 9 RL ret D ty ρ N0) (hX : va_X b L xs s s.heap) (hbl : b < s.heap.size) (hbA : ¬ N0 ≤ b) {cs ss : Nat} (hcs : cs + 20 ≤ 603072) (hss : ss + 120 ≤ 7207018) (hk : ∀ c9 s9, c9 ≤ cs + 20 → s9 ≤ ss + 120 → WA p l e room_1 s m args below meth c D ty ρ N0 9 Q 2476 [some (.ref b), some (.ref (ρ 0 0)), some (.ref (ρ 20 0)), some (.ref (ρ 30 0)), some (.ref (ρ 31 0)), some (.int i), none, none, none] [] σ9 c9 s9) : WA p l e room_1 s m args below meth c D ty ρ N0 9 Q 2154 [some (.ref b), some (.ref (ρ 0 0)), some (.ref (ρ 20 0)), some (.ref (ρ 30 0)), some (.ref (ρ 31 0)), some (.int i), none, none, none] [] σ cs ss := by
  have dq := @tat _ _ dt_lc_32
  unfold p_lc_32 at h
  refine a_aload_n K (dq 0 rfl) rfl rfl ?_
  refine a_aload_n K (dq 1 rfl) rfl rfl ?_
  refine a_iload K (dq 2 rfl) rfl ?_
  refine a_iconst K (dq 3 rfl) (v := 1) rfl ?_
  refine a_iadd K (dq 4 rfl) ?_
  obtain ⟨c1, h⟩ := ib_some h
  refine a_sld K hX hbl hbA c1 (dq 5 rfl) ?_
  refine a_aload_n K (dq 6 rfl) rfl rfl ?_
  obtain ⟨r2, h2, h⟩ := bnd h
  refine a_callH K (s_L_character S (xs (i + 1).toNatClampNeg) σ r2 h2) cw_L_character mh_L_249 (by decide) rfl (rest := []) rfl (Nat.le_of_ble_eq_true rfl) (dq 7 rfl) (by constructor <;> (simp only [rmk, room_1]; omega)) ?_
  refine a_istore K (dq 8 rfl) (Nat.le_of_ble_eq_true rfl) (ls' := [some (.ref b), some (.ref (ρ 0 0)), some (.ref (ρ 20 0)), some (.ref (ρ 30 0)), some (.ref (ρ 31 0)), some (.int i), some (.int r2.1), none, none]) rfl ?_
  refine a_aload_n K (dq 9 rfl) rfl rfl ?_
  refine a_aload_n K (dq 10 rfl) rfl rfl ?_
  refine a_iload K (dq 11 rfl) rfl ?_
  refine a_iconst K (dq 12 rfl) (v := 1) rfl ?_
  refine a_iadd K (dq 13 rfl) ?_
  obtain ⟨c3, h⟩ := ib_some h
  refine a_sld K hX hbl hbA c3 (dq 14 rfl) ?_
  obtain ⟨r4, h4, h⟩ := bnd h
  refine a_callVi K (s_X7_character S (xs (i + 1).toNatClampNeg) r2.2 r4 h4) v_20 rfl rfl cw_X7_character ml_L_251 (by decide) rfl (rest := []) rfl (Nat.le_of_ble_eq_true rfl) (dq 15 rfl) (by constructor <;> (simp only [rmk, room_1]; omega)) ?_
  refine a_istore K (dq 16 rfl) (Nat.le_of_ble_eq_true rfl) (ls' := [some (.ref b), some (.ref (ρ 0 0)), some (.ref (ρ 20 0)), some (.ref (ρ 30 0)), some (.ref (ρ 31 0)), some (.int i), some (.int r2.1), some (.int r4.1), none]) rfl ?_
  refine a_aload_n K (dq 17 rfl) rfl rfl ?_
  obtain ⟨r5, h5, h⟩ := bnd h
  refine a_callVi K (s_X7_thrown S  r4.2 r5 h5) v_20 rfl rfl cw_X7_thrown ml_L_147 (by decide) rfl (rest := []) rfl (Nat.le_of_ble_eq_true rfl) (dq 18 rfl) (by constructor <;> (simp only [rmk, room_1]; omega)) ?_
  refine a_iload K (dq 19 rfl) rfl ?_
  refine a_icmp_eq K (tgt := 2190) (dq 20 rfl) rfl (fun c6 => ?_) (fun c6 => ?_)
  · have h := ite_t c6 h
    refine a_iload K (dq 21 rfl) rfl ?_
    refine a_if_ne K (tgt := 2207) (dq 22 rfl) rfl (fun c7 => ?_) (fun c7 => ?_)
    · have h := ite_f c7 h
      refine a_goto K (tgt := 2476) (dq 23 rfl) rfl ?_
      obtain rfl := Option.some.inj h
      refine a_le2 (ls' := [some (.ref b), some (.ref (ρ 0 0)), some (.ref (ρ 20 0)), some (.ref (ρ 30 0)), some (.ref (ρ 31 0)), some (.int i), none, none, none]) ⟨rfl, rfl, rfl, rfl, rfl, rfl, trivial⟩ ?_
      exact hk _ _ (by simp only [rmk]; omega) (by simp only [rmk]; omega)
    · have h := ite_t c7 h
      refine a_aload_n K (dq 24 rfl) rfl rfl ?_
      refine a_iconst K (dq 25 rfl) (v := 0) rfl ?_
      refine a_lald K (dq 26 rfl) ?_
      refine a_iload K (dq 27 rfl) rfl ?_
      refine a_i2l K (dq 28 rfl) ?_
      refine a_lcmp K (dq 29 rfl) ?_
      refine a_if_eq K (tgt := 2207) (dq 30 rfl) rfl (fun c8 => ?_) (fun c8 => ?_)
      · have h := ite_t c8 h
        refine a_goto K (tgt := 2476) (dq 23 rfl) rfl ?_
        obtain rfl := Option.some.inj h
        refine a_le2 (ls' := [some (.ref b), some (.ref (ρ 0 0)), some (.ref (ρ 20 0)), some (.ref (ρ 30 0)), some (.ref (ρ 31 0)), some (.int i), none, none, none]) ⟨rfl, rfl, rfl, rfl, rfl, rfl, trivial⟩ ?_
        exact hk _ _ (by simp only [rmk]; omega) (by simp only [rmk]; omega)
      · have h := ite_f c8 h
        refine a_iconst K (dq 31 rfl) (v := 0) rfl ?_
        cases h
  · have h := ite_f c6 h
    refine a_iconst K (dq 33 rfl) (v := 0) rfl ?_
    cases h
def t_lc_33 : List (Nat × Instr × Nat) := [(2210, .aload_n 1, 1), (2211, .aload_n 3, 1), (2212, .invokestatic 252, 3), (2215, .istore 6, 2), (2217, .aload_n 2, 1), (2218, .invokevirtual 254, 3), (2221, .istore 7, 2), (2223, .aload_n 2, 1), (2224, .invokevirtual 147, 3), (2227, .iload 6, 2), (2229, .if_icmp .eq 5, 3), (2234, .iload 6, 2), (2236, .ifCond .ne 15, 3), (2251, .goto 225, 3), (2239, .aload_n 3, 1), (2240, .iconst 0, 1), (2241, .laload, 1), (2242, .iload 7, 2), (2244, .i2l, 1), (2245, .lcmp, 1), (2246, .ifCond .eq 5, 3), (2249, .iconst 0, 1), (2250, .ireturn, 1), (2232, .iconst 0, 1), (2233, .ireturn, 1)]
theorem dt_lc_33 : tblOK code t_lc_33 = true := by decide +kernel
def p_lc_33 (xs : Nat → Int32) (L : Nat) (i : Int32) (σ : Sg) : Option Sg := (p_L_meanToll  σ).bind fun r1 => (p_X7_meanToll  r1.2).bind fun r2 => (p_X7_thrown  r2.2).bind fun r3 => if r3 = r1.1 then (if r1.1 = 0 then (if (lg_cmp (gL r2.2) r2.1.toInt64) = 0 then (some r2.2) else (none)) else (some r2.2)) else (none)
set_option maxRecDepth 20000 in
set_option maxHeartbeats 1000000 in
theorem s_lc_33 {l : Launch} {D : va_G} {ty : Nat → ClassId} {ρ : Nat → Nat → Nat} {N0 : Nat} (S : St l ty ρ N0) {xs : Nat → Int32} {L b : Nat} (i : Int32) (σ σ9 : Sg) (h : p_lc_33 xs L i σ = some σ9) {p : Program} {e : Env} {s : State} {m : MethodId} {args : Array Value} {below : List Frame} {meth : Method} {c : Code} {Q : State → Prop} (K : Cx p l s m args meth c code 9 RL ret D ty ρ N0) (hX : va_X b L xs s s.heap) (hbl : b < s.heap.size) (hbA : ¬ N0 ≤ b) {cs ss : Nat} (hcs : cs + 20 ≤ 603072) (hss : ss + 120 ≤ 7207018) (hk : ∀ c9 s9, c9 ≤ cs + 20 → s9 ≤ ss + 120 → WA p l e room_1 s m args below meth c D ty ρ N0 9 Q 2476 [some (.ref b), some (.ref (ρ 0 0)), some (.ref (ρ 20 0)), some (.ref (ρ 30 0)), some (.ref (ρ 31 0)), some (.int i), none, none, none] [] σ9 c9 s9) : WA p l e room_1 s m args below meth c D ty ρ N0 9 Q 2210 [some (.ref b), some (.ref (ρ 0 0)), some (.ref (ρ 20 0)), some (.ref (ρ 30 0)), some (.ref (ρ 31 0)), some (.int i), none, none, none] [] σ cs ss := by
  have dq := @tat _ _ dt_lc_33
  unfold p_lc_33 at h
  refine a_aload_n K (dq 0 rfl) rfl rfl ?_
  refine a_aload_n K (dq 1 rfl) rfl rfl ?_
  obtain ⟨r1, h1, h⟩ := bnd h
  refine a_callH K (s_L_meanToll S  σ r1 h1) cw_L_meanToll mh_L_252 (by decide) rfl (rest := []) rfl (Nat.le_of_ble_eq_true rfl) (dq 2 rfl) (by constructor <;> (simp only [rmk, room_1]; omega)) ?_
  refine a_istore K (dq 3 rfl) (Nat.le_of_ble_eq_true rfl) (ls' := [some (.ref b), some (.ref (ρ 0 0)), some (.ref (ρ 20 0)), some (.ref (ρ 30 0)), some (.ref (ρ 31 0)), some (.int i), some (.int r1.1), none, none]) rfl ?_
  refine a_aload_n K (dq 4 rfl) rfl rfl ?_
  obtain ⟨r2, h2, h⟩ := bnd h
  refine a_callVi K (s_X7_meanToll S  r1.2 r2 h2) v_20 rfl rfl cw_X7_meanToll ml_L_254 (by decide) rfl (rest := []) rfl (Nat.le_of_ble_eq_true rfl) (dq 5 rfl) (by constructor <;> (simp only [rmk, room_1]; omega)) ?_
  refine a_istore K (dq 6 rfl) (Nat.le_of_ble_eq_true rfl) (ls' := [some (.ref b), some (.ref (ρ 0 0)), some (.ref (ρ 20 0)), some (.ref (ρ 30 0)), some (.ref (ρ 31 0)), some (.int i), some (.int r1.1), some (.int r2.1), none]) rfl ?_
  refine a_aload_n K (dq 7 rfl) rfl rfl ?_
  obtain ⟨r3, h3, h⟩ := bnd h
  refine a_callVi K (s_X7_thrown S  r2.2 r3 h3) v_20 rfl rfl cw_X7_thrown ml_L_147 (by decide) rfl (rest := []) rfl (Nat.le_of_ble_eq_true rfl) (dq 8 rfl) (by constructor <;> (simp only [rmk, room_1]; omega)) ?_
  refine a_iload K (dq 9 rfl) rfl ?_
  refine a_icmp_eq K (tgt := 2234) (dq 10 rfl) rfl (fun c4 => ?_) (fun c4 => ?_)
  · have h := ite_t c4 h
    refine a_iload K (dq 11 rfl) rfl ?_
    refine a_if_ne K (tgt := 2251) (dq 12 rfl) rfl (fun c5 => ?_) (fun c5 => ?_)
    · have h := ite_f c5 h
      refine a_goto K (tgt := 2476) (dq 13 rfl) rfl ?_
      obtain rfl := Option.some.inj h
      refine a_le2 (ls' := [some (.ref b), some (.ref (ρ 0 0)), some (.ref (ρ 20 0)), some (.ref (ρ 30 0)), some (.ref (ρ 31 0)), some (.int i), none, none, none]) ⟨rfl, rfl, rfl, rfl, rfl, rfl, trivial⟩ ?_
      exact hk _ _ (by simp only [rmk]; omega) (by simp only [rmk]; omega)
    · have h := ite_t c5 h
      refine a_aload_n K (dq 14 rfl) rfl rfl ?_
      refine a_iconst K (dq 15 rfl) (v := 0) rfl ?_
      refine a_lald K (dq 16 rfl) ?_
      refine a_iload K (dq 17 rfl) rfl ?_
      refine a_i2l K (dq 18 rfl) ?_
      refine a_lcmp K (dq 19 rfl) ?_
      refine a_if_eq K (tgt := 2251) (dq 20 rfl) rfl (fun c6 => ?_) (fun c6 => ?_)
      · have h := ite_t c6 h
        refine a_goto K (tgt := 2476) (dq 13 rfl) rfl ?_
        obtain rfl := Option.some.inj h
        refine a_le2 (ls' := [some (.ref b), some (.ref (ρ 0 0)), some (.ref (ρ 20 0)), some (.ref (ρ 30 0)), some (.ref (ρ 31 0)), some (.int i), none, none, none]) ⟨rfl, rfl, rfl, rfl, rfl, rfl, trivial⟩ ?_
        exact hk _ _ (by simp only [rmk]; omega) (by simp only [rmk]; omega)
      · have h := ite_f c6 h
        refine a_iconst K (dq 21 rfl) (v := 0) rfl ?_
        cases h
  · have h := ite_f c4 h
    refine a_iconst K (dq 23 rfl) (v := 0) rfl ?_
    cases h
def t_lc_35 : List (Nat × Instr × Nat) := [(2319, .aload_n 1, 1), (2320, .aload_n 0, 1), (2321, .iload 5, 2), (2323, .iconst 1, 1), (2324, .iadd, 1), (2325, .iaload, 1), (2326, .aload_n 3, 1), (2327, .invokestatic 259, 3), (2330, .istore 6, 2), (2332, .aload_n 2, 1), (2333, .aload_n 0, 1), (2334, .iload 5, 2), (2336, .iconst 1, 1), (2337, .iadd, 1), (2338, .iaload, 1), (2339, .invokevirtual 261, 3), (2342, .istore 7, 2), (2344, .aload_n 2, 1), (2345, .invokevirtual 147, 3), (2348, .iload 6, 2), (2350, .if_icmp .eq 5, 3), (2355, .iload 6, 2), (2357, .ifCond .ne 15, 3), (2372, .goto 104, 3), (2360, .aload_n 3, 1), (2361, .iconst 0, 1), (2362, .laload, 1), (2363, .iload 7, 2), (2365, .i2l, 1), (2366, .lcmp, 1), (2367, .ifCond .eq 5, 3), (2370, .iconst 0, 1), (2371, .ireturn, 1), (2353, .iconst 0, 1), (2354, .ireturn, 1)]
theorem dt_lc_35 : tblOK code t_lc_35 = true := by decide +kernel
def p_lc_35 (xs : Nat → Int32) (L : Nat) (i : Int32) (σ : Sg) : Option Sg := if ib (i + 1) L then ((p_L_account (xs (i + 1).toNatClampNeg) σ).bind fun r2 => if ib (i + 1) L then ((p_X7_account (xs (i + 1).toNatClampNeg) r2.2).bind fun r4 => (p_X7_thrown  r4.2).bind fun r5 => if r5 = r2.1 then (if r2.1 = 0 then (if (lg_cmp (gL r4.2) r4.1.toInt64) = 0 then (some r4.2) else (none)) else (some r4.2)) else (none)) else none) else none
set_option maxRecDepth 20000 in
set_option maxHeartbeats 1000000 in
theorem s_lc_35 {l : Launch} {D : va_G} {ty : Nat → ClassId} {ρ : Nat → Nat → Nat} {N0 : Nat} (S : St l ty ρ N0) {xs : Nat → Int32} {L b : Nat} (i : Int32) (σ σ9 : Sg) (h : p_lc_35 xs L i σ = some σ9) {p : Program} {e : Env} {s : State} {m : MethodId} {args : Array Value} {below : List Frame} {meth : Method} {c : Code} {Q : State → Prop} (K : Cx p l s m args meth c code 9 RL ret D ty ρ N0) (hX : va_X b L xs s s.heap) (hbl : b < s.heap.size) (hbA : ¬ N0 ≤ b) {cs ss : Nat} (hcs : cs + 20 ≤ 603072) (hss : ss + 120 ≤ 7207018) (hk : ∀ c9 s9, c9 ≤ cs + 20 → s9 ≤ ss + 120 → WA p l e room_1 s m args below meth c D ty ρ N0 9 Q 2476 [some (.ref b), some (.ref (ρ 0 0)), some (.ref (ρ 20 0)), some (.ref (ρ 30 0)), some (.ref (ρ 31 0)), some (.int i), none, none, none] [] σ9 c9 s9) : WA p l e room_1 s m args below meth c D ty ρ N0 9 Q 2319 [some (.ref b), some (.ref (ρ 0 0)), some (.ref (ρ 20 0)), some (.ref (ρ 30 0)), some (.ref (ρ 31 0)), some (.int i), none, none, none] [] σ cs ss := by
  have dq := @tat _ _ dt_lc_35
  unfold p_lc_35 at h
  refine a_aload_n K (dq 0 rfl) rfl rfl ?_
  refine a_aload_n K (dq 1 rfl) rfl rfl ?_
  refine a_iload K (dq 2 rfl) rfl ?_
  refine a_iconst K (dq 3 rfl) (v := 1) rfl ?_
  refine a_iadd K (dq 4 rfl) ?_
  obtain ⟨c1, h⟩ := ib_some h
  refine a_sld K hX hbl hbA c1 (dq 5 rfl) ?_
  refine a_aload_n K (dq 6 rfl) rfl rfl ?_
  obtain ⟨r2, h2, h⟩ := bnd h
  refine a_callH K (s_L_account S (xs (i + 1).toNatClampNeg) σ r2 h2) cw_L_account mh_L_259 (by decide) rfl (rest := []) rfl (Nat.le_of_ble_eq_true rfl) (dq 7 rfl) (by constructor <;> (simp only [rmk, room_1]; omega)) ?_
  refine a_istore K (dq 8 rfl) (Nat.le_of_ble_eq_true rfl) (ls' := [some (.ref b), some (.ref (ρ 0 0)), some (.ref (ρ 20 0)), some (.ref (ρ 30 0)), some (.ref (ρ 31 0)), some (.int i), some (.int r2.1), none, none]) rfl ?_
  refine a_aload_n K (dq 9 rfl) rfl rfl ?_
  refine a_aload_n K (dq 10 rfl) rfl rfl ?_
  refine a_iload K (dq 11 rfl) rfl ?_
  refine a_iconst K (dq 12 rfl) (v := 1) rfl ?_
  refine a_iadd K (dq 13 rfl) ?_
  obtain ⟨c3, h⟩ := ib_some h
  refine a_sld K hX hbl hbA c3 (dq 14 rfl) ?_
  obtain ⟨r4, h4, h⟩ := bnd h
  refine a_callVi K (s_X7_account S (xs (i + 1).toNatClampNeg) r2.2 r4 h4) v_20 rfl rfl cw_X7_account ml_L_261 (by decide) rfl (rest := []) rfl (Nat.le_of_ble_eq_true rfl) (dq 15 rfl) (by constructor <;> (simp only [rmk, room_1]; omega)) ?_
  refine a_istore K (dq 16 rfl) (Nat.le_of_ble_eq_true rfl) (ls' := [some (.ref b), some (.ref (ρ 0 0)), some (.ref (ρ 20 0)), some (.ref (ρ 30 0)), some (.ref (ρ 31 0)), some (.int i), some (.int r2.1), some (.int r4.1), none]) rfl ?_
  refine a_aload_n K (dq 17 rfl) rfl rfl ?_
  obtain ⟨r5, h5, h⟩ := bnd h
  refine a_callVi K (s_X7_thrown S  r4.2 r5 h5) v_20 rfl rfl cw_X7_thrown ml_L_147 (by decide) rfl (rest := []) rfl (Nat.le_of_ble_eq_true rfl) (dq 18 rfl) (by constructor <;> (simp only [rmk, room_1]; omega)) ?_
  refine a_iload K (dq 19 rfl) rfl ?_
  refine a_icmp_eq K (tgt := 2355) (dq 20 rfl) rfl (fun c6 => ?_) (fun c6 => ?_)
  · have h := ite_t c6 h
    refine a_iload K (dq 21 rfl) rfl ?_
    refine a_if_ne K (tgt := 2372) (dq 22 rfl) rfl (fun c7 => ?_) (fun c7 => ?_)
    · have h := ite_f c7 h
      refine a_goto K (tgt := 2476) (dq 23 rfl) rfl ?_
      obtain rfl := Option.some.inj h
      refine a_le2 (ls' := [some (.ref b), some (.ref (ρ 0 0)), some (.ref (ρ 20 0)), some (.ref (ρ 30 0)), some (.ref (ρ 31 0)), some (.int i), none, none, none]) ⟨rfl, rfl, rfl, rfl, rfl, rfl, trivial⟩ ?_
      exact hk _ _ (by simp only [rmk]; omega) (by simp only [rmk]; omega)
    · have h := ite_t c7 h
      refine a_aload_n K (dq 24 rfl) rfl rfl ?_
      refine a_iconst K (dq 25 rfl) (v := 0) rfl ?_
      refine a_lald K (dq 26 rfl) ?_
      refine a_iload K (dq 27 rfl) rfl ?_
      refine a_i2l K (dq 28 rfl) ?_
      refine a_lcmp K (dq 29 rfl) ?_
      refine a_if_eq K (tgt := 2372) (dq 30 rfl) rfl (fun c8 => ?_) (fun c8 => ?_)
      · have h := ite_t c8 h
        refine a_goto K (tgt := 2476) (dq 23 rfl) rfl ?_
        obtain rfl := Option.some.inj h
        refine a_le2 (ls' := [some (.ref b), some (.ref (ρ 0 0)), some (.ref (ρ 20 0)), some (.ref (ρ 30 0)), some (.ref (ρ 31 0)), some (.int i), none, none, none]) ⟨rfl, rfl, rfl, rfl, rfl, rfl, trivial⟩ ?_
        exact hk _ _ (by simp only [rmk]; omega) (by simp only [rmk]; omega)
      · have h := ite_f c8 h
        refine a_iconst K (dq 31 rfl) (v := 0) rfl ?_
        cases h
  · have h := ite_f c6 h
    refine a_iconst K (dq 33 rfl) (v := 0) rfl ?_
    cases h
