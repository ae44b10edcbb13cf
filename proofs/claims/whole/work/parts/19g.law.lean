def t_lc_36 : List (Nat × Instr × Nat) := [(2375, .aload_n 1, 1), (2376, .aload_n 3, 1), (2377, .invokestatic 262, 3), (2380, .istore 6, 2), (2382, .aload_n 2, 1), (2383, .invokevirtual 264, 3), (2386, .istore 7, 2), (2388, .aload_n 2, 1), (2389, .invokevirtual 147, 3), (2392, .iload 6, 2), (2394, .if_icmp .eq 5, 3), (2399, .iload 6, 2), (2401, .ifCond .ne 15, 3), (2416, .goto 60, 3), (2404, .aload_n 3, 1), (2405, .iconst 0, 1), (2406, .laload, 1), (2407, .iload 7, 2), (2409, .i2l, 1), (2410, .lcmp, 1), (2411, .ifCond .eq 5, 3), (2414, .iconst 0, 1), (2415, .ireturn, 1), (2397, .iconst 0, 1), (2398, .ireturn, 1)]
theorem dt_lc_36 : tblOK code t_lc_36 = true := by decide +kernel
def p_lc_36 (xs : Nat → Int32) (L : Nat) (i : Int32) (σ : Sg) : Option Sg := (p_L_undo  σ).bind fun r1 => (p_X7_undo  r1.2).bind fun r2 => (p_X7_thrown  r2.2).bind fun r3 => if r3 = r1.1 then (if r1.1 = 0 then (if (lg_cmp (gL r2.2) r2.1.toInt64) = 0 then (some r2.2) else (none)) else (some r2.2)) else (none)
set_option maxRecDepth 20000 in
set_option maxHeartbeats 1000000 in
theorem s_lc_36 {l : Launch} {D : va_G} {ty : Nat → ClassId} {ρ : Nat → Nat → Nat} {N0 : Nat} (S : St l ty ρ N0) {xs : Nat → Int32} {L b : Nat} (i : Int32) (σ σ9 : Sg) (h : p_lc_36 xs L i σ = some σ9) {p : Program} {e : Env} {s : State} {m : MethodId} {args : Array Value} {below : List Frame} {meth : Method} {c : Code} {Q : State → Prop} (K : Cx p l s m args meth c code 9 RL ret D ty ρ N0) (hX : va_X b L xs s s.heap) (hbl : b < s.heap.size) (hbA : ¬ N0 ≤ b) {cs ss : Nat} (hcs : cs + 20 ≤ 603072) (hss : ss + 120 ≤ 7207018) (hk : ∀ c9 s9, c9 ≤ cs + 20 → s9 ≤ ss + 120 → WA p l e room_1 s m args below meth c D ty ρ N0 9 Q 2476 [some (.ref b), some (.ref (ρ 0 0)), some (.ref (ρ 20 0)), some (.ref (ρ 30 0)), some (.ref (ρ 31 0)), some (.int i), none, none, none] [] σ9 c9 s9) : WA p l e room_1 s m args below meth c D ty ρ N0 9 Q 2375 [some (.ref b), some (.ref (ρ 0 0)), some (.ref (ρ 20 0)), some (.ref (ρ 30 0)), some (.ref (ρ 31 0)), some (.int i), none, none, none] [] σ cs ss := by
  have dq := @tat _ _ dt_lc_36
  unfold p_lc_36 at h
  refine a_aload_n K (dq 0 rfl) rfl rfl ?_
  refine a_aload_n K (dq 1 rfl) rfl rfl ?_
  obtain ⟨r1, h1, h⟩ := bnd h
  refine a_callH K (s_L_undo S  σ r1 h1) cw_L_undo mh_L_262 (by decide) rfl (rest := []) rfl (Nat.le_of_ble_eq_true rfl) (dq 2 rfl) (by constructor <;> (simp only [rmk, room_1]; omega)) ?_
  refine a_istore K (dq 3 rfl) (Nat.le_of_ble_eq_true rfl) (ls' := [some (.ref b), some (.ref (ρ 0 0)), some (.ref (ρ 20 0)), some (.ref (ρ 30 0)), some (.ref (ρ 31 0)), some (.int i), some (.int r1.1), none, none]) rfl ?_
  refine a_aload_n K (dq 4 rfl) rfl rfl ?_
  obtain ⟨r2, h2, h⟩ := bnd h
  refine a_callVi K (s_X7_undo S  r1.2 r2 h2) v_20 rfl rfl cw_X7_undo ml_L_264 (by decide) rfl (rest := []) rfl (Nat.le_of_ble_eq_true rfl) (dq 5 rfl) (by constructor <;> (simp only [rmk, room_1]; omega)) ?_
  refine a_istore K (dq 6 rfl) (Nat.le_of_ble_eq_true rfl) (ls' := [some (.ref b), some (.ref (ρ 0 0)), some (.ref (ρ 20 0)), some (.ref (ρ 30 0)), some (.ref (ρ 31 0)), some (.int i), some (.int r1.1), some (.int r2.1), none]) rfl ?_
  refine a_aload_n K (dq 7 rfl) rfl rfl ?_
  obtain ⟨r3, h3, h⟩ := bnd h
  refine a_callVi K (s_X7_thrown S  r2.2 r3 h3) v_20 rfl rfl cw_X7_thrown ml_L_147 (by decide) rfl (rest := []) rfl (Nat.le_of_ble_eq_true rfl) (dq 8 rfl) (by constructor <;> (simp only [rmk, room_1]; omega)) ?_
  refine a_iload K (dq 9 rfl) rfl ?_
  refine a_icmp_eq K (tgt := 2399) (dq 10 rfl) rfl (fun c4 => ?_) (fun c4 => ?_)
  · have h := ite_t c4 h
    refine a_iload K (dq 11 rfl) rfl ?_
    refine a_if_ne K (tgt := 2416) (dq 12 rfl) rfl (fun c5 => ?_) (fun c5 => ?_)
    · have h := ite_f c5 h
      refine a_goto K (tgt := 2476) (dq 13 rfl) rfl ?_
      obtain rfl := Option.some.inj h
      refine a_le2 (ls' := [some (.ref b), some (.ref (ρ 0 0)), some (.ref (ρ 20 0)), some (.ref (ρ 30 0)), some (.ref (ρ 31 0)), some (.int i), none, none, none]) ⟨rfl, rfl, rfl, rfl, rfl, rfl, trivial⟩ ?_
      exact hk _ _ (by simp only [rmk]; omega) (by simp only [rmk]; omega)
    · have h := ite_t c5 h
      refine a_aload_n K (dq 14 rfl) rfl rfl ?_
      refine a_iconst K (dq 15 rfl) (v := 0) rfl ?_
      refine a_lald K (dq 16 rfl) ?_
      refine a_iload K (dq 17 rfl) rfl ?_
      refine a_i2l K (dq 18 rfl) ?_
      refine a_lcmp K (dq 19 rfl) ?_
      refine a_if_eq K (tgt := 2416) (dq 20 rfl) rfl (fun c6 => ?_) (fun c6 => ?_)
      · have h := ite_t c6 h
        refine a_goto K (tgt := 2476) (dq 13 rfl) rfl ?_
        obtain rfl := Option.some.inj h
        refine a_le2 (ls' := [some (.ref b), some (.ref (ρ 0 0)), some (.ref (ρ 20 0)), some (.ref (ρ 30 0)), some (.ref (ρ 31 0)), some (.int i), none, none, none]) ⟨rfl, rfl, rfl, rfl, rfl, rfl, trivial⟩ ?_
        exact hk _ _ (by simp only [rmk]; omega) (by simp only [rmk]; omega)
      · have h := ite_f c6 h
        refine a_iconst K (dq 21 rfl) (v := 0) rfl ?_
        cases h
  · have h := ite_f c4 h
    refine a_iconst K (dq 23 rfl) (v := 0) rfl ?_
    cases h
def t_lc_37 : List (Nat × Instr × Nat) := [(2419, .aload_n 1, 1), (2420, .invokevirtual 265, 3), (2423, .aload_n 2, 1), (2424, .invokevirtual 268, 3), (2427, .if_icmp .eq 49, 3), (2430, .iconst 0, 1), (2431, .ireturn, 1)]
theorem dt_lc_37 : tblOK code t_lc_37 = true := by decide +kernel
def p_lc_37 (xs : Nat → Int32) (L : Nat) (i : Int32) (σ : Sg) : Option Sg := (p_X6_save  σ).bind fun r1 => (p_X7_save  r1.2).bind fun r2 => if r1.1 = r2.1 then (some r2.2) else (none)
set_option maxRecDepth 20000 in
set_option maxHeartbeats 1000000 in
theorem s_lc_37 {l : Launch} {D : va_G} {ty : Nat → ClassId} {ρ : Nat → Nat → Nat} {N0 : Nat} (S : St l ty ρ N0) {xs : Nat → Int32} {L b : Nat} (i : Int32) (σ σ9 : Sg) (h : p_lc_37 xs L i σ = some σ9) {p : Program} {e : Env} {s : State} {m : MethodId} {args : Array Value} {below : List Frame} {meth : Method} {c : Code} {Q : State → Prop} (K : Cx p l s m args meth c code 9 RL ret D ty ρ N0) (hX : va_X b L xs s s.heap) (hbl : b < s.heap.size) (hbA : ¬ N0 ≤ b) {cs ss : Nat} (hcs : cs + 20 ≤ 603072) (hss : ss + 120 ≤ 7207018) (hk : ∀ c9 s9, c9 ≤ cs + 20 → s9 ≤ ss + 120 → WA p l e room_1 s m args below meth c D ty ρ N0 9 Q 2476 [some (.ref b), some (.ref (ρ 0 0)), some (.ref (ρ 20 0)), some (.ref (ρ 30 0)), some (.ref (ρ 31 0)), some (.int i), none, none, none] [] σ9 c9 s9) : WA p l e room_1 s m args below meth c D ty ρ N0 9 Q 2419 [some (.ref b), some (.ref (ρ 0 0)), some (.ref (ρ 20 0)), some (.ref (ρ 30 0)), some (.ref (ρ 31 0)), some (.int i), none, none, none] [] σ cs ss := by
  have dq := @tat _ _ dt_lc_37
  unfold p_lc_37 at h
  refine a_aload_n K (dq 0 rfl) rfl rfl ?_
  obtain ⟨r1, h1, h⟩ := bnd h
  refine a_callVi K (s_X6_save S  σ r1 h1) v_0 rfl rfl cw_X6_save ml_L_265 (by decide) rfl (rest := []) rfl (Nat.le_of_ble_eq_true rfl) (dq 1 rfl) (by constructor <;> (simp only [rmk, room_1]; omega)) ?_
  refine a_aload_n K (dq 2 rfl) rfl rfl ?_
  obtain ⟨r2, h2, h⟩ := bnd h
  refine a_callVi K (s_X7_save S  r1.2 r2 h2) v_20 rfl rfl cw_X7_save ml_L_268 (by decide) rfl (rest := [.int r1.1]) rfl (Nat.le_of_ble_eq_true rfl) (dq 3 rfl) (by constructor <;> (simp only [rmk, room_1]; omega)) ?_
  refine a_icmp_eq K (tgt := 2476) (dq 4 rfl) rfl (fun c3 => ?_) (fun c3 => ?_)
  · have h := ite_t c3 h
    obtain rfl := Option.some.inj h
    refine a_le2 (ls' := [some (.ref b), some (.ref (ρ 0 0)), some (.ref (ρ 20 0)), some (.ref (ρ 30 0)), some (.ref (ρ 31 0)), some (.int i), none, none, none]) ⟨rfl, rfl, rfl, rfl, rfl, rfl, trivial⟩ ?_
    exact hk _ _ (by simp only [rmk]; omega) (by simp only [rmk]; omega)
  · have h := ite_f c3 h
    refine a_iconst K (dq 5 rfl) (v := 0) rfl ?_
    cases h
def t_lc_38 : List (Nat × Instr × Nat) := [(2432, .aload_n 1, 1), (2433, .aload_n 3, 1), (2434, .invokestatic 269, 3), (2437, .istore 6, 2), (2439, .aload_n 2, 1), (2440, .invokevirtual 271, 3), (2443, .istore 7, 2), (2445, .aload_n 2, 1), (2446, .invokevirtual 147, 3), (2449, .iload 6, 2), (2451, .if_icmp .eq 5, 3), (2456, .iload 6, 2), (2458, .ifCond .ne 15, 3), (2473, .goto 3, 3), (2461, .aload_n 3, 1), (2462, .iconst 0, 1), (2463, .laload, 1), (2464, .iload 7, 2), (2466, .i2l, 1), (2467, .lcmp, 1), (2468, .ifCond .eq 5, 3), (2471, .iconst 0, 1), (2472, .ireturn, 1), (2454, .iconst 0, 1), (2455, .ireturn, 1)]
theorem dt_lc_38 : tblOK code t_lc_38 = true := by decide +kernel
def p_lc_38 (xs : Nat → Int32) (L : Nat) (i : Int32) (σ : Sg) : Option Sg := (p_L_restore  σ).bind fun r1 => (p_X7_restore  r1.2).bind fun r2 => (p_X7_thrown  r2.2).bind fun r3 => if r3 = r1.1 then (if r1.1 = 0 then (if (lg_cmp (gL r2.2) r2.1.toInt64) = 0 then (some r2.2) else (none)) else (some r2.2)) else (none)
set_option maxRecDepth 20000 in
set_option maxHeartbeats 1000000 in
theorem s_lc_38 {l : Launch} {D : va_G} {ty : Nat → ClassId} {ρ : Nat → Nat → Nat} {N0 : Nat} (S : St l ty ρ N0) {xs : Nat → Int32} {L b : Nat} (i : Int32) (σ σ9 : Sg) (h : p_lc_38 xs L i σ = some σ9) {p : Program} {e : Env} {s : State} {m : MethodId} {args : Array Value} {below : List Frame} {meth : Method} {c : Code} {Q : State → Prop} (K : Cx p l s m args meth c code 9 RL ret D ty ρ N0) (hX : va_X b L xs s s.heap) (hbl : b < s.heap.size) (hbA : ¬ N0 ≤ b) {cs ss : Nat} (hcs : cs + 20 ≤ 603072) (hss : ss + 120 ≤ 7207018) (hk : ∀ c9 s9, c9 ≤ cs + 20 → s9 ≤ ss + 120 → WA p l e room_1 s m args below meth c D ty ρ N0 9 Q 2476 [some (.ref b), some (.ref (ρ 0 0)), some (.ref (ρ 20 0)), some (.ref (ρ 30 0)), some (.ref (ρ 31 0)), some (.int i), none, none, none] [] σ9 c9 s9) : WA p l e room_1 s m args below meth c D ty ρ N0 9 Q 2432 [some (.ref b), some (.ref (ρ 0 0)), some (.ref (ρ 20 0)), some (.ref (ρ 30 0)), some (.ref (ρ 31 0)), some (.int i), none, none, none] [] σ cs ss := by
  have dq := @tat _ _ dt_lc_38
  unfold p_lc_38 at h
  refine a_aload_n K (dq 0 rfl) rfl rfl ?_
  refine a_aload_n K (dq 1 rfl) rfl rfl ?_
  obtain ⟨r1, h1, h⟩ := bnd h
  refine a_callH K (s_L_restore S  σ r1 h1) cw_L_restore mh_L_269 (by decide) rfl (rest := []) rfl (Nat.le_of_ble_eq_true rfl) (dq 2 rfl) (by constructor <;> (simp only [rmk, room_1]; omega)) ?_
  refine a_istore K (dq 3 rfl) (Nat.le_of_ble_eq_true rfl) (ls' := [some (.ref b), some (.ref (ρ 0 0)), some (.ref (ρ 20 0)), some (.ref (ρ 30 0)), some (.ref (ρ 31 0)), some (.int i), some (.int r1.1), none, none]) rfl ?_
  refine a_aload_n K (dq 4 rfl) rfl rfl ?_
  obtain ⟨r2, h2, h⟩ := bnd h
  refine a_callVi K (s_X7_restore S  r1.2 r2 h2) v_20 rfl rfl cw_X7_restore ml_L_271 (by decide) rfl (rest := []) rfl (Nat.le_of_ble_eq_true rfl) (dq 5 rfl) (by constructor <;> (simp only [rmk, room_1]; omega)) ?_
  refine a_istore K (dq 6 rfl) (Nat.le_of_ble_eq_true rfl) (ls' := [some (.ref b), some (.ref (ρ 0 0)), some (.ref (ρ 20 0)), some (.ref (ρ 30 0)), some (.ref (ρ 31 0)), some (.int i), some (.int r1.1), some (.int r2.1), none]) rfl ?_
  refine a_aload_n K (dq 7 rfl) rfl rfl ?_
  obtain ⟨r3, h3, h⟩ := bnd h
  refine a_callVi K (s_X7_thrown S  r2.2 r3 h3) v_20 rfl rfl cw_X7_thrown ml_L_147 (by decide) rfl (rest := []) rfl (Nat.le_of_ble_eq_true rfl) (dq 8 rfl) (by constructor <;> (simp only [rmk, room_1]; omega)) ?_
  refine a_iload K (dq 9 rfl) rfl ?_
  refine a_icmp_eq K (tgt := 2456) (dq 10 rfl) rfl (fun c4 => ?_) (fun c4 => ?_)
  · have h := ite_t c4 h
    refine a_iload K (dq 11 rfl) rfl ?_
    refine a_if_ne K (tgt := 2473) (dq 12 rfl) rfl (fun c5 => ?_) (fun c5 => ?_)
    · have h := ite_f c5 h
      refine a_goto K (tgt := 2476) (dq 13 rfl) rfl ?_
      obtain rfl := Option.some.inj h
      refine a_le2 (ls' := [some (.ref b), some (.ref (ρ 0 0)), some (.ref (ρ 20 0)), some (.ref (ρ 30 0)), some (.ref (ρ 31 0)), some (.int i), none, none, none]) ⟨rfl, rfl, rfl, rfl, rfl, rfl, trivial⟩ ?_
      exact hk _ _ (by simp only [rmk]; omega) (by simp only [rmk]; omega)
    · have h := ite_t c5 h
      refine a_aload_n K (dq 14 rfl) rfl rfl ?_
      refine a_iconst K (dq 15 rfl) (v := 0) rfl ?_
      refine a_lald K (dq 16 rfl) ?_
      refine a_iload K (dq 17 rfl) rfl ?_
      refine a_i2l K (dq 18 rfl) ?_
      refine a_lcmp K (dq 19 rfl) ?_
      refine a_if_eq K (tgt := 2473) (dq 20 rfl) rfl (fun c6 => ?_) (fun c6 => ?_)
      · have h := ite_t c6 h
        refine a_goto K (tgt := 2476) (dq 13 rfl) rfl ?_
        obtain rfl := Option.some.inj h
        refine a_le2 (ls' := [some (.ref b), some (.ref (ρ 0 0)), some (.ref (ρ 20 0)), some (.ref (ρ 30 0)), some (.ref (ρ 31 0)), some (.int i), none, none, none]) ⟨rfl, rfl, rfl, rfl, rfl, rfl, trivial⟩ ?_
        exact hk _ _ (by simp only [rmk]; omega) (by simp only [rmk]; omega)
      · have h := ite_f c6 h
        refine a_iconst K (dq 21 rfl) (v := 0) rfl ?_
        cases h
  · have h := ite_f c4 h
    refine a_iconst K (dq 23 rfl) (v := 0) rfl ?_
    cases h
