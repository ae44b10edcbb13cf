/-! CONSTRUCTORS -/
def z0 : Nat → Int32 := fun _ => 0
def m3 : Nat → Int32 := upd (upd (upd z0 0 (-1)) 1 (-1)) 2 (-1)
abbrev ia (ty : Nat → ClassId) (n : Nat) (f : Nat → Int32) : va_E := .inl (ty 0, n, .inl f)
abbrev ca (ty : Nat → ClassId) (n : Nat) : va_E := .inl (ty 1, n, .inl z0)
abbrev ra (ty : Nat → ClassId) (n : Nat) (f : Nat → Option Nat) : va_E := .inl (ty 2, n, .inr (.inr (.inr (.inr f))))
def cF (f : Nat → Nat) : List Value := [.int 0, .ref (f 0), .ref (f 1), .ref (f 2), .ref (f 3), .int 0, .int 0, .int 0, .int 0]
def cN (ty : Nat → ClassId) (f : Nat → Nat) : va_W := [(f 0, ia ty 12 z0), (f 1, ia ty 12 z0), (f 2, ia ty 12 z0), (f 3, ia ty 3 m3)]
def gC (ty : Nat → ClassId) (a : Nat) (f : Nat → Nat) : va_W := (a, .inr (3, cF f)) :: cN ty f
def k8 (cs : Nat → Nat) : Nat → Nat → Option Nat
  | 0 => fun _ => none
  | n + 1 => va_up (k8 cs n) n (some (cs n))
def c8 (ty : Nat → ClassId) (cs : Nat → Nat) (fs : Nat → Nat → Nat) : Nat → Nat → va_W
  | 0, _ => []
  | n + 1, k => gC ty (cs k) (fs k) ++ c8 ty cs fs n (k + 1)
theorem oi_i : Cond.instanceMethod Lib.objectInit ∈ GW := gwp 34 (by decide +kernel) rfl
theorem oi_c : Cond.code Lib.objectInit ⟨#[0xb1]⟩ 1 none ∈ GW := gwp 35 (by decide +kernel) rfl
theorem ac_int : Cond.arrayClass .int ∈ GW := gwp 73 (by decide +kernel) rfl
theorem ac_char : Cond.arrayClass .char ∈ GW := gwp 137 (by decide +kernel) rfl
theorem ac_long : Cond.arrayClass .long ∈ GW := gwp 1553 (by decide +kernel) rfl
theorem ac_double : Cond.arrayClass .double ∈ GW := gwp 1554 (by decide +kernel) rfl
theorem ci_code_X0 : Cond.code yX0_init cX0_init 2 none ∈ GW := gwp 78 (by decide +kernel) rfl
theorem ci_inst_X0 : Cond.instanceMethod yX0_init ∈ GW := gwp 77 (by decide +kernel) rfl
theorem ci_ini_X0 : Cond.initialized RX0 ∈ GW := gwp 4 (by decide +kernel) rfl
theorem ci_able_X0 : Cond.instantiable RX0 3 ∈ GW := gwp 75 (by decide +kernel) rfl
theorem ci_code_X1 : Cond.code yX1_init cX1_init 1 none ∈ GW := gwp 40 (by decide +kernel) rfl
theorem ci_inst_X1 : Cond.instanceMethod yX1_init ∈ GW := gwp 39 (by decide +kernel) rfl
theorem ci_ini_X1 : Cond.initialized RX1 ∈ GW := gwp 2 (by decide +kernel) rfl
theorem ci_able_X1 : Cond.instantiable RX1 9 ∈ GW := gwp 37 (by decide +kernel) rfl
theorem ci_code_X2 : Cond.code yX2_init cX2_init 1 none ∈ GW := gwp 142 (by decide +kernel) rfl
theorem ci_inst_X2 : Cond.instanceMethod yX2_init ∈ GW := gwp 141 (by decide +kernel) rfl
theorem ci_ini_X2 : Cond.initialized RX2 ∈ GW := gwp 7 (by decide +kernel) rfl
theorem ci_able_X2 : Cond.instantiable RX2 2 ∈ GW := gwp 139 (by decide +kernel) rfl
theorem ci_code_X3 : Cond.code yX3_init cX3_init 1 none ∈ GW := gwp 97 (by decide +kernel) rfl
theorem ci_inst_X3 : Cond.instanceMethod yX3_init ∈ GW := gwp 96 (by decide +kernel) rfl
theorem ci_ini_X3 : Cond.initialized RX3 ∈ GW := gwp 5 (by decide +kernel) rfl
theorem ci_able_X3 : Cond.instantiable RX3 3 ∈ GW := gwp 94 (by decide +kernel) rfl
theorem ci_code_X4 : Cond.code yX4_init cX4_init 1 none ∈ GW := gwp 113 (by decide +kernel) rfl
theorem ci_inst_X4 : Cond.instanceMethod yX4_init ∈ GW := gwp 112 (by decide +kernel) rfl
theorem ci_ini_X4 : Cond.initialized RX4 ∈ GW := gwp 6 (by decide +kernel) rfl
theorem ci_able_X4 : Cond.instantiable RX4 7 ∈ GW := gwp 110 (by decide +kernel) rfl
theorem ci_code_X5 : Cond.code yX5_init cX5_init 1 none ∈ GW := gwp 155 (by decide +kernel) rfl
theorem ci_inst_X5 : Cond.instanceMethod yX5_init ∈ GW := gwp 154 (by decide +kernel) rfl
theorem ci_ini_X5 : Cond.initialized RX5 ∈ GW := gwp 8 (by decide +kernel) rfl
theorem ci_able_X5 : Cond.instantiable RX5 3 ∈ GW := gwp 152 (by decide +kernel) rfl
theorem ci_code_X6 : Cond.code yX6_init cX6_init 1 none ∈ GW := gwp 32 (by decide +kernel) rfl
theorem ci_inst_X6 : Cond.instanceMethod yX6_init ∈ GW := gwp 31 (by decide +kernel) rfl
theorem ci_ini_X6 : Cond.initialized RX6 ∈ GW := gwp 1 (by decide +kernel) rfl
theorem ci_able_X6 : Cond.instantiable RX6 11 ∈ GW := gwp 29 (by decide +kernel) rfl
theorem ci_code_X7 : Cond.code yX7_init cX7_init 2 none ∈ GW := gwp 1128 (by decide +kernel) rfl
theorem ci_inst_X7 : Cond.instanceMethod yX7_init ∈ GW := gwp 1127 (by decide +kernel) rfl
theorem ci_ini_X7 : Cond.initialized RX7 ∈ GW := gwp 9 (by decide +kernel) rfl
theorem ci_able_X7 : Cond.instantiable RX7 22 ∈ GW := gwp 1125 (by decide +kernel) rfl
def tt_fill : List (Nat × Instr × Nat) := [(0, .iconst 0, 1), (1, .istore_n 2, 1), (2, .aload_n 0, 1), (3, .arraylength, 1), (4, .istore_n 3, 1), (5, .iload_n 2, 1), (6, .iload_n 3, 1), (7, .if_icmp .ge 13, 3), (10, .aload_n 0, 1), (11, .iload_n 2, 1), (12, .iload_n 1, 1), (13, .iastore, 1), (14, .iinc 2 1, 3), (17, .goto (-12), 3), (20, .return_, 1)]
theorem dtt_fill : tblOK cJ7_fill_53178 tt_fill = true := by decide +kernel
theorem fi_code : Cond.code yJ7_fill_53178 cJ7_fill_53178 4 none ∈ GW := gwp 44 (by decide +kernel) rfl
theorem fi_st : Cond.static yJ7_fill_53178 ∈ GW := gwp 43 (by decide +kernel) rfl
theorem fi_ini : Cond.initialized RJ7 ∈ GW := gwp 3 (by decide +kernel) rfl
theorem fi_l : Cond.methodLink RX1 24 yJ7_fill_53178 ∈ GW := gwp 42 (by decide +kernel) rfl
set_option maxRecDepth 20000 in
theorem k_fill {l : Launch} {D : va_G} {ty : Nat → ClassId} {N0 : Nat} (ws : va_W) (q0 a : Nat) (f : Nat → Int32) (hq : ws[q0]? = some (a, ia ty 3 f)) : BMet l D ty N0 yJ7_fill_53178 cJ7_fill_53178 4 (rmk 1 0 0) [.ref a, .int (-1)] ws (fun w => w = ws.set q0 (a, ia ty 3 (upd (upd (upd f 0 (-1)) 1 (-1)) 2 (-1)))) := by
  refine b_enter (own := RJ7) (by decide) rfl rfl (Nat.le_of_ble_eq_true rfl) ?_
  intro p e s m args below meth c K hn hlk hrt
  have dq := @tat _ _ dtt_fill
  have hlt := nf_lt hq
  refine b_eq (nf_start hq) ?_
  refine b_iconst K (dq 0 rfl) (v := 0) rfl ?_
  refine b_istore_n K (dq 1 rfl) rfl (by decide) (ls' := [some (.ref a), some (.int (-1)), some (.int 0), none]) rfl ?_
  refine b_aload_n K (dq 2 rfl) rfl rfl ?_
  refine b_alen K (t0 := 0) (v := 3) (nf_this hlt) rfl rfl (dq 3 rfl) ?_
  refine b_istore_n K (dq 4 rfl) rfl (by decide) (ls' := [some (.ref a), some (.int (-1)), some (.int 0), some (.int 3)]) rfl ?_
  refine b_iload_n K (dq 5 rfl) rfl rfl ?_
  refine b_iload_n K (dq 6 rfl) rfl rfl ?_
  refine b_icmp_ge_f K (tgt := 20) (dq 7 rfl) rfl (by decide) ?_
  refine b_aload_n K (dq 8 rfl) rfl rfl ?_
  refine b_iload_n K (dq 9 rfl) rfl rfl ?_
  refine b_iload_n K (dq 10 rfl) rfl rfl ?_
  refine b_iast K (j := 0) (nf_this hlt) (ib_in rfl) rfl (dq 11 rfl) (ws' := nf ws q0 (a, ia ty 3 (upd (f) 0 (-1))) []) (nf_setT hlt) ?_
  refine b_iinc K (dq 12 rfl) rfl (v := 1) rfl (by decide) (ls' := [some (.ref a), some (.int (-1)), some (.int 1), some (.int 3)]) rfl ?_
  refine b_goto K (tgt := 5) (dq 13 rfl) rfl ?_
  refine b_iload_n K (dq 5 rfl) rfl rfl ?_
  refine b_iload_n K (dq 6 rfl) rfl rfl ?_
  refine b_icmp_ge_f K (tgt := 20) (dq 7 rfl) rfl (by decide) ?_
  refine b_aload_n K (dq 8 rfl) rfl rfl ?_
  refine b_iload_n K (dq 9 rfl) rfl rfl ?_
  refine b_iload_n K (dq 10 rfl) rfl rfl ?_
  refine b_iast K (j := 1) (nf_this hlt) (ib_in rfl) rfl (dq 11 rfl) (ws' := nf ws q0 (a, ia ty 3 (upd (upd (f) 0 (-1)) 1 (-1))) []) (nf_setT hlt) ?_
  refine b_iinc K (dq 12 rfl) rfl (v := 2) rfl (by decide) (ls' := [some (.ref a), some (.int (-1)), some (.int 2), some (.int 3)]) rfl ?_
  refine b_goto K (tgt := 5) (dq 13 rfl) rfl ?_
  refine b_iload_n K (dq 5 rfl) rfl rfl ?_
  refine b_iload_n K (dq 6 rfl) rfl rfl ?_
  refine b_icmp_ge_f K (tgt := 20) (dq 7 rfl) rfl (by decide) ?_
  refine b_aload_n K (dq 8 rfl) rfl rfl ?_
  refine b_iload_n K (dq 9 rfl) rfl rfl ?_
  refine b_iload_n K (dq 10 rfl) rfl rfl ?_
  refine b_iast K (j := 2) (nf_this hlt) (ib_in rfl) rfl (dq 11 rfl) (ws' := nf ws q0 (a, ia ty 3 (upd (upd (upd (f) 0 (-1)) 1 (-1)) 2 (-1))) []) (nf_setT hlt) ?_
  refine b_iinc K (dq 12 rfl) rfl (v := 3) rfl (by decide) (ls' := [some (.ref a), some (.int (-1)), some (.int 3), some (.int 3)]) rfl ?_
  refine b_goto K (tgt := 5) (dq 13 rfl) rfl ?_
  refine b_iload_n K (dq 5 rfl) rfl rfl ?_
  refine b_iload_n K (dq 6 rfl) rfl rfl ?_
  refine b_icmp_ge_t K (tgt := 20) (dq 7 rfl) rfl (by decide) ?_
  exact b_vret K hlk hrt (dq 14 rfl) (Nat.le_refl _) (Nat.le_refl _) (by simp [nf])
def p1 (ty : Nat → ClassId) (_ : Nat) (F : List Value) (N : va_W) : Prop := ∃ f : Nat → Nat, F = cF f ∧ N = cN ty f
def p2 (ty : Nat → ClassId) (_ : Nat) (F : List Value) (N : va_W) : Prop := ∃ b : Nat, F = [.ref b, .int 0] ∧ N = [(b, ca ty 80)]
def p3 (_ : Nat) (F : List Value) (N : va_W) : Prop := F = [.int 0, .int 0, .int 0] ∧ N = []
def p4 (ty : Nat → ClassId) (_ : Nat) (F : List Value) (N : va_W) : Prop := ∃ b d : Nat, F = [.ref b, .int 0, .int 0, .int 0, .ref d, .int 0, .int 0] ∧ N = [(b, ca ty 60), (d, ia ty 3 z0)]
def p5 (ty : Nat → ClassId) (_ : Nat) (F : List Value) (N : va_W) : Prop := ∃ b : Nat, F = [.ref b, .int 0, .int (-1)] ∧ N = [(b, ia ty 12 z0)]
def p0 (ty : Nat → ClassId) (_ : Nat) (F : List Value) (N : va_W) : Prop := ∃ (b : Nat) (cs : Nat → Nat) (fs : Nat → Nat → Nat), F = [.ref b, .int 0, .int 0] ∧ N = (b, ra ty 8 (k8 cs 8)) :: c8 ty cs fs 8 0
def g6F (c : Nat → Nat) (b : Nat → Nat) : List Value := [.ref (c 0), .ref (c 1), .ref (c 2), .int 0, .ref (b 0), .ref (b 2), .ref (b 3), .int (-1), .ref (b 6), .ref (b 8), .ref (b 10)]
def g6N (ty : Nat → ClassId) (c : Nat → Nat) (f : Nat → Nat → Nat) (b : Nat → Nat) (cs : Nat → Nat) (fs : Nat → Nat → Nat) : va_W :=
  gC ty (c 0) (f 0) ++ (gC ty (c 1) (f 1) ++ (gC ty (c 2) (f 2) ++ ((b 0, .inr (2, [.ref (b 1), .int 0, .int 0])) :: (b 1, ra ty 8 (k8 cs 8)) :: c8 ty cs fs 8 0) ++
  [(b 2, .inr (5, [.int 0, .int 0, .int 0])), (b 3, .inr (6, [.ref (b 4), .int 0, .int 0, .int 0, .ref (b 5), .int 0, .int 0])), (b 4, ca ty 60), (b 5, ia ty 3 z0), (b 6, .inr (4, [.ref (b 7), .int 0])), (b 7, ca ty 80), (b 8, .inr (7, [.ref (b 9), .int 0, .int (-1)])), (b 9, ia ty 12 z0), (b 10, ia ty 12 z0)]))
def p6 (ty : Nat → ClassId) (_ : Nat) (F : List Value) (N : va_W) : Prop := ∃ c f b cs fs, F = g6F c b ∧ N = g6N ty c f b cs fs
def g7F (b : Nat → Nat) : List Value := [.ref (b 0), .ref (b 1), .ref (b 2), .ref (b 3), .int 0, .int 0, .int 0, .int 0, .int 0, .int 0, .int 0, .int 0, .ref (b 4), .int 0, .int (-1), .ref (b 5), .int 0, .ref (b 6), .int 0, .int 0, .ref (b 7), .int 0]
def g7N (ty : Nat → ClassId) (b : Nat → Nat) : va_W := [(b 0, ia ty 44 (upd (upd (upd z0 5 (-1)) 6 (-1)) 7 (-1))), (b 1, ia ty 352 z0), (b 2, ia ty 44 z0), (b 3, ia ty 44 z0), (b 4, ia ty 60 z0), (b 5, ca ty 120), (b 6, ia ty 12 z0), (b 7, ia ty 124 z0)]
def p7 (ty : Nat → ClassId) (_ : Nat) (F : List Value) (N : va_W) : Prop := ∃ b, F = g7F b ∧ N = g7N ty b
def tt_iX1 : List (Nat × Instr × Nat) := [(0, .aload_n 0, 1), (1, .invokespecial 3, 3), (4, .aload_n 0, 1), (5, .bipush 12, 2), (7, .newarray .int, 2), (9, .putfield 9, 3), (12, .aload_n 0, 1), (13, .bipush 12, 2), (15, .newarray .int, 2), (17, .putfield 15, 3), (20, .aload_n 0, 1), (21, .bipush 12, 2), (23, .newarray .int, 2), (25, .putfield 18, 3), (28, .aload_n 0, 1), (29, .iconst 3, 1), (30, .newarray .int, 2), (32, .putfield 21, 3), (35, .aload_n 0, 1), (36, .getfield 21, 3), (39, .iconst (-1), 1), (40, .invokestatic 24, 3), (43, .return_, 1)]
theorem dtt_iX1 : tblOK cX1_init tt_iX1 = true := by decide +kernel
theorem ol_X1 : Cond.methodLink RX1 3 Lib.objectInit ∈ GW := gwp 41 (by decide +kernel) rfl
theorem fb_X1_9 : Cond.fieldLink RX1 9 (TX1 1).1 (TX1 1).2.1 (TX1 1).2.2.1 ∈ GW := gwp 46 (by decide +kernel) rfl
theorem fb_X1_15 : Cond.fieldLink RX1 15 (TX1 2).1 (TX1 2).2.1 (TX1 2).2.2.1 ∈ GW := gwp 47 (by decide +kernel) rfl
theorem fb_X1_18 : Cond.fieldLink RX1 18 (TX1 3).1 (TX1 3).2.1 (TX1 3).2.2.1 ∈ GW := gwp 48 (by decide +kernel) rfl
theorem fb_X1_21 : Cond.fieldLink RX1 21 (TX1 4).1 (TX1 4).2.1 (TX1 4).2.2.1 ∈ GW := gwp 49 (by decide +kernel) rfl
set_option maxRecDepth 40000 in
set_option maxHeartbeats 4000000 in
theorem k_X1 {l : Launch} {D : va_G} {ty : Nat → ClassId} {N0 : Nat} (ws : va_W) (q0 th : Nat) (hq : ws[q0]? = some (th, .inr (3, [.int 0, .null, .null, .null, .null, .int 0, .int 0, .int 0, .int 0]))) : BMet l D ty N0 yX1_init cX1_init 1 (rmk 2 4 39) [.ref th] ws (fun w => ∃ F N, (p1 ty) th F N ∧ w = ws.set q0 (th, .inr (3, F)) ++ N) := by
  refine b_enter (own := RX1) (by decide) rfl rfl (Nat.le_of_ble_eq_true rfl) ?_
  intro p e s m args below meth c K hn hlk hrt
  have dq := @tat _ _ dtt_iX1
  have hlt := nf_lt hq
  refine b_eq (nf_start hq) ?_
  refine b_aload_n K (dq 0 rfl) rfl rfl ?_
  refine b_objInit K ol_X1 oi_i oi_c (dq 1 rfl) (Nat.le_of_ble_eq_true rfl) (Nat.le_of_ble_eq_true rfl) ?_
  refine b_aload_n K (dq 2 rfl) rfl rfl ?_
  refine b_bipush K (dq 3 rfl) (v := 12) rfl ?_
  refine b_newa K (f := fun a0 => nf ws q0 (th, .inr (3, [.int 0, .null, .null, .null, .null, .int 0, .int 0, .int 0, .int 0])) ([(a0, ia ty 12 z0)])) (t0 := 0) (atype := .int) (N' := 12) ac_int rfl rfl (fun _ h => by cases h) (fun _ => rfl) (by decide) rfl (by decide) (by simp only [rmk]; omega) (by simp only [rmk]; omega) (dq 4 rfl) (fun _ => nf_app) (fun a0 => ?_)
  refine b_putF K (T := TX1) (k := 1) (t9 := tyX1 1) in_X1 tyX1 tyX1_ok nmX1 (nf_this hlt) rfl (by decide) fb_X1_9 rfl hn rfl (tyX1_ok 1 (by decide)) rfl rfl (Nat.le_of_ble_eq_true rfl) (dq 5 rfl) (ws' := nf ws q0 (th, .inr (3, [.int 0, .ref a0, .null, .null, .null, .int 0, .int 0, .int 0, .int 0])) ([(a0, ia ty 12 z0)])) (nf_setT hlt) ?_
  refine b_aload_n K (dq 6 rfl) rfl rfl ?_
  refine b_bipush K (dq 7 rfl) (v := 12) rfl ?_
  refine b_newa K (f := fun a1 => nf ws q0 (th, .inr (3, [.int 0, .ref a0, .null, .null, .null, .int 0, .int 0, .int 0, .int 0])) ([(a0, ia ty 12 z0), (a1, ia ty 12 z0)])) (t0 := 0) (atype := .int) (N' := 12) ac_int rfl rfl (fun _ h => by cases h) (fun _ => rfl) (by decide) rfl (by decide) (by simp only [rmk]; omega) (by simp only [rmk]; omega) (dq 8 rfl) (fun _ => nf_app) (fun a1 => ?_)
  refine b_putF K (T := TX1) (k := 2) (t9 := tyX1 2) in_X1 tyX1 tyX1_ok nmX1 (nf_this hlt) rfl (by decide) fb_X1_15 rfl hn rfl (tyX1_ok 2 (by decide)) rfl rfl (Nat.le_of_ble_eq_true rfl) (dq 9 rfl) (ws' := nf ws q0 (th, .inr (3, [.int 0, .ref a0, .ref a1, .null, .null, .int 0, .int 0, .int 0, .int 0])) ([(a0, ia ty 12 z0), (a1, ia ty 12 z0)])) (nf_setT hlt) ?_
  refine b_aload_n K (dq 10 rfl) rfl rfl ?_
  refine b_bipush K (dq 11 rfl) (v := 12) rfl ?_
  refine b_newa K (f := fun a2 => nf ws q0 (th, .inr (3, [.int 0, .ref a0, .ref a1, .null, .null, .int 0, .int 0, .int 0, .int 0])) ([(a0, ia ty 12 z0), (a1, ia ty 12 z0), (a2, ia ty 12 z0)])) (t0 := 0) (atype := .int) (N' := 12) ac_int rfl rfl (fun _ h => by cases h) (fun _ => rfl) (by decide) rfl (by decide) (by simp only [rmk]; omega) (by simp only [rmk]; omega) (dq 12 rfl) (fun _ => nf_app) (fun a2 => ?_)
  refine b_putF K (T := TX1) (k := 3) (t9 := tyX1 3) in_X1 tyX1 tyX1_ok nmX1 (nf_this hlt) rfl (by decide) fb_X1_18 rfl hn rfl (tyX1_ok 3 (by decide)) rfl rfl (Nat.le_of_ble_eq_true rfl) (dq 13 rfl) (ws' := nf ws q0 (th, .inr (3, [.int 0, .ref a0, .ref a1, .ref a2, .null, .int 0, .int 0, .int 0, .int 0])) ([(a0, ia ty 12 z0), (a1, ia ty 12 z0), (a2, ia ty 12 z0)])) (nf_setT hlt) ?_
  refine b_aload_n K (dq 14 rfl) rfl rfl ?_
  refine b_iconst K (dq 15 rfl) (v := 3) rfl ?_
  refine b_newa K (f := fun a3 => nf ws q0 (th, .inr (3, [.int 0, .ref a0, .ref a1, .ref a2, .null, .int 0, .int 0, .int 0, .int 0])) ([(a0, ia ty 12 z0), (a1, ia ty 12 z0), (a2, ia ty 12 z0), (a3, ia ty 3 z0)])) (t0 := 0) (atype := .int) (N' := 3) ac_int rfl rfl (fun _ h => by cases h) (fun _ => rfl) (by decide) rfl (by decide) (by simp only [rmk]; omega) (by simp only [rmk]; omega) (dq 16 rfl) (fun _ => nf_app) (fun a3 => ?_)
  refine b_putF K (T := TX1) (k := 4) (t9 := tyX1 4) in_X1 tyX1 tyX1_ok nmX1 (nf_this hlt) rfl (by decide) fb_X1_21 rfl hn rfl (tyX1_ok 4 (by decide)) rfl rfl (Nat.le_of_ble_eq_true rfl) (dq 17 rfl) (ws' := nf ws q0 (th, .inr (3, [.int 0, .ref a0, .ref a1, .ref a2, .ref a3, .int 0, .int 0, .int 0, .int 0])) ([(a0, ia ty 12 z0), (a1, ia ty 12 z0), (a2, ia ty 12 z0), (a3, ia ty 3 z0)])) (nf_setT hlt) ?_
  refine b_aload_n K (dq 18 rfl) rfl rfl ?_
  refine b_get K (T := TX1) (k := 4) (v := .ref a3) in_X1 (nf_this hlt) rfl (by decide) fb_X1_21 rfl (dq 19 rfl) ?_
  refine b_iconst K (dq 20 rfl) (v := (-1)) rfl ?_
  refine b_callS K (n := 2) (k_fill _ _ a3 z0 (nf_new (j := 3) rfl)) fi_code fi_l fi_st fi_ini ⟨by decide, by decide, by decide +kernel⟩ rfl (by constructor <;> (simp only [rmk]; omega)) rfl (Nat.le_of_ble_eq_true rfl) (dq 21 rfl) (by constructor <;> (simp only [rmk]; omega)) ?_
  refine b_eq (ws' := nf ws q0 (th, .inr (3, [.int 0, .ref a0, .ref a1, .ref a2, .ref a3, .int 0, .int 0, .int 0, .int 0])) ([(a0, ia ty 12 z0), (a1, ia ty 12 z0), (a2, ia ty 12 z0), (a3, ia ty 3 m3)])) nf_setN ?_
  exact b_vret K hlk hrt (dq 22 rfl) (Nat.le_refl _) (Nat.le_refl _) ⟨_, _, ⟨fun k => match k with | 0 => a0 | 1 => a1 | 2 => a2 | _ => a3, rfl, rfl⟩, rfl⟩
def tt_iX2 : List (Nat × Instr × Nat) := [(0, .aload_n 0, 1), (1, .invokespecial 3, 3), (4, .aload_n 0, 1), (5, .bipush 80, 2), (7, .newarray .char, 2), (9, .putfield 9, 3), (12, .return_, 1)]
theorem dtt_iX2 : tblOK cX2_init tt_iX2 = true := by decide +kernel
theorem ol_X2 : Cond.methodLink RX2 3 Lib.objectInit ∈ GW := gwp 143 (by decide +kernel) rfl
theorem fb_X2_9 : Cond.fieldLink RX2 9 (TX2 0).1 (TX2 0).2.1 (TX2 0).2.2.1 ∈ GW := gwp 144 (by decide +kernel) rfl
set_option maxRecDepth 40000 in
set_option maxHeartbeats 4000000 in
theorem k_X2 {l : Launch} {D : va_G} {ty : Nat → ClassId} {N0 : Nat} (ws : va_W) (q0 th : Nat) (hq : ws[q0]? = some (th, .inr (4, [.null, .int 0]))) : BMet l D ty N0 yX2_init cX2_init 1 (rmk 1 1 80) [.ref th] ws (fun w => ∃ F N, (p2 ty) th F N ∧ w = ws.set q0 (th, .inr (4, F)) ++ N) := by
  refine b_enter (own := RX2) (by decide) rfl rfl (Nat.le_of_ble_eq_true rfl) ?_
  intro p e s m args below meth c K hn hlk hrt
  have dq := @tat _ _ dtt_iX2
  have hlt := nf_lt hq
  refine b_eq (nf_start hq) ?_
  refine b_aload_n K (dq 0 rfl) rfl rfl ?_
  refine b_objInit K ol_X2 oi_i oi_c (dq 1 rfl) (Nat.le_of_ble_eq_true rfl) (Nat.le_of_ble_eq_true rfl) ?_
  refine b_aload_n K (dq 2 rfl) rfl rfl ?_
  refine b_bipush K (dq 3 rfl) (v := 80) rfl ?_
  refine b_newa K (f := fun a0 => nf ws q0 (th, .inr (4, [.null, .int 0])) ([(a0, ca ty 80)])) (t0 := 1) (atype := .char) (N' := 80) ac_char rfl rfl (fun _ h => by cases h) (fun _ => rfl) (by decide) rfl (by decide) (by simp only [rmk]; omega) (by simp only [rmk]; omega) (dq 4 rfl) (fun _ => nf_app) (fun a0 => ?_)
  refine b_putF K (T := TX2) (k := 0) (t9 := tyX2 0) in_X2 tyX2 tyX2_ok nmX2 (nf_this hlt) rfl (by decide) fb_X2_9 rfl hn rfl (tyX2_ok 0 (by decide)) rfl rfl (Nat.le_of_ble_eq_true rfl) (dq 5 rfl) (ws' := nf ws q0 (th, .inr (4, [.ref a0, .int 0])) ([(a0, ca ty 80)])) (nf_setT hlt) ?_
  exact b_vret K hlk hrt (dq 6 rfl) (Nat.le_refl _) (Nat.le_refl _) ⟨_, _, ⟨a0, rfl, rfl⟩, rfl⟩
def tt_iX3 : List (Nat × Instr × Nat) := [(0, .aload_n 0, 1), (1, .invokespecial 1, 3), (4, .return_, 1)]
theorem dtt_iX3 : tblOK cX3_init tt_iX3 = true := by decide +kernel
theorem ol_X3 : Cond.methodLink RX3 1 Lib.objectInit ∈ GW := gwp 98 (by decide +kernel) rfl
set_option maxRecDepth 40000 in
set_option maxHeartbeats 4000000 in
theorem k_X3 {l : Launch} {D : va_G} {ty : Nat → ClassId} {N0 : Nat} (ws : va_W) (q0 th : Nat) (hq : ws[q0]? = some (th, .inr (5, [.int 0, .int 0, .int 0]))) : BMet l D ty N0 yX3_init cX3_init 1 (rmk 1 0 0) [.ref th] ws (fun w => ∃ F N, p3 th F N ∧ w = ws.set q0 (th, .inr (5, F)) ++ N) := by
  refine b_enter (own := RX3) (by decide) rfl rfl (Nat.le_of_ble_eq_true rfl) ?_
  intro p e s m args below meth c K hn hlk hrt
  have dq := @tat _ _ dtt_iX3
  have hlt := nf_lt hq
  refine b_eq (nf_start hq) ?_
  refine b_aload_n K (dq 0 rfl) rfl rfl ?_
  refine b_objInit K ol_X3 oi_i oi_c (dq 1 rfl) (Nat.le_of_ble_eq_true rfl) (Nat.le_of_ble_eq_true rfl) ?_
  exact b_vret K hlk hrt (dq 2 rfl) (Nat.le_refl _) (Nat.le_refl _) ⟨_, _, ⟨rfl, rfl⟩, rfl⟩
def tt_iX4 : List (Nat × Instr × Nat) := [(0, .aload_n 0, 1), (1, .invokespecial 3, 3), (4, .aload_n 0, 1), (5, .bipush 60, 2), (7, .newarray .char, 2), (9, .putfield 9, 3), (12, .aload_n 0, 1), (13, .iconst 3, 1), (14, .newarray .int, 2), (16, .putfield 15, 3), (19, .return_, 1)]
theorem dtt_iX4 : tblOK cX4_init tt_iX4 = true := by decide +kernel
theorem ol_X4 : Cond.methodLink RX4 3 Lib.objectInit ∈ GW := gwp 114 (by decide +kernel) rfl
theorem fb_X4_9 : Cond.fieldLink RX4 9 (TX4 0).1 (TX4 0).2.1 (TX4 0).2.2.1 ∈ GW := gwp 115 (by decide +kernel) rfl
theorem fb_X4_15 : Cond.fieldLink RX4 15 (TX4 4).1 (TX4 4).2.1 (TX4 4).2.2.1 ∈ GW := gwp 119 (by decide +kernel) rfl
set_option maxRecDepth 40000 in
set_option maxHeartbeats 4000000 in
theorem k_X4 {l : Launch} {D : va_G} {ty : Nat → ClassId} {N0 : Nat} (ws : va_W) (q0 th : Nat) (hq : ws[q0]? = some (th, .inr (6, [.null, .int 0, .int 0, .int 0, .null, .int 0, .int 0]))) : BMet l D ty N0 yX4_init cX4_init 1 (rmk 1 2 63) [.ref th] ws (fun w => ∃ F N, (p4 ty) th F N ∧ w = ws.set q0 (th, .inr (6, F)) ++ N) := by
  refine b_enter (own := RX4) (by decide) rfl rfl (Nat.le_of_ble_eq_true rfl) ?_
  intro p e s m args below meth c K hn hlk hrt
  have dq := @tat _ _ dtt_iX4
  have hlt := nf_lt hq
  refine b_eq (nf_start hq) ?_
  refine b_aload_n K (dq 0 rfl) rfl rfl ?_
  refine b_objInit K ol_X4 oi_i oi_c (dq 1 rfl) (Nat.le_of_ble_eq_true rfl) (Nat.le_of_ble_eq_true rfl) ?_
  refine b_aload_n K (dq 2 rfl) rfl rfl ?_
  refine b_bipush K (dq 3 rfl) (v := 60) rfl ?_
  refine b_newa K (f := fun a0 => nf ws q0 (th, .inr (6, [.null, .int 0, .int 0, .int 0, .null, .int 0, .int 0])) ([(a0, ca ty 60)])) (t0 := 1) (atype := .char) (N' := 60) ac_char rfl rfl (fun _ h => by cases h) (fun _ => rfl) (by decide) rfl (by decide) (by simp only [rmk]; omega) (by simp only [rmk]; omega) (dq 4 rfl) (fun _ => nf_app) (fun a0 => ?_)
  refine b_putF K (T := TX4) (k := 0) (t9 := tyX4 0) in_X4 tyX4 tyX4_ok nmX4 (nf_this hlt) rfl (by decide) fb_X4_9 rfl hn rfl (tyX4_ok 0 (by decide)) rfl rfl (Nat.le_of_ble_eq_true rfl) (dq 5 rfl) (ws' := nf ws q0 (th, .inr (6, [.ref a0, .int 0, .int 0, .int 0, .null, .int 0, .int 0])) ([(a0, ca ty 60)])) (nf_setT hlt) ?_
  refine b_aload_n K (dq 6 rfl) rfl rfl ?_
  refine b_iconst K (dq 7 rfl) (v := 3) rfl ?_
  refine b_newa K (f := fun a1 => nf ws q0 (th, .inr (6, [.ref a0, .int 0, .int 0, .int 0, .null, .int 0, .int 0])) ([(a0, ca ty 60), (a1, ia ty 3 z0)])) (t0 := 0) (atype := .int) (N' := 3) ac_int rfl rfl (fun _ h => by cases h) (fun _ => rfl) (by decide) rfl (by decide) (by simp only [rmk]; omega) (by simp only [rmk]; omega) (dq 8 rfl) (fun _ => nf_app) (fun a1 => ?_)
  refine b_putF K (T := TX4) (k := 4) (t9 := tyX4 4) in_X4 tyX4 tyX4_ok nmX4 (nf_this hlt) rfl (by decide) fb_X4_15 rfl hn rfl (tyX4_ok 4 (by decide)) rfl rfl (Nat.le_of_ble_eq_true rfl) (dq 9 rfl) (ws' := nf ws q0 (th, .inr (6, [.ref a0, .int 0, .int 0, .int 0, .ref a1, .int 0, .int 0])) ([(a0, ca ty 60), (a1, ia ty 3 z0)])) (nf_setT hlt) ?_
  exact b_vret K hlk hrt (dq 10 rfl) (Nat.le_refl _) (Nat.le_refl _) ⟨_, _, ⟨a0, a1, rfl, rfl⟩, rfl⟩
def tt_iX5 : List (Nat × Instr × Nat) := [(0, .aload_n 0, 1), (1, .invokespecial 3, 3), (4, .aload_n 0, 1), (5, .bipush 12, 2), (7, .newarray .int, 2), (9, .putfield 9, 3), (12, .aload_n 0, 1), (13, .iconst (-1), 1), (14, .putfield 15, 3), (17, .return_, 1)]
theorem dtt_iX5 : tblOK cX5_init tt_iX5 = true := by decide +kernel
theorem ol_X5 : Cond.methodLink RX5 3 Lib.objectInit ∈ GW := gwp 156 (by decide +kernel) rfl
theorem fb_X5_9 : Cond.fieldLink RX5 9 (TX5 0).1 (TX5 0).2.1 (TX5 0).2.2.1 ∈ GW := gwp 157 (by decide +kernel) rfl
theorem fb_X5_15 : Cond.fieldLink RX5 15 (TX5 2).1 (TX5 2).2.1 (TX5 2).2.2.1 ∈ GW := gwp 159 (by decide +kernel) rfl
set_option maxRecDepth 40000 in
set_option maxHeartbeats 4000000 in
theorem k_X5 {l : Launch} {D : va_G} {ty : Nat → ClassId} {N0 : Nat} (ws : va_W) (q0 th : Nat) (hq : ws[q0]? = some (th, .inr (7, [.null, .int 0, .int 0]))) : BMet l D ty N0 yX5_init cX5_init 1 (rmk 1 1 12) [.ref th] ws (fun w => ∃ F N, (p5 ty) th F N ∧ w = ws.set q0 (th, .inr (7, F)) ++ N) := by
  refine b_enter (own := RX5) (by decide) rfl rfl (Nat.le_of_ble_eq_true rfl) ?_
  intro p e s m args below meth c K hn hlk hrt
  have dq := @tat _ _ dtt_iX5
  have hlt := nf_lt hq
  refine b_eq (nf_start hq) ?_
  refine b_aload_n K (dq 0 rfl) rfl rfl ?_
  refine b_objInit K ol_X5 oi_i oi_c (dq 1 rfl) (Nat.le_of_ble_eq_true rfl) (Nat.le_of_ble_eq_true rfl) ?_
  refine b_aload_n K (dq 2 rfl) rfl rfl ?_
  refine b_bipush K (dq 3 rfl) (v := 12) rfl ?_
  refine b_newa K (f := fun a0 => nf ws q0 (th, .inr (7, [.null, .int 0, .int 0])) ([(a0, ia ty 12 z0)])) (t0 := 0) (atype := .int) (N' := 12) ac_int rfl rfl (fun _ h => by cases h) (fun _ => rfl) (by decide) rfl (by decide) (by simp only [rmk]; omega) (by simp only [rmk]; omega) (dq 4 rfl) (fun _ => nf_app) (fun a0 => ?_)
  refine b_putF K (T := TX5) (k := 0) (t9 := tyX5 0) in_X5 tyX5 tyX5_ok nmX5 (nf_this hlt) rfl (by decide) fb_X5_9 rfl hn rfl (tyX5_ok 0 (by decide)) rfl rfl (Nat.le_of_ble_eq_true rfl) (dq 5 rfl) (ws' := nf ws q0 (th, .inr (7, [.ref a0, .int 0, .int 0])) ([(a0, ia ty 12 z0)])) (nf_setT hlt) ?_
  refine b_aload_n K (dq 6 rfl) rfl rfl ?_
  refine b_iconst K (dq 7 rfl) (v := (-1)) rfl ?_
  refine b_put K (T := TX5) (k := 2) (t9 := tyX5 2) in_X5 tyX5 tyX5_ok nmX5 (nf_this hlt) rfl (by decide) fb_X5_15 rfl (tyX5_ok 2 (by decide)) rfl rfl (Nat.le_of_ble_eq_true rfl) (dq 8 rfl) (ws' := nf ws q0 (th, .inr (7, [.ref a0, .int 0, .int (-1)])) ([(a0, ia ty 12 z0)])) (nf_setT hlt) ?_
  exact b_vret K hlk hrt (dq 9 rfl) (Nat.le_refl _) (Nat.le_refl _) ⟨_, _, ⟨a0, rfl, rfl⟩, rfl⟩
def tt_iX7 : List (Nat × Instr × Nat) := [(0, .aload_n 0, 1), (1, .invokespecial 1, 3), (4, .aload_n 0, 1), (5, .bipush 44, 2), (7, .newarray .int, 2), (9, .putfield 7, 3), (12, .aload_n 0, 1), (13, .sipush 352, 3), (16, .newarray .int, 2), (18, .putfield 13, 3), (21, .aload_n 0, 1), (22, .bipush 44, 2), (24, .newarray .int, 2), (26, .putfield 16, 3), (29, .aload_n 0, 1), (30, .bipush 44, 2), (32, .newarray .int, 2), (34, .putfield 19, 3), (37, .aload_n 0, 1), (38, .bipush 60, 2), (40, .newarray .int, 2), (42, .putfield 22, 3), (45, .aload_n 0, 1), (46, .iconst (-1), 1), (47, .putfield 25, 3), (50, .aload_n 0, 1), (51, .bipush 120, 2), (53, .newarray .char, 2), (55, .putfield 29, 3), (58, .aload_n 0, 1), (59, .bipush 12, 2), (61, .newarray .int, 2), (63, .putfield 33, 3), (66, .aload_n 0, 1), (67, .bipush 124, 2), (69, .newarray .int, 2), (71, .putfield 36, 3), (74, .iconst 0, 1), (75, .istore_n 1, 1), (76, .iload_n 1, 1), (77, .iconst 3, 1), (78, .if_icmp .ge 18, 3), (81, .aload_n 0, 1), (82, .getfield 7, 3), (85, .iconst 5, 1), (86, .iload_n 1, 1), (87, .iadd, 1), (88, .iconst (-1), 1), (89, .iastore, 1), (90, .iinc 1 1, 3), (93, .goto (-17), 3), (96, .return_, 1)]
theorem dtt_iX7 : tblOK cX7_init tt_iX7 = true := by decide +kernel
theorem ol_X7 : Cond.methodLink RX7 1 Lib.objectInit ∈ GW := gwp 1129 (by decide +kernel) rfl
theorem fb_X7_7 : Cond.fieldLink RX7 7 (TX7 0).1 (TX7 0).2.1 (TX7 0).2.2.1 ∈ GW := gwp 1130 (by decide +kernel) rfl
theorem fb_X7_13 : Cond.fieldLink RX7 13 (TX7 1).1 (TX7 1).2.1 (TX7 1).2.2.1 ∈ GW := gwp 1131 (by decide +kernel) rfl
theorem fb_X7_16 : Cond.fieldLink RX7 16 (TX7 2).1 (TX7 2).2.1 (TX7 2).2.2.1 ∈ GW := gwp 1132 (by decide +kernel) rfl
theorem fb_X7_19 : Cond.fieldLink RX7 19 (TX7 3).1 (TX7 3).2.1 (TX7 3).2.2.1 ∈ GW := gwp 1133 (by decide +kernel) rfl
theorem fb_X7_22 : Cond.fieldLink RX7 22 (TX7 12).1 (TX7 12).2.1 (TX7 12).2.2.1 ∈ GW := gwp 1142 (by decide +kernel) rfl
theorem fb_X7_25 : Cond.fieldLink RX7 25 (TX7 14).1 (TX7 14).2.1 (TX7 14).2.2.1 ∈ GW := gwp 1144 (by decide +kernel) rfl
theorem fb_X7_29 : Cond.fieldLink RX7 29 (TX7 15).1 (TX7 15).2.1 (TX7 15).2.2.1 ∈ GW := gwp 1145 (by decide +kernel) rfl
theorem fb_X7_33 : Cond.fieldLink RX7 33 (TX7 17).1 (TX7 17).2.1 (TX7 17).2.2.1 ∈ GW := gwp 1147 (by decide +kernel) rfl
theorem fb_X7_36 : Cond.fieldLink RX7 36 (TX7 20).1 (TX7 20).2.1 (TX7 20).2.2.1 ∈ GW := gwp 1150 (by decide +kernel) rfl
set_option maxRecDepth 40000 in
set_option maxHeartbeats 4000000 in
theorem k_X7 {l : Launch} {D : va_G} {ty : Nat → ClassId} {N0 : Nat} (ws : va_W) (q0 th : Nat) (hq : ws[q0]? = some (th, .inr (9, [.null, .null, .null, .null, .int 0, .int 0, .int 0, .int 0, .int 0, .int 0, .int 0, .int 0, .null, .int 0, .int 0, .null, .int 0, .null, .int 0, .int 0, .null, .int 0]))) : BMet l D ty N0 yX7_init cX7_init 2 (rmk 1 8 800) [.ref th] ws (fun w => ∃ F N, (p7 ty) th F N ∧ w = ws.set q0 (th, .inr (9, F)) ++ N) := by
  refine b_enter (own := RX7) (by decide) rfl rfl (Nat.le_of_ble_eq_true rfl) ?_
  intro p e s m args below meth c K hn hlk hrt
  have dq := @tat _ _ dtt_iX7
  have hlt := nf_lt hq
  refine b_eq (nf_start hq) ?_
  refine b_aload_n K (dq 0 rfl) rfl rfl ?_
  refine b_objInit K ol_X7 oi_i oi_c (dq 1 rfl) (Nat.le_of_ble_eq_true rfl) (Nat.le_of_ble_eq_true rfl) ?_
  refine b_aload_n K (dq 2 rfl) rfl rfl ?_
  refine b_bipush K (dq 3 rfl) (v := 44) rfl ?_
  refine b_newa K (f := fun a0 => nf ws q0 (th, .inr (9, [.null, .null, .null, .null, .int 0, .int 0, .int 0, .int 0, .int 0, .int 0, .int 0, .int 0, .null, .int 0, .int 0, .null, .int 0, .null, .int 0, .int 0, .null, .int 0])) ([(a0, ia ty 44 z0)])) (t0 := 0) (atype := .int) (N' := 44) ac_int rfl rfl (fun _ h => by cases h) (fun _ => rfl) (by decide) rfl (by decide) (by simp only [rmk]; omega) (by simp only [rmk]; omega) (dq 4 rfl) (fun _ => nf_app) (fun a0 => ?_)
  refine b_putF K (T := TX7) (k := 0) (t9 := tyX7 0) in_X7 tyX7 tyX7_ok nmX7 (nf_this hlt) rfl (by decide) fb_X7_7 rfl hn rfl (tyX7_ok 0 (by decide)) rfl rfl (Nat.le_of_ble_eq_true rfl) (dq 5 rfl) (ws' := nf ws q0 (th, .inr (9, [.ref a0, .null, .null, .null, .int 0, .int 0, .int 0, .int 0, .int 0, .int 0, .int 0, .int 0, .null, .int 0, .int 0, .null, .int 0, .null, .int 0, .int 0, .null, .int 0])) ([(a0, ia ty 44 z0)])) (nf_setT hlt) ?_
  refine b_aload_n K (dq 6 rfl) rfl rfl ?_
  refine b_sipush K (dq 7 rfl) (v := 352) rfl ?_
  refine b_newa K (f := fun a1 => nf ws q0 (th, .inr (9, [.ref a0, .null, .null, .null, .int 0, .int 0, .int 0, .int 0, .int 0, .int 0, .int 0, .int 0, .null, .int 0, .int 0, .null, .int 0, .null, .int 0, .int 0, .null, .int 0])) ([(a0, ia ty 44 z0), (a1, ia ty 352 z0)])) (t0 := 0) (atype := .int) (N' := 352) ac_int rfl rfl (fun _ h => by cases h) (fun _ => rfl) (by decide) rfl (by decide) (by simp only [rmk]; omega) (by simp only [rmk]; omega) (dq 8 rfl) (fun _ => nf_app) (fun a1 => ?_)
  refine b_putF K (T := TX7) (k := 1) (t9 := tyX7 1) in_X7 tyX7 tyX7_ok nmX7 (nf_this hlt) rfl (by decide) fb_X7_13 rfl hn rfl (tyX7_ok 1 (by decide)) rfl rfl (Nat.le_of_ble_eq_true rfl) (dq 9 rfl) (ws' := nf ws q0 (th, .inr (9, [.ref a0, .ref a1, .null, .null, .int 0, .int 0, .int 0, .int 0, .int 0, .int 0, .int 0, .int 0, .null, .int 0, .int 0, .null, .int 0, .null, .int 0, .int 0, .null, .int 0])) ([(a0, ia ty 44 z0), (a1, ia ty 352 z0)])) (nf_setT hlt) ?_
  refine b_aload_n K (dq 10 rfl) rfl rfl ?_
  refine b_bipush K (dq 11 rfl) (v := 44) rfl ?_
  refine b_newa K (f := fun a2 => nf ws q0 (th, .inr (9, [.ref a0, .ref a1, .null, .null, .int 0, .int 0, .int 0, .int 0, .int 0, .int 0, .int 0, .int 0, .null, .int 0, .int 0, .null, .int 0, .null, .int 0, .int 0, .null, .int 0])) ([(a0, ia ty 44 z0), (a1, ia ty 352 z0), (a2, ia ty 44 z0)])) (t0 := 0) (atype := .int) (N' := 44) ac_int rfl rfl (fun _ h => by cases h) (fun _ => rfl) (by decide) rfl (by decide) (by simp only [rmk]; omega) (by simp only [rmk]; omega) (dq 12 rfl) (fun _ => nf_app) (fun a2 => ?_)
  refine b_putF K (T := TX7) (k := 2) (t9 := tyX7 2) in_X7 tyX7 tyX7_ok nmX7 (nf_this hlt) rfl (by decide) fb_X7_16 rfl hn rfl (tyX7_ok 2 (by decide)) rfl rfl (Nat.le_of_ble_eq_true rfl) (dq 13 rfl) (ws' := nf ws q0 (th, .inr (9, [.ref a0, .ref a1, .ref a2, .null, .int 0, .int 0, .int 0, .int 0, .int 0, .int 0, .int 0, .int 0, .null, .int 0, .int 0, .null, .int 0, .null, .int 0, .int 0, .null, .int 0])) ([(a0, ia ty 44 z0), (a1, ia ty 352 z0), (a2, ia ty 44 z0)])) (nf_setT hlt) ?_
  refine b_aload_n K (dq 14 rfl) rfl rfl ?_
  refine b_bipush K (dq 15 rfl) (v := 44) rfl ?_
  refine b_newa K (f := fun a3 => nf ws q0 (th, .inr (9, [.ref a0, .ref a1, .ref a2, .null, .int 0, .int 0, .int 0, .int 0, .int 0, .int 0, .int 0, .int 0, .null, .int 0, .int 0, .null, .int 0, .null, .int 0, .int 0, .null, .int 0])) ([(a0, ia ty 44 z0), (a1, ia ty 352 z0), (a2, ia ty 44 z0), (a3, ia ty 44 z0)])) (t0 := 0) (atype := .int) (N' := 44) ac_int rfl rfl (fun _ h => by cases h) (fun _ => rfl) (by decide) rfl (by decide) (by simp only [rmk]; omega) (by simp only [rmk]; omega) (dq 16 rfl) (fun _ => nf_app) (fun a3 => ?_)
  refine b_putF K (T := TX7) (k := 3) (t9 := tyX7 3) in_X7 tyX7 tyX7_ok nmX7 (nf_this hlt) rfl (by decide) fb_X7_19 rfl hn rfl (tyX7_ok 3 (by decide)) rfl rfl (Nat.le_of_ble_eq_true rfl) (dq 17 rfl) (ws' := nf ws q0 (th, .inr (9, [.ref a0, .ref a1, .ref a2, .ref a3, .int 0, .int 0, .int 0, .int 0, .int 0, .int 0, .int 0, .int 0, .null, .int 0, .int 0, .null, .int 0, .null, .int 0, .int 0, .null, .int 0])) ([(a0, ia ty 44 z0), (a1, ia ty 352 z0), (a2, ia ty 44 z0), (a3, ia ty 44 z0)])) (nf_setT hlt) ?_
  refine b_aload_n K (dq 18 rfl) rfl rfl ?_
  refine b_bipush K (dq 19 rfl) (v := 60) rfl ?_
  refine b_newa K (f := fun a4 => nf ws q0 (th, .inr (9, [.ref a0, .ref a1, .ref a2, .ref a3, .int 0, .int 0, .int 0, .int 0, .int 0, .int 0, .int 0, .int 0, .null, .int 0, .int 0, .null, .int 0, .null, .int 0, .int 0, .null, .int 0])) ([(a0, ia ty 44 z0), (a1, ia ty 352 z0), (a2, ia ty 44 z0), (a3, ia ty 44 z0), (a4, ia ty 60 z0)])) (t0 := 0) (atype := .int) (N' := 60) ac_int rfl rfl (fun _ h => by cases h) (fun _ => rfl) (by decide) rfl (by decide) (by simp only [rmk]; omega) (by simp only [rmk]; omega) (dq 20 rfl) (fun _ => nf_app) (fun a4 => ?_)
  refine b_putF K (T := TX7) (k := 12) (t9 := tyX7 12) in_X7 tyX7 tyX7_ok nmX7 (nf_this hlt) rfl (by decide) fb_X7_22 rfl hn rfl (tyX7_ok 12 (by decide)) rfl rfl (Nat.le_of_ble_eq_true rfl) (dq 21 rfl) (ws' := nf ws q0 (th, .inr (9, [.ref a0, .ref a1, .ref a2, .ref a3, .int 0, .int 0, .int 0, .int 0, .int 0, .int 0, .int 0, .int 0, .ref a4, .int 0, .int 0, .null, .int 0, .null, .int 0, .int 0, .null, .int 0])) ([(a0, ia ty 44 z0), (a1, ia ty 352 z0), (a2, ia ty 44 z0), (a3, ia ty 44 z0), (a4, ia ty 60 z0)])) (nf_setT hlt) ?_
  refine b_aload_n K (dq 22 rfl) rfl rfl ?_
  refine b_iconst K (dq 23 rfl) (v := (-1)) rfl ?_
  refine b_put K (T := TX7) (k := 14) (t9 := tyX7 14) in_X7 tyX7 tyX7_ok nmX7 (nf_this hlt) rfl (by decide) fb_X7_25 rfl (tyX7_ok 14 (by decide)) rfl rfl (Nat.le_of_ble_eq_true rfl) (dq 24 rfl) (ws' := nf ws q0 (th, .inr (9, [.ref a0, .ref a1, .ref a2, .ref a3, .int 0, .int 0, .int 0, .int 0, .int 0, .int 0, .int 0, .int 0, .ref a4, .int 0, .int (-1), .null, .int 0, .null, .int 0, .int 0, .null, .int 0])) ([(a0, ia ty 44 z0), (a1, ia ty 352 z0), (a2, ia ty 44 z0), (a3, ia ty 44 z0), (a4, ia ty 60 z0)])) (nf_setT hlt) ?_
  refine b_aload_n K (dq 25 rfl) rfl rfl ?_
  refine b_bipush K (dq 26 rfl) (v := 120) rfl ?_
  refine b_newa K (f := fun a5 => nf ws q0 (th, .inr (9, [.ref a0, .ref a1, .ref a2, .ref a3, .int 0, .int 0, .int 0, .int 0, .int 0, .int 0, .int 0, .int 0, .ref a4, .int 0, .int (-1), .null, .int 0, .null, .int 0, .int 0, .null, .int 0])) ([(a0, ia ty 44 z0), (a1, ia ty 352 z0), (a2, ia ty 44 z0), (a3, ia ty 44 z0), (a4, ia ty 60 z0), (a5, ca ty 120)])) (t0 := 1) (atype := .char) (N' := 120) ac_char rfl rfl (fun _ h => by cases h) (fun _ => rfl) (by decide) rfl (by decide) (by simp only [rmk]; omega) (by simp only [rmk]; omega) (dq 27 rfl) (fun _ => nf_app) (fun a5 => ?_)
  refine b_putF K (T := TX7) (k := 15) (t9 := tyX7 15) in_X7 tyX7 tyX7_ok nmX7 (nf_this hlt) rfl (by decide) fb_X7_29 rfl hn rfl (tyX7_ok 15 (by decide)) rfl rfl (Nat.le_of_ble_eq_true rfl) (dq 28 rfl) (ws' := nf ws q0 (th, .inr (9, [.ref a0, .ref a1, .ref a2, .ref a3, .int 0, .int 0, .int 0, .int 0, .int 0, .int 0, .int 0, .int 0, .ref a4, .int 0, .int (-1), .ref a5, .int 0, .null, .int 0, .int 0, .null, .int 0])) ([(a0, ia ty 44 z0), (a1, ia ty 352 z0), (a2, ia ty 44 z0), (a3, ia ty 44 z0), (a4, ia ty 60 z0), (a5, ca ty 120)])) (nf_setT hlt) ?_
  refine b_aload_n K (dq 29 rfl) rfl rfl ?_
  refine b_bipush K (dq 30 rfl) (v := 12) rfl ?_
  refine b_newa K (f := fun a6 => nf ws q0 (th, .inr (9, [.ref a0, .ref a1, .ref a2, .ref a3, .int 0, .int 0, .int 0, .int 0, .int 0, .int 0, .int 0, .int 0, .ref a4, .int 0, .int (-1), .ref a5, .int 0, .null, .int 0, .int 0, .null, .int 0])) ([(a0, ia ty 44 z0), (a1, ia ty 352 z0), (a2, ia ty 44 z0), (a3, ia ty 44 z0), (a4, ia ty 60 z0), (a5, ca ty 120), (a6, ia ty 12 z0)])) (t0 := 0) (atype := .int) (N' := 12) ac_int rfl rfl (fun _ h => by cases h) (fun _ => rfl) (by decide) rfl (by decide) (by simp only [rmk]; omega) (by simp only [rmk]; omega) (dq 31 rfl) (fun _ => nf_app) (fun a6 => ?_)
  refine b_putF K (T := TX7) (k := 17) (t9 := tyX7 17) in_X7 tyX7 tyX7_ok nmX7 (nf_this hlt) rfl (by decide) fb_X7_33 rfl hn rfl (tyX7_ok 17 (by decide)) rfl rfl (Nat.le_of_ble_eq_true rfl) (dq 32 rfl) (ws' := nf ws q0 (th, .inr (9, [.ref a0, .ref a1, .ref a2, .ref a3, .int 0, .int 0, .int 0, .int 0, .int 0, .int 0, .int 0, .int 0, .ref a4, .int 0, .int (-1), .ref a5, .int 0, .ref a6, .int 0, .int 0, .null, .int 0])) ([(a0, ia ty 44 z0), (a1, ia ty 352 z0), (a2, ia ty 44 z0), (a3, ia ty 44 z0), (a4, ia ty 60 z0), (a5, ca ty 120), (a6, ia ty 12 z0)])) (nf_setT hlt) ?_
  refine b_aload_n K (dq 33 rfl) rfl rfl ?_
  refine b_bipush K (dq 34 rfl) (v := 124) rfl ?_
  refine b_newa K (f := fun a7 => nf ws q0 (th, .inr (9, [.ref a0, .ref a1, .ref a2, .ref a3, .int 0, .int 0, .int 0, .int 0, .int 0, .int 0, .int 0, .int 0, .ref a4, .int 0, .int (-1), .ref a5, .int 0, .ref a6, .int 0, .int 0, .null, .int 0])) ([(a0, ia ty 44 z0), (a1, ia ty 352 z0), (a2, ia ty 44 z0), (a3, ia ty 44 z0), (a4, ia ty 60 z0), (a5, ca ty 120), (a6, ia ty 12 z0), (a7, ia ty 124 z0)])) (t0 := 0) (atype := .int) (N' := 124) ac_int rfl rfl (fun _ h => by cases h) (fun _ => rfl) (by decide) rfl (by decide) (by simp only [rmk]; omega) (by simp only [rmk]; omega) (dq 35 rfl) (fun _ => nf_app) (fun a7 => ?_)
  refine b_putF K (T := TX7) (k := 20) (t9 := tyX7 20) in_X7 tyX7 tyX7_ok nmX7 (nf_this hlt) rfl (by decide) fb_X7_36 rfl hn rfl (tyX7_ok 20 (by decide)) rfl rfl (Nat.le_of_ble_eq_true rfl) (dq 36 rfl) (ws' := nf ws q0 (th, .inr (9, [.ref a0, .ref a1, .ref a2, .ref a3, .int 0, .int 0, .int 0, .int 0, .int 0, .int 0, .int 0, .int 0, .ref a4, .int 0, .int (-1), .ref a5, .int 0, .ref a6, .int 0, .int 0, .ref a7, .int 0])) ([(a0, ia ty 44 z0), (a1, ia ty 352 z0), (a2, ia ty 44 z0), (a3, ia ty 44 z0), (a4, ia ty 60 z0), (a5, ca ty 120), (a6, ia ty 12 z0), (a7, ia ty 124 z0)])) (nf_setT hlt) ?_
  refine b_iconst K (dq 37 rfl) (v := 0) rfl ?_
  refine b_istore_n K (dq 38 rfl) rfl (by decide) (ls' := [some (.ref th), some (.int 0)]) rfl ?_
  refine b_iload_n K (dq 39 rfl) rfl rfl ?_
  refine b_iconst K (dq 40 rfl) (v := 3) rfl ?_
  refine b_icmp_ge_f K (tgt := 96) (dq 41 rfl) rfl (by decide) ?_
  refine b_aload_n K (dq 42 rfl) rfl rfl ?_
  refine b_get K (T := TX7) (k := 0) (v := .ref a0) in_X7 (nf_this hlt) rfl (by decide) fb_X7_7 rfl (dq 43 rfl) ?_
  refine b_iconst K (dq 44 rfl) (v := 5) rfl ?_
  refine b_iload_n K (dq 45 rfl) rfl rfl ?_
  refine b_iadd K (dq 46 rfl) (v := 5) rfl ?_
  refine b_iconst K (dq 47 rfl) (v := (-1)) rfl ?_
  refine b_iast K (j := 5) (nf_new (j := 0) rfl) (ib_in rfl) rfl (dq 48 rfl) (ws' := nf ws q0 (th, .inr (9, [.ref a0, .ref a1, .ref a2, .ref a3, .int 0, .int 0, .int 0, .int 0, .int 0, .int 0, .int 0, .int 0, .ref a4, .int 0, .int (-1), .ref a5, .int 0, .ref a6, .int 0, .int 0, .ref a7, .int 0])) ([(a0, ia ty 44 (upd (z0) 5 (-1))), (a1, ia ty 352 z0), (a2, ia ty 44 z0), (a3, ia ty 44 z0), (a4, ia ty 60 z0), (a5, ca ty 120), (a6, ia ty 12 z0), (a7, ia ty 124 z0)])) nf_setN ?_
  refine b_iinc K (dq 49 rfl) rfl (v := 1) rfl (by decide) (ls' := [some (.ref th), some (.int 1)]) rfl ?_
  refine b_goto K (tgt := 76) (dq 50 rfl) rfl ?_
  refine b_iload_n K (dq 39 rfl) rfl rfl ?_
  refine b_iconst K (dq 40 rfl) (v := 3) rfl ?_
  refine b_icmp_ge_f K (tgt := 96) (dq 41 rfl) rfl (by decide) ?_
  refine b_aload_n K (dq 42 rfl) rfl rfl ?_
  refine b_get K (T := TX7) (k := 0) (v := .ref a0) in_X7 (nf_this hlt) rfl (by decide) fb_X7_7 rfl (dq 43 rfl) ?_
  refine b_iconst K (dq 44 rfl) (v := 5) rfl ?_
  refine b_iload_n K (dq 45 rfl) rfl rfl ?_
  refine b_iadd K (dq 46 rfl) (v := 6) rfl ?_
  refine b_iconst K (dq 47 rfl) (v := (-1)) rfl ?_
  refine b_iast K (j := 6) (nf_new (j := 0) rfl) (ib_in rfl) rfl (dq 48 rfl) (ws' := nf ws q0 (th, .inr (9, [.ref a0, .ref a1, .ref a2, .ref a3, .int 0, .int 0, .int 0, .int 0, .int 0, .int 0, .int 0, .int 0, .ref a4, .int 0, .int (-1), .ref a5, .int 0, .ref a6, .int 0, .int 0, .ref a7, .int 0])) ([(a0, ia ty 44 (upd (upd (z0) 5 (-1)) 6 (-1))), (a1, ia ty 352 z0), (a2, ia ty 44 z0), (a3, ia ty 44 z0), (a4, ia ty 60 z0), (a5, ca ty 120), (a6, ia ty 12 z0), (a7, ia ty 124 z0)])) nf_setN ?_
  refine b_iinc K (dq 49 rfl) rfl (v := 2) rfl (by decide) (ls' := [some (.ref th), some (.int 2)]) rfl ?_
  refine b_goto K (tgt := 76) (dq 50 rfl) rfl ?_
  refine b_iload_n K (dq 39 rfl) rfl rfl ?_
  refine b_iconst K (dq 40 rfl) (v := 3) rfl ?_
  refine b_icmp_ge_f K (tgt := 96) (dq 41 rfl) rfl (by decide) ?_
  refine b_aload_n K (dq 42 rfl) rfl rfl ?_
  refine b_get K (T := TX7) (k := 0) (v := .ref a0) in_X7 (nf_this hlt) rfl (by decide) fb_X7_7 rfl (dq 43 rfl) ?_
  refine b_iconst K (dq 44 rfl) (v := 5) rfl ?_
  refine b_iload_n K (dq 45 rfl) rfl rfl ?_
  refine b_iadd K (dq 46 rfl) (v := 7) rfl ?_
  refine b_iconst K (dq 47 rfl) (v := (-1)) rfl ?_
  refine b_iast K (j := 7) (nf_new (j := 0) rfl) (ib_in rfl) rfl (dq 48 rfl) (ws' := nf ws q0 (th, .inr (9, [.ref a0, .ref a1, .ref a2, .ref a3, .int 0, .int 0, .int 0, .int 0, .int 0, .int 0, .int 0, .int 0, .ref a4, .int 0, .int (-1), .ref a5, .int 0, .ref a6, .int 0, .int 0, .ref a7, .int 0])) ([(a0, ia ty 44 (upd (upd (upd (z0) 5 (-1)) 6 (-1)) 7 (-1))), (a1, ia ty 352 z0), (a2, ia ty 44 z0), (a3, ia ty 44 z0), (a4, ia ty 60 z0), (a5, ca ty 120), (a6, ia ty 12 z0), (a7, ia ty 124 z0)])) nf_setN ?_
  refine b_iinc K (dq 49 rfl) rfl (v := 3) rfl (by decide) (ls' := [some (.ref th), some (.int 3)]) rfl ?_
  refine b_goto K (tgt := 76) (dq 50 rfl) rfl ?_
  refine b_iload_n K (dq 39 rfl) rfl rfl ?_
  refine b_iconst K (dq 40 rfl) (v := 3) rfl ?_
  refine b_icmp_ge_t K (tgt := 96) (dq 41 rfl) rfl (by decide) ?_
  exact b_vret K hlk hrt (dq 51 rfl) (Nat.le_refl _) (Nat.le_refl _) ⟨_, _, ⟨fun k => match k with | 0 => a0 | 1 => a1 | 2 => a2 | 3 => a3 | 4 => a4 | 5 => a5 | 6 => a6 | _ => a7, rfl, rfl⟩, rfl⟩
def tt_iX0 : List (Nat × Instr × Nat) := [(0, .aload_n 0, 1), (1, .invokespecial 3, 3), (4, .aload_n 0, 1), (5, .bipush 8, 2), (7, .anewarray 9, 3), (10, .putfield 11, 3), (13, .iconst 0, 1), (14, .istore_n 1, 1), (15, .iload_n 1, 1), (16, .aload_n 0, 1), (17, .getfield 11, 3), (20, .arraylength, 1), (21, .if_icmp .ge 22, 3), (24, .aload_n 0, 1), (25, .getfield 11, 3), (28, .iload_n 1, 1), (29, .new 9, 3), (32, .dup, 1), (33, .invokespecial 17, 3), (36, .aastore, 1), (37, .iinc 1 1, 3), (40, .goto (-25), 3), (43, .return_, 1)]
theorem dtt_iX0 : tblOK cX0_init tt_iX0 = true := by decide +kernel
theorem ol_X0 : Cond.methodLink RX0 3 Lib.objectInit ∈ GW := gwp 79 (by decide +kernel) rfl
theorem kl_X0_9 : Cond.classLink RX0 9 RX1 ∈ GW := gwp 80 (by decide +kernel) rfl
theorem fb_X0_11 : Cond.fieldLink RX0 11 (TX0 0).1 (TX0 0).2.1 (TX0 0).2.2.1 ∈ GW := gwp 83 (by decide +kernel) rfl
theorem ml_X0_17 : Cond.methodLink RX0 17 yX1_init ∈ GW := gwp 82 (by decide +kernel) rfl
set_option maxRecDepth 40000 in
set_option maxHeartbeats 4000000 in
theorem k_X0 {l : Launch} {D : va_G} {ty : Nat → ClassId} {N0 : Nat} (ws : va_W) (q0 th : Nat) (hq : ws[q0]? = some (th, .inr (2, [.null, .int 0, .int 0]))) : BMet l D ty N0 yX0_init cX0_init 2 (rmk 3 41 392) [.ref th] ws (fun w => ∃ F N, (p0 ty) th F N ∧ w = ws.set q0 (th, .inr (2, F)) ++ N) := by
  refine b_enter (own := RX0) (by decide) rfl rfl (Nat.le_of_ble_eq_true rfl) ?_
  intro p e s m args below meth c K hn hlk hrt
  have dq := @tat _ _ dtt_iX0
  have hlt := nf_lt hq
  refine b_eq (nf_start hq) ?_
  refine b_aload_n K (dq 0 rfl) rfl rfl ?_
  refine b_objInit K ol_X0 oi_i oi_c (dq 1 rfl) (Nat.le_of_ble_eq_true rfl) (Nat.le_of_ble_eq_true rfl) ?_
  refine b_aload_n K (dq 2 rfl) rfl rfl ?_
  refine b_bipush K (dq 3 rfl) (v := 8) rfl ?_
  refine b_anew K (f := fun a0 => nf ws q0 (th, .inr (2, [.null, .int 0, .int 0])) ([(a0, ra ty 8 (fun _ => none))])) (N' := 8) kl_X0_9 (by decide) rfl (by decide) (by simp only [rmk]; omega) (by simp only [rmk]; omega) (dq 4 rfl) (fun _ => nf_app) (fun a0 => ?_)
  refine b_putF K (T := TX0) (k := 0) (t9 := tyX0 0) in_X0 tyX0 tyX0_ok nmX0 (nf_this hlt) rfl (by decide) fb_X0_11 rfl hn rfl (tyX0_ok 0 (by decide)) rfl rfl (Nat.le_of_ble_eq_true rfl) (dq 5 rfl) (ws' := nf ws q0 (th, .inr (2, [.ref a0, .int 0, .int 0])) ([(a0, ra ty 8 (fun _ => none))])) (nf_setT hlt) ?_
  refine b_iconst K (dq 6 rfl) (v := 0) rfl ?_
  refine b_istore_n K (dq 7 rfl) rfl (by decide) (ls' := [some (.ref th), some (.int 0)]) rfl ?_
  refine b_iload_n K (dq 8 rfl) rfl rfl ?_
  refine b_aload_n K (dq 9 rfl) rfl rfl ?_
  refine b_get K (T := TX0) (k := 0) (v := .ref a0) in_X0 (nf_this hlt) rfl (by decide) fb_X0_11 rfl (dq 10 rfl) ?_
  refine b_alen K (t0 := 2) (v := 8) (nf_new (j := 0) rfl) rfl rfl (dq 11 rfl) ?_
  refine b_icmp_ge_f K (tgt := 43) (dq 12 rfl) rfl (by decide) ?_
  refine b_aload_n K (dq 13 rfl) rfl rfl ?_
  refine b_get K (T := TX0) (k := 0) (v := .ref a0) in_X0 (nf_this hlt) rfl (by decide) fb_X0_11 rfl (dq 14 rfl) ?_
  refine b_iload_n K (dq 15 rfl) rfl rfl ?_
  refine b_new K (ci := 3) (fs := [.int 0, .null, .null, .null, .null, .int 0, .int 0, .int 0, .int 0]) (f := fun o1 => nf ws q0 (th, .inr (2, [.ref a0, .int 0, .int 0])) ([(a0, ra ty 8 (fun _ => none)), (o1, .inr (3, [.int 0, .null, .null, .null, .null, .int 0, .int 0, .int 0, .int 0]))])) in_X1 tyX1 tyX1_ok kl_X0_9 ci_able_X1 ci_ini_X1 rfl (by intro j hj; rcases (show j = 0 ∨ j = 1 ∨ j = 2 ∨ j = 3 ∨ j = 4 ∨ j = 5 ∨ j = 6 ∨ j = 7 ∨ j = 8 by omega) with rfl | rfl | rfl | rfl | rfl | rfl | rfl | rfl | rfl <;> rfl) (by simp only [rmk]; omega) (by simp only [rmk]; omega) (dq 16 rfl) (fun _ => nf_app) (fun o1 => ?_)
  refine b_dup K (dq 17 rfl) rfl ?_
  refine b_callI K (Ψ := (p1 ty)) (nf_new (j := 1) rfl) (k_X1 _ _ o1 (nf_new (j := 1) rfl)) ci_code_X1 ml_X0_17 ci_inst_X1 ci_ini_X1 rfl ⟨by decide, by decide, by decide +kernel⟩ (by constructor <;> (simp only [rmk]; omega)) (Nat.le_of_ble_eq_true rfl) (dq 18 rfl) (by constructor <;> (simp only [rmk]; omega)) (fun F2 N2 hΨ => ?_)
  obtain ⟨f2, rfl, rfl⟩ := hΨ
  refine b_eq (ws' := nf ws q0 (th, .inr (2, [.ref a0, .int 0, .int 0])) ([(a0, ra ty 8 (fun _ => none))] ++ ((gC ty o1 f2)))) (by rw [nf_setN, nf_app]; rfl) ?_
  refine b_aast K (j := 0) (nf_new (j := 0) rfl) (nf_new (j := 1) rfl) (ib_in rfl) rfl (dq 19 rfl) (ws' := nf ws q0 (th, .inr (2, [.ref a0, .int 0, .int 0])) ([(a0, ra ty 8 (va_up (fun _ => none) 0 (some o1)))] ++ ((gC ty o1 f2)))) nf_setN ?_
  refine b_iinc K (dq 20 rfl) rfl (v := 1) rfl (by decide) (ls' := [some (.ref th), some (.int 1)]) rfl ?_
  refine b_goto K (tgt := 15) (dq 21 rfl) rfl ?_
  refine b_iload_n K (dq 8 rfl) rfl rfl ?_
  refine b_aload_n K (dq 9 rfl) rfl rfl ?_
  refine b_get K (T := TX0) (k := 0) (v := .ref a0) in_X0 (nf_this hlt) rfl (by decide) fb_X0_11 rfl (dq 10 rfl) ?_
  refine b_alen K (t0 := 2) (v := 8) (nf_new (j := 0) rfl) rfl rfl (dq 11 rfl) ?_
  refine b_icmp_ge_f K (tgt := 43) (dq 12 rfl) rfl (by decide) ?_
  refine b_aload_n K (dq 13 rfl) rfl rfl ?_
  refine b_get K (T := TX0) (k := 0) (v := .ref a0) in_X0 (nf_this hlt) rfl (by decide) fb_X0_11 rfl (dq 14 rfl) ?_
  refine b_iload_n K (dq 15 rfl) rfl rfl ?_
  refine b_new K (ci := 3) (fs := [.int 0, .null, .null, .null, .null, .int 0, .int 0, .int 0, .int 0]) (f := fun o3 => nf ws q0 (th, .inr (2, [.ref a0, .int 0, .int 0])) ([(a0, ra ty 8 (va_up (fun _ => none) 0 (some o1)))] ++ ((gC ty o1 f2) ++ ([(o3, .inr (3, [.int 0, .null, .null, .null, .null, .int 0, .int 0, .int 0, .int 0]))])))) in_X1 tyX1 tyX1_ok kl_X0_9 ci_able_X1 ci_ini_X1 rfl (by intro j hj; rcases (show j = 0 ∨ j = 1 ∨ j = 2 ∨ j = 3 ∨ j = 4 ∨ j = 5 ∨ j = 6 ∨ j = 7 ∨ j = 8 by omega) with rfl | rfl | rfl | rfl | rfl | rfl | rfl | rfl | rfl <;> rfl) (by simp only [rmk]; omega) (by simp only [rmk]; omega) (dq 16 rfl) (fun _ => nf_app) (fun o3 => ?_)
  refine b_dup K (dq 17 rfl) rfl ?_
  refine b_callI K (Ψ := (p1 ty)) (nf_new (j := 6) rfl) (k_X1 _ _ o3 (nf_new (j := 6) rfl)) ci_code_X1 ml_X0_17 ci_inst_X1 ci_ini_X1 rfl ⟨by decide, by decide, by decide +kernel⟩ (by constructor <;> (simp only [rmk]; omega)) (Nat.le_of_ble_eq_true rfl) (dq 18 rfl) (by constructor <;> (simp only [rmk]; omega)) (fun F4 N4 hΨ => ?_)
  obtain ⟨f4, rfl, rfl⟩ := hΨ
  refine b_eq (ws' := nf ws q0 (th, .inr (2, [.ref a0, .int 0, .int 0])) ([(a0, ra ty 8 (va_up (fun _ => none) 0 (some o1)))] ++ ((gC ty o1 f2) ++ ((gC ty o3 f4))))) (by rw [nf_setN, nf_app]; rfl) ?_
  refine b_aast K (j := 1) (nf_new (j := 0) rfl) (nf_new (j := 6) rfl) (ib_in rfl) rfl (dq 19 rfl) (ws' := nf ws q0 (th, .inr (2, [.ref a0, .int 0, .int 0])) ([(a0, ra ty 8 (va_up (va_up (fun _ => none) 0 (some o1)) 1 (some o3)))] ++ ((gC ty o1 f2) ++ ((gC ty o3 f4))))) nf_setN ?_
  refine b_iinc K (dq 20 rfl) rfl (v := 2) rfl (by decide) (ls' := [some (.ref th), some (.int 2)]) rfl ?_
  refine b_goto K (tgt := 15) (dq 21 rfl) rfl ?_
  refine b_iload_n K (dq 8 rfl) rfl rfl ?_
  refine b_aload_n K (dq 9 rfl) rfl rfl ?_
  refine b_get K (T := TX0) (k := 0) (v := .ref a0) in_X0 (nf_this hlt) rfl (by decide) fb_X0_11 rfl (dq 10 rfl) ?_
  refine b_alen K (t0 := 2) (v := 8) (nf_new (j := 0) rfl) rfl rfl (dq 11 rfl) ?_
  refine b_icmp_ge_f K (tgt := 43) (dq 12 rfl) rfl (by decide) ?_
  refine b_aload_n K (dq 13 rfl) rfl rfl ?_
  refine b_get K (T := TX0) (k := 0) (v := .ref a0) in_X0 (nf_this hlt) rfl (by decide) fb_X0_11 rfl (dq 14 rfl) ?_
  refine b_iload_n K (dq 15 rfl) rfl rfl ?_
  refine b_new K (ci := 3) (fs := [.int 0, .null, .null, .null, .null, .int 0, .int 0, .int 0, .int 0]) (f := fun o5 => nf ws q0 (th, .inr (2, [.ref a0, .int 0, .int 0])) ([(a0, ra ty 8 (va_up (va_up (fun _ => none) 0 (some o1)) 1 (some o3)))] ++ ((gC ty o1 f2) ++ ((gC ty o3 f4) ++ ([(o5, .inr (3, [.int 0, .null, .null, .null, .null, .int 0, .int 0, .int 0, .int 0]))]))))) in_X1 tyX1 tyX1_ok kl_X0_9 ci_able_X1 ci_ini_X1 rfl (by intro j hj; rcases (show j = 0 ∨ j = 1 ∨ j = 2 ∨ j = 3 ∨ j = 4 ∨ j = 5 ∨ j = 6 ∨ j = 7 ∨ j = 8 by omega) with rfl | rfl | rfl | rfl | rfl | rfl | rfl | rfl | rfl <;> rfl) (by simp only [rmk]; omega) (by simp only [rmk]; omega) (dq 16 rfl) (fun _ => nf_app) (fun o5 => ?_)
  refine b_dup K (dq 17 rfl) rfl ?_
  refine b_callI K (Ψ := (p1 ty)) (nf_new (j := 11) rfl) (k_X1 _ _ o5 (nf_new (j := 11) rfl)) ci_code_X1 ml_X0_17 ci_inst_X1 ci_ini_X1 rfl ⟨by decide, by decide, by decide +kernel⟩ (by constructor <;> (simp only [rmk]; omega)) (Nat.le_of_ble_eq_true rfl) (dq 18 rfl) (by constructor <;> (simp only [rmk]; omega)) (fun F6 N6 hΨ => ?_)
  obtain ⟨f6, rfl, rfl⟩ := hΨ
  refine b_eq (ws' := nf ws q0 (th, .inr (2, [.ref a0, .int 0, .int 0])) ([(a0, ra ty 8 (va_up (va_up (fun _ => none) 0 (some o1)) 1 (some o3)))] ++ ((gC ty o1 f2) ++ ((gC ty o3 f4) ++ ((gC ty o5 f6)))))) (by rw [nf_setN, nf_app]; rfl) ?_
  refine b_aast K (j := 2) (nf_new (j := 0) rfl) (nf_new (j := 11) rfl) (ib_in rfl) rfl (dq 19 rfl) (ws' := nf ws q0 (th, .inr (2, [.ref a0, .int 0, .int 0])) ([(a0, ra ty 8 (va_up (va_up (va_up (fun _ => none) 0 (some o1)) 1 (some o3)) 2 (some o5)))] ++ ((gC ty o1 f2) ++ ((gC ty o3 f4) ++ ((gC ty o5 f6)))))) nf_setN ?_
  refine b_iinc K (dq 20 rfl) rfl (v := 3) rfl (by decide) (ls' := [some (.ref th), some (.int 3)]) rfl ?_
  refine b_goto K (tgt := 15) (dq 21 rfl) rfl ?_
  refine b_iload_n K (dq 8 rfl) rfl rfl ?_
  refine b_aload_n K (dq 9 rfl) rfl rfl ?_
  refine b_get K (T := TX0) (k := 0) (v := .ref a0) in_X0 (nf_this hlt) rfl (by decide) fb_X0_11 rfl (dq 10 rfl) ?_
  refine b_alen K (t0 := 2) (v := 8) (nf_new (j := 0) rfl) rfl rfl (dq 11 rfl) ?_
  refine b_icmp_ge_f K (tgt := 43) (dq 12 rfl) rfl (by decide) ?_
  refine b_aload_n K (dq 13 rfl) rfl rfl ?_
  refine b_get K (T := TX0) (k := 0) (v := .ref a0) in_X0 (nf_this hlt) rfl (by decide) fb_X0_11 rfl (dq 14 rfl) ?_
  refine b_iload_n K (dq 15 rfl) rfl rfl ?_
  refine b_new K (ci := 3) (fs := [.int 0, .null, .null, .null, .null, .int 0, .int 0, .int 0, .int 0]) (f := fun o7 => nf ws q0 (th, .inr (2, [.ref a0, .int 0, .int 0])) ([(a0, ra ty 8 (va_up (va_up (va_up (fun _ => none) 0 (some o1)) 1 (some o3)) 2 (some o5)))] ++ ((gC ty o1 f2) ++ ((gC ty o3 f4) ++ ((gC ty o5 f6) ++ ([(o7, .inr (3, [.int 0, .null, .null, .null, .null, .int 0, .int 0, .int 0, .int 0]))])))))) in_X1 tyX1 tyX1_ok kl_X0_9 ci_able_X1 ci_ini_X1 rfl (by intro j hj; rcases (show j = 0 ∨ j = 1 ∨ j = 2 ∨ j = 3 ∨ j = 4 ∨ j = 5 ∨ j = 6 ∨ j = 7 ∨ j = 8 by omega) with rfl | rfl | rfl | rfl | rfl | rfl | rfl | rfl | rfl <;> rfl) (by simp only [rmk]; omega) (by simp only [rmk]; omega) (dq 16 rfl) (fun _ => nf_app) (fun o7 => ?_)
  refine b_dup K (dq 17 rfl) rfl ?_
  refine b_callI K (Ψ := (p1 ty)) (nf_new (j := 16) rfl) (k_X1 _ _ o7 (nf_new (j := 16) rfl)) ci_code_X1 ml_X0_17 ci_inst_X1 ci_ini_X1 rfl ⟨by decide, by decide, by decide +kernel⟩ (by constructor <;> (simp only [rmk]; omega)) (Nat.le_of_ble_eq_true rfl) (dq 18 rfl) (by constructor <;> (simp only [rmk]; omega)) (fun F8 N8 hΨ => ?_)
  obtain ⟨f8, rfl, rfl⟩ := hΨ
  refine b_eq (ws' := nf ws q0 (th, .inr (2, [.ref a0, .int 0, .int 0])) ([(a0, ra ty 8 (va_up (va_up (va_up (fun _ => none) 0 (some o1)) 1 (some o3)) 2 (some o5)))] ++ ((gC ty o1 f2) ++ ((gC ty o3 f4) ++ ((gC ty o5 f6) ++ ((gC ty o7 f8))))))) (by rw [nf_setN, nf_app]; rfl) ?_
  refine b_aast K (j := 3) (nf_new (j := 0) rfl) (nf_new (j := 16) rfl) (ib_in rfl) rfl (dq 19 rfl) (ws' := nf ws q0 (th, .inr (2, [.ref a0, .int 0, .int 0])) ([(a0, ra ty 8 (va_up (va_up (va_up (va_up (fun _ => none) 0 (some o1)) 1 (some o3)) 2 (some o5)) 3 (some o7)))] ++ ((gC ty o1 f2) ++ ((gC ty o3 f4) ++ ((gC ty o5 f6) ++ ((gC ty o7 f8))))))) nf_setN ?_
  refine b_iinc K (dq 20 rfl) rfl (v := 4) rfl (by decide) (ls' := [some (.ref th), some (.int 4)]) rfl ?_
  refine b_goto K (tgt := 15) (dq 21 rfl) rfl ?_
  refine b_iload_n K (dq 8 rfl) rfl rfl ?_
  refine b_aload_n K (dq 9 rfl) rfl rfl ?_
  refine b_get K (T := TX0) (k := 0) (v := .ref a0) in_X0 (nf_this hlt) rfl (by decide) fb_X0_11 rfl (dq 10 rfl) ?_
  refine b_alen K (t0 := 2) (v := 8) (nf_new (j := 0) rfl) rfl rfl (dq 11 rfl) ?_
  refine b_icmp_ge_f K (tgt := 43) (dq 12 rfl) rfl (by decide) ?_
  refine b_aload_n K (dq 13 rfl) rfl rfl ?_
  refine b_get K (T := TX0) (k := 0) (v := .ref a0) in_X0 (nf_this hlt) rfl (by decide) fb_X0_11 rfl (dq 14 rfl) ?_
  refine b_iload_n K (dq 15 rfl) rfl rfl ?_
  refine b_new K (ci := 3) (fs := [.int 0, .null, .null, .null, .null, .int 0, .int 0, .int 0, .int 0]) (f := fun o9 => nf ws q0 (th, .inr (2, [.ref a0, .int 0, .int 0])) ([(a0, ra ty 8 (va_up (va_up (va_up (va_up (fun _ => none) 0 (some o1)) 1 (some o3)) 2 (some o5)) 3 (some o7)))] ++ ((gC ty o1 f2) ++ ((gC ty o3 f4) ++ ((gC ty o5 f6) ++ ((gC ty o7 f8) ++ ([(o9, .inr (3, [.int 0, .null, .null, .null, .null, .int 0, .int 0, .int 0, .int 0]))]))))))) in_X1 tyX1 tyX1_ok kl_X0_9 ci_able_X1 ci_ini_X1 rfl (by intro j hj; rcases (show j = 0 ∨ j = 1 ∨ j = 2 ∨ j = 3 ∨ j = 4 ∨ j = 5 ∨ j = 6 ∨ j = 7 ∨ j = 8 by omega) with rfl | rfl | rfl | rfl | rfl | rfl | rfl | rfl | rfl <;> rfl) (by simp only [rmk]; omega) (by simp only [rmk]; omega) (dq 16 rfl) (fun _ => nf_app) (fun o9 => ?_)
  refine b_dup K (dq 17 rfl) rfl ?_
  refine b_callI K (Ψ := (p1 ty)) (nf_new (j := 21) rfl) (k_X1 _ _ o9 (nf_new (j := 21) rfl)) ci_code_X1 ml_X0_17 ci_inst_X1 ci_ini_X1 rfl ⟨by decide, by decide, by decide +kernel⟩ (by constructor <;> (simp only [rmk]; omega)) (Nat.le_of_ble_eq_true rfl) (dq 18 rfl) (by constructor <;> (simp only [rmk]; omega)) (fun F10 N10 hΨ => ?_)
  obtain ⟨f10, rfl, rfl⟩ := hΨ
  refine b_eq (ws' := nf ws q0 (th, .inr (2, [.ref a0, .int 0, .int 0])) ([(a0, ra ty 8 (va_up (va_up (va_up (va_up (fun _ => none) 0 (some o1)) 1 (some o3)) 2 (some o5)) 3 (some o7)))] ++ ((gC ty o1 f2) ++ ((gC ty o3 f4) ++ ((gC ty o5 f6) ++ ((gC ty o7 f8) ++ ((gC ty o9 f10)))))))) (by rw [nf_setN, nf_app]; rfl) ?_
  refine b_aast K (j := 4) (nf_new (j := 0) rfl) (nf_new (j := 21) rfl) (ib_in rfl) rfl (dq 19 rfl) (ws' := nf ws q0 (th, .inr (2, [.ref a0, .int 0, .int 0])) ([(a0, ra ty 8 (va_up (va_up (va_up (va_up (va_up (fun _ => none) 0 (some o1)) 1 (some o3)) 2 (some o5)) 3 (some o7)) 4 (some o9)))] ++ ((gC ty o1 f2) ++ ((gC ty o3 f4) ++ ((gC ty o5 f6) ++ ((gC ty o7 f8) ++ ((gC ty o9 f10)))))))) nf_setN ?_
  refine b_iinc K (dq 20 rfl) rfl (v := 5) rfl (by decide) (ls' := [some (.ref th), some (.int 5)]) rfl ?_
  refine b_goto K (tgt := 15) (dq 21 rfl) rfl ?_
  refine b_iload_n K (dq 8 rfl) rfl rfl ?_
  refine b_aload_n K (dq 9 rfl) rfl rfl ?_
  refine b_get K (T := TX0) (k := 0) (v := .ref a0) in_X0 (nf_this hlt) rfl (by decide) fb_X0_11 rfl (dq 10 rfl) ?_
  refine b_alen K (t0 := 2) (v := 8) (nf_new (j := 0) rfl) rfl rfl (dq 11 rfl) ?_
  refine b_icmp_ge_f K (tgt := 43) (dq 12 rfl) rfl (by decide) ?_
  refine b_aload_n K (dq 13 rfl) rfl rfl ?_
  refine b_get K (T := TX0) (k := 0) (v := .ref a0) in_X0 (nf_this hlt) rfl (by decide) fb_X0_11 rfl (dq 14 rfl) ?_
  refine b_iload_n K (dq 15 rfl) rfl rfl ?_
  refine b_new K (ci := 3) (fs := [.int 0, .null, .null, .null, .null, .int 0, .int 0, .int 0, .int 0]) (f := fun o11 => nf ws q0 (th, .inr (2, [.ref a0, .int 0, .int 0])) ([(a0, ra ty 8 (va_up (va_up (va_up (va_up (va_up (fun _ => none) 0 (some o1)) 1 (some o3)) 2 (some o5)) 3 (some o7)) 4 (some o9)))] ++ ((gC ty o1 f2) ++ ((gC ty o3 f4) ++ ((gC ty o5 f6) ++ ((gC ty o7 f8) ++ ((gC ty o9 f10) ++ ([(o11, .inr (3, [.int 0, .null, .null, .null, .null, .int 0, .int 0, .int 0, .int 0]))])))))))) in_X1 tyX1 tyX1_ok kl_X0_9 ci_able_X1 ci_ini_X1 rfl (by intro j hj; rcases (show j = 0 ∨ j = 1 ∨ j = 2 ∨ j = 3 ∨ j = 4 ∨ j = 5 ∨ j = 6 ∨ j = 7 ∨ j = 8 by omega) with rfl | rfl | rfl | rfl | rfl | rfl | rfl | rfl | rfl <;> rfl) (by simp only [rmk]; omega) (by simp only [rmk]; omega) (dq 16 rfl) (fun _ => nf_app) (fun o11 => ?_)
  refine b_dup K (dq 17 rfl) rfl ?_
  refine b_callI K (Ψ := (p1 ty)) (nf_new (j := 26) rfl) (k_X1 _ _ o11 (nf_new (j := 26) rfl)) ci_code_X1 ml_X0_17 ci_inst_X1 ci_ini_X1 rfl ⟨by decide, by decide, by decide +kernel⟩ (by constructor <;> (simp only [rmk]; omega)) (Nat.le_of_ble_eq_true rfl) (dq 18 rfl) (by constructor <;> (simp only [rmk]; omega)) (fun F12 N12 hΨ => ?_)
  obtain ⟨f12, rfl, rfl⟩ := hΨ
  refine b_eq (ws' := nf ws q0 (th, .inr (2, [.ref a0, .int 0, .int 0])) ([(a0, ra ty 8 (va_up (va_up (va_up (va_up (va_up (fun _ => none) 0 (some o1)) 1 (some o3)) 2 (some o5)) 3 (some o7)) 4 (some o9)))] ++ ((gC ty o1 f2) ++ ((gC ty o3 f4) ++ ((gC ty o5 f6) ++ ((gC ty o7 f8) ++ ((gC ty o9 f10) ++ ((gC ty o11 f12))))))))) (by rw [nf_setN, nf_app]; rfl) ?_
  refine b_aast K (j := 5) (nf_new (j := 0) rfl) (nf_new (j := 26) rfl) (ib_in rfl) rfl (dq 19 rfl) (ws' := nf ws q0 (th, .inr (2, [.ref a0, .int 0, .int 0])) ([(a0, ra ty 8 (va_up (va_up (va_up (va_up (va_up (va_up (fun _ => none) 0 (some o1)) 1 (some o3)) 2 (some o5)) 3 (some o7)) 4 (some o9)) 5 (some o11)))] ++ ((gC ty o1 f2) ++ ((gC ty o3 f4) ++ ((gC ty o5 f6) ++ ((gC ty o7 f8) ++ ((gC ty o9 f10) ++ ((gC ty o11 f12))))))))) nf_setN ?_
  refine b_iinc K (dq 20 rfl) rfl (v := 6) rfl (by decide) (ls' := [some (.ref th), some (.int 6)]) rfl ?_
  refine b_goto K (tgt := 15) (dq 21 rfl) rfl ?_
  refine b_iload_n K (dq 8 rfl) rfl rfl ?_
  refine b_aload_n K (dq 9 rfl) rfl rfl ?_
  refine b_get K (T := TX0) (k := 0) (v := .ref a0) in_X0 (nf_this hlt) rfl (by decide) fb_X0_11 rfl (dq 10 rfl) ?_
  refine b_alen K (t0 := 2) (v := 8) (nf_new (j := 0) rfl) rfl rfl (dq 11 rfl) ?_
  refine b_icmp_ge_f K (tgt := 43) (dq 12 rfl) rfl (by decide) ?_
  refine b_aload_n K (dq 13 rfl) rfl rfl ?_
  refine b_get K (T := TX0) (k := 0) (v := .ref a0) in_X0 (nf_this hlt) rfl (by decide) fb_X0_11 rfl (dq 14 rfl) ?_
  refine b_iload_n K (dq 15 rfl) rfl rfl ?_
  refine b_new K (ci := 3) (fs := [.int 0, .null, .null, .null, .null, .int 0, .int 0, .int 0, .int 0]) (f := fun o13 => nf ws q0 (th, .inr (2, [.ref a0, .int 0, .int 0])) ([(a0, ra ty 8 (va_up (va_up (va_up (va_up (va_up (va_up (fun _ => none) 0 (some o1)) 1 (some o3)) 2 (some o5)) 3 (some o7)) 4 (some o9)) 5 (some o11)))] ++ ((gC ty o1 f2) ++ ((gC ty o3 f4) ++ ((gC ty o5 f6) ++ ((gC ty o7 f8) ++ ((gC ty o9 f10) ++ ((gC ty o11 f12) ++ ([(o13, .inr (3, [.int 0, .null, .null, .null, .null, .int 0, .int 0, .int 0, .int 0]))]))))))))) in_X1 tyX1 tyX1_ok kl_X0_9 ci_able_X1 ci_ini_X1 rfl (by intro j hj; rcases (show j = 0 ∨ j = 1 ∨ j = 2 ∨ j = 3 ∨ j = 4 ∨ j = 5 ∨ j = 6 ∨ j = 7 ∨ j = 8 by omega) with rfl | rfl | rfl | rfl | rfl | rfl | rfl | rfl | rfl <;> rfl) (by simp only [rmk]; omega) (by simp only [rmk]; omega) (dq 16 rfl) (fun _ => nf_app) (fun o13 => ?_)
  refine b_dup K (dq 17 rfl) rfl ?_
  refine b_callI K (Ψ := (p1 ty)) (nf_new (j := 31) rfl) (k_X1 _ _ o13 (nf_new (j := 31) rfl)) ci_code_X1 ml_X0_17 ci_inst_X1 ci_ini_X1 rfl ⟨by decide, by decide, by decide +kernel⟩ (by constructor <;> (simp only [rmk]; omega)) (Nat.le_of_ble_eq_true rfl) (dq 18 rfl) (by constructor <;> (simp only [rmk]; omega)) (fun F14 N14 hΨ => ?_)
  obtain ⟨f14, rfl, rfl⟩ := hΨ
  refine b_eq (ws' := nf ws q0 (th, .inr (2, [.ref a0, .int 0, .int 0])) ([(a0, ra ty 8 (va_up (va_up (va_up (va_up (va_up (va_up (fun _ => none) 0 (some o1)) 1 (some o3)) 2 (some o5)) 3 (some o7)) 4 (some o9)) 5 (some o11)))] ++ ((gC ty o1 f2) ++ ((gC ty o3 f4) ++ ((gC ty o5 f6) ++ ((gC ty o7 f8) ++ ((gC ty o9 f10) ++ ((gC ty o11 f12) ++ ((gC ty o13 f14)))))))))) (by rw [nf_setN, nf_app]; rfl) ?_
  refine b_aast K (j := 6) (nf_new (j := 0) rfl) (nf_new (j := 31) rfl) (ib_in rfl) rfl (dq 19 rfl) (ws' := nf ws q0 (th, .inr (2, [.ref a0, .int 0, .int 0])) ([(a0, ra ty 8 (va_up (va_up (va_up (va_up (va_up (va_up (va_up (fun _ => none) 0 (some o1)) 1 (some o3)) 2 (some o5)) 3 (some o7)) 4 (some o9)) 5 (some o11)) 6 (some o13)))] ++ ((gC ty o1 f2) ++ ((gC ty o3 f4) ++ ((gC ty o5 f6) ++ ((gC ty o7 f8) ++ ((gC ty o9 f10) ++ ((gC ty o11 f12) ++ ((gC ty o13 f14)))))))))) nf_setN ?_
  refine b_iinc K (dq 20 rfl) rfl (v := 7) rfl (by decide) (ls' := [some (.ref th), some (.int 7)]) rfl ?_
  refine b_goto K (tgt := 15) (dq 21 rfl) rfl ?_
  refine b_iload_n K (dq 8 rfl) rfl rfl ?_
  refine b_aload_n K (dq 9 rfl) rfl rfl ?_
  refine b_get K (T := TX0) (k := 0) (v := .ref a0) in_X0 (nf_this hlt) rfl (by decide) fb_X0_11 rfl (dq 10 rfl) ?_
  refine b_alen K (t0 := 2) (v := 8) (nf_new (j := 0) rfl) rfl rfl (dq 11 rfl) ?_
  refine b_icmp_ge_f K (tgt := 43) (dq 12 rfl) rfl (by decide) ?_
  refine b_aload_n K (dq 13 rfl) rfl rfl ?_
  refine b_get K (T := TX0) (k := 0) (v := .ref a0) in_X0 (nf_this hlt) rfl (by decide) fb_X0_11 rfl (dq 14 rfl) ?_
  refine b_iload_n K (dq 15 rfl) rfl rfl ?_
  refine b_new K (ci := 3) (fs := [.int 0, .null, .null, .null, .null, .int 0, .int 0, .int 0, .int 0]) (f := fun o15 => nf ws q0 (th, .inr (2, [.ref a0, .int 0, .int 0])) ([(a0, ra ty 8 (va_up (va_up (va_up (va_up (va_up (va_up (va_up (fun _ => none) 0 (some o1)) 1 (some o3)) 2 (some o5)) 3 (some o7)) 4 (some o9)) 5 (some o11)) 6 (some o13)))] ++ ((gC ty o1 f2) ++ ((gC ty o3 f4) ++ ((gC ty o5 f6) ++ ((gC ty o7 f8) ++ ((gC ty o9 f10) ++ ((gC ty o11 f12) ++ ((gC ty o13 f14) ++ ([(o15, .inr (3, [.int 0, .null, .null, .null, .null, .int 0, .int 0, .int 0, .int 0]))])))))))))) in_X1 tyX1 tyX1_ok kl_X0_9 ci_able_X1 ci_ini_X1 rfl (by intro j hj; rcases (show j = 0 ∨ j = 1 ∨ j = 2 ∨ j = 3 ∨ j = 4 ∨ j = 5 ∨ j = 6 ∨ j = 7 ∨ j = 8 by omega) with rfl | rfl | rfl | rfl | rfl | rfl | rfl | rfl | rfl <;> rfl) (by simp only [rmk]; omega) (by simp only [rmk]; omega) (dq 16 rfl) (fun _ => nf_app) (fun o15 => ?_)
  refine b_dup K (dq 17 rfl) rfl ?_
  refine b_callI K (Ψ := (p1 ty)) (nf_new (j := 36) rfl) (k_X1 _ _ o15 (nf_new (j := 36) rfl)) ci_code_X1 ml_X0_17 ci_inst_X1 ci_ini_X1 rfl ⟨by decide, by decide, by decide +kernel⟩ (by constructor <;> (simp only [rmk]; omega)) (Nat.le_of_ble_eq_true rfl) (dq 18 rfl) (by constructor <;> (simp only [rmk]; omega)) (fun F16 N16 hΨ => ?_)
  obtain ⟨f16, rfl, rfl⟩ := hΨ
  refine b_eq (ws' := nf ws q0 (th, .inr (2, [.ref a0, .int 0, .int 0])) ([(a0, ra ty 8 (va_up (va_up (va_up (va_up (va_up (va_up (va_up (fun _ => none) 0 (some o1)) 1 (some o3)) 2 (some o5)) 3 (some o7)) 4 (some o9)) 5 (some o11)) 6 (some o13)))] ++ ((gC ty o1 f2) ++ ((gC ty o3 f4) ++ ((gC ty o5 f6) ++ ((gC ty o7 f8) ++ ((gC ty o9 f10) ++ ((gC ty o11 f12) ++ ((gC ty o13 f14) ++ ((gC ty o15 f16))))))))))) (by rw [nf_setN, nf_app]; rfl) ?_
  refine b_aast K (j := 7) (nf_new (j := 0) rfl) (nf_new (j := 36) rfl) (ib_in rfl) rfl (dq 19 rfl) (ws' := nf ws q0 (th, .inr (2, [.ref a0, .int 0, .int 0])) ([(a0, ra ty 8 (va_up (va_up (va_up (va_up (va_up (va_up (va_up (va_up (fun _ => none) 0 (some o1)) 1 (some o3)) 2 (some o5)) 3 (some o7)) 4 (some o9)) 5 (some o11)) 6 (some o13)) 7 (some o15)))] ++ ((gC ty o1 f2) ++ ((gC ty o3 f4) ++ ((gC ty o5 f6) ++ ((gC ty o7 f8) ++ ((gC ty o9 f10) ++ ((gC ty o11 f12) ++ ((gC ty o13 f14) ++ ((gC ty o15 f16))))))))))) nf_setN ?_
  refine b_iinc K (dq 20 rfl) rfl (v := 8) rfl (by decide) (ls' := [some (.ref th), some (.int 8)]) rfl ?_
  refine b_goto K (tgt := 15) (dq 21 rfl) rfl ?_
  refine b_iload_n K (dq 8 rfl) rfl rfl ?_
  refine b_aload_n K (dq 9 rfl) rfl rfl ?_
  refine b_get K (T := TX0) (k := 0) (v := .ref a0) in_X0 (nf_this hlt) rfl (by decide) fb_X0_11 rfl (dq 10 rfl) ?_
  refine b_alen K (t0 := 2) (v := 8) (nf_new (j := 0) rfl) rfl rfl (dq 11 rfl) ?_
  refine b_icmp_ge_t K (tgt := 43) (dq 12 rfl) rfl (by decide) ?_
  exact b_vret K hlk hrt (dq 22 rfl) (Nat.le_refl _) (Nat.le_refl _) ⟨_, _, ⟨a0, fun k => match k with | 0 => o1 | 1 => o3 | 2 => o5 | 3 => o7 | 4 => o9 | 5 => o11 | 6 => o13 | _ => o15, fun k => match k with | 0 => f2 | 1 => f4 | 2 => f6 | 3 => f8 | 4 => f10 | 5 => f12 | 6 => f14 | _ => f16, rfl, rfl⟩, rfl⟩
def tt_iX6 : List (Nat × Instr × Nat) := [(0, .aload_n 0, 1), (1, .invokespecial 1, 3), (4, .aload_n 0, 1), (5, .new 7, 3), (8, .dup, 1), (9, .invokespecial 9, 3), (12, .putfield 10, 3), (15, .aload_n 0, 1), (16, .new 7, 3), (19, .dup, 1), (20, .invokespecial 9, 3), (23, .putfield 16, 3), (26, .aload_n 0, 1), (27, .new 7, 3), (30, .dup, 1), (31, .invokespecial 9, 3), (34, .putfield 19, 3), (37, .aload_n 0, 1), (38, .new 22, 3), (41, .dup, 1), (42, .invokespecial 24, 3), (45, .putfield 25, 3), (48, .aload_n 0, 1), (49, .new 29, 3), (52, .dup, 1), (53, .invokespecial 31, 3), (56, .putfield 32, 3), (59, .aload_n 0, 1), (60, .new 36, 3), (63, .dup, 1), (64, .invokespecial 38, 3), (67, .putfield 39, 3), (70, .aload_n 0, 1), (71, .iconst (-1), 1), (72, .putfield 43, 3), (75, .aload_n 0, 1), (76, .new 47, 3), (79, .dup, 1), (80, .invokespecial 49, 3), (83, .putfield 50, 3), (86, .aload_n 0, 1), (87, .new 54, 3), (90, .dup, 1), (91, .invokespecial 56, 3), (94, .putfield 57, 3), (97, .aload_n 0, 1), (98, .bipush 12, 2), (100, .newarray .int, 2), (102, .putfield 61, 3), (105, .return_, 1)]
theorem dtt_iX6 : tblOK cX6_init tt_iX6 = true := by decide +kernel
theorem ol_X6 : Cond.methodLink RX6 1 Lib.objectInit ∈ GW := gwp 33 (by decide +kernel) rfl
theorem kl_X6_7 : Cond.classLink RX6 7 RX1 ∈ GW := gwp 36 (by decide +kernel) rfl
theorem ml_X6_9 : Cond.methodLink RX6 9 yX1_init ∈ GW := gwp 38 (by decide +kernel) rfl
theorem fb_X6_10 : Cond.fieldLink RX6 10 (TX6 0).1 (TX6 0).2.1 (TX6 0).2.2.1 ∈ GW := gwp 167 (by decide +kernel) rfl
theorem fb_X6_16 : Cond.fieldLink RX6 16 (TX6 1).1 (TX6 1).2.1 (TX6 1).2.2.1 ∈ GW := gwp 168 (by decide +kernel) rfl
theorem fb_X6_19 : Cond.fieldLink RX6 19 (TX6 2).1 (TX6 2).2.1 (TX6 2).2.2.1 ∈ GW := gwp 169 (by decide +kernel) rfl
theorem kl_X6_22 : Cond.classLink RX6 22 RX0 ∈ GW := gwp 74 (by decide +kernel) rfl
theorem ml_X6_24 : Cond.methodLink RX6 24 yX0_init ∈ GW := gwp 76 (by decide +kernel) rfl
theorem fb_X6_25 : Cond.fieldLink RX6 25 (TX6 4).1 (TX6 4).2.1 (TX6 4).2.2.1 ∈ GW := gwp 171 (by decide +kernel) rfl
theorem kl_X6_29 : Cond.classLink RX6 29 RX3 ∈ GW := gwp 93 (by decide +kernel) rfl
theorem fb_X6_32 : Cond.fieldLink RX6 32 (TX6 5).1 (TX6 5).2.1 (TX6 5).2.2.1 ∈ GW := gwp 172 (by decide +kernel) rfl
theorem kl_X6_36 : Cond.classLink RX6 36 RX4 ∈ GW := gwp 109 (by decide +kernel) rfl
theorem ml_X6_38 : Cond.methodLink RX6 38 yX4_init ∈ GW := gwp 111 (by decide +kernel) rfl
theorem fb_X6_39 : Cond.fieldLink RX6 39 (TX6 6).1 (TX6 6).2.1 (TX6 6).2.2.1 ∈ GW := gwp 173 (by decide +kernel) rfl
theorem fb_X6_43 : Cond.fieldLink RX6 43 (TX6 7).1 (TX6 7).2.1 (TX6 7).2.2.1 ∈ GW := gwp 174 (by decide +kernel) rfl
theorem kl_X6_47 : Cond.classLink RX6 47 RX2 ∈ GW := gwp 138 (by decide +kernel) rfl
theorem ml_X6_49 : Cond.methodLink RX6 49 yX2_init ∈ GW := gwp 140 (by decide +kernel) rfl
theorem fb_X6_50 : Cond.fieldLink RX6 50 (TX6 8).1 (TX6 8).2.1 (TX6 8).2.2.1 ∈ GW := gwp 175 (by decide +kernel) rfl
theorem kl_X6_54 : Cond.classLink RX6 54 RX5 ∈ GW := gwp 151 (by decide +kernel) rfl
theorem ml_X6_56 : Cond.methodLink RX6 56 yX5_init ∈ GW := gwp 153 (by decide +kernel) rfl
theorem fb_X6_57 : Cond.fieldLink RX6 57 (TX6 9).1 (TX6 9).2.1 (TX6 9).2.2.1 ∈ GW := gwp 176 (by decide +kernel) rfl
theorem fb_X6_61 : Cond.fieldLink RX6 61 (TX6 10).1 (TX6 10).2.1 (TX6 10).2.2.1 ∈ GW := gwp 177 (by decide +kernel) rfl
set_option maxRecDepth 40000 in
set_option maxHeartbeats 4000000 in
theorem k_X6 {l : Launch} {D : va_G} {ty : Nat → ClassId} {N0 : Nat} (ws : va_W) (q0 th : Nat) (hq : ws[q0]? = some (th, .inr (8, [.null, .null, .null, .int 0, .null, .null, .null, .int 0, .null, .null, .null]))) : BMet l D ty N0 yX6_init cX6_init 1 (rmk 4 66 721) [.ref th] ws (fun w => ∃ F N, (p6 ty) th F N ∧ w = ws.set q0 (th, .inr (8, F)) ++ N) := by
  refine b_enter (own := RX6) (by decide) rfl rfl (Nat.le_of_ble_eq_true rfl) ?_
  intro p e s m args below meth c K hn hlk hrt
  have dq := @tat _ _ dtt_iX6
  have hlt := nf_lt hq
  refine b_eq (nf_start hq) ?_
  refine b_aload_n K (dq 0 rfl) rfl rfl ?_
  refine b_objInit K ol_X6 oi_i oi_c (dq 1 rfl) (Nat.le_of_ble_eq_true rfl) (Nat.le_of_ble_eq_true rfl) ?_
  refine b_aload_n K (dq 2 rfl) rfl rfl ?_
  refine b_new K (ci := 3) (fs := [.int 0, .null, .null, .null, .null, .int 0, .int 0, .int 0, .int 0]) (f := fun o0 => nf ws q0 (th, .inr (8, [.null, .null, .null, .int 0, .null, .null, .null, .int 0, .null, .null, .null])) ([(o0, .inr (3, [.int 0, .null, .null, .null, .null, .int 0, .int 0, .int 0, .int 0]))])) in_X1 tyX1 tyX1_ok kl_X6_7 ci_able_X1 ci_ini_X1 rfl (by intro j hj; rcases (show j = 0 ∨ j = 1 ∨ j = 2 ∨ j = 3 ∨ j = 4 ∨ j = 5 ∨ j = 6 ∨ j = 7 ∨ j = 8 by omega) with rfl | rfl | rfl | rfl | rfl | rfl | rfl | rfl | rfl <;> rfl) (by simp only [rmk]; omega) (by simp only [rmk]; omega) (dq 3 rfl) (fun _ => nf_app) (fun o0 => ?_)
  refine b_dup K (dq 4 rfl) rfl ?_
  refine b_callI K (Ψ := (p1 ty)) (nf_new (j := 0) rfl) (k_X1 _ _ o0 (nf_new (j := 0) rfl)) ci_code_X1 ml_X6_9 ci_inst_X1 ci_ini_X1 rfl ⟨by decide, by decide, by decide +kernel⟩ (by constructor <;> (simp only [rmk]; omega)) (Nat.le_of_ble_eq_true rfl) (dq 5 rfl) (by constructor <;> (simp only [rmk]; omega)) (fun F1 N1 hΨ => ?_)
  obtain ⟨f1, rfl, rfl⟩ := hΨ
  refine b_eq (ws' := nf ws q0 (th, .inr (8, [.null, .null, .null, .int 0, .null, .null, .null, .int 0, .null, .null, .null])) ((gC ty o0 f1))) (by rw [nf_setN, nf_app]; rfl) ?_
  refine b_putF K (T := TX6) (k := 0) (t9 := tyX6 0) in_X6 tyX6 tyX6_ok nmX6 (nf_this hlt) rfl (by decide) fb_X6_10 rfl hn rfl (tyX6_ok 0 (by decide)) rfl rfl (Nat.le_of_ble_eq_true rfl) (dq 6 rfl) (ws' := nf ws q0 (th, .inr (8, [.ref o0, .null, .null, .int 0, .null, .null, .null, .int 0, .null, .null, .null])) ((gC ty o0 f1))) (nf_setT hlt) ?_
  refine b_aload_n K (dq 7 rfl) rfl rfl ?_
  refine b_new K (ci := 3) (fs := [.int 0, .null, .null, .null, .null, .int 0, .int 0, .int 0, .int 0]) (f := fun o2 => nf ws q0 (th, .inr (8, [.ref o0, .null, .null, .int 0, .null, .null, .null, .int 0, .null, .null, .null])) ((gC ty o0 f1) ++ ([(o2, .inr (3, [.int 0, .null, .null, .null, .null, .int 0, .int 0, .int 0, .int 0]))]))) in_X1 tyX1 tyX1_ok kl_X6_7 ci_able_X1 ci_ini_X1 rfl (by intro j hj; rcases (show j = 0 ∨ j = 1 ∨ j = 2 ∨ j = 3 ∨ j = 4 ∨ j = 5 ∨ j = 6 ∨ j = 7 ∨ j = 8 by omega) with rfl | rfl | rfl | rfl | rfl | rfl | rfl | rfl | rfl <;> rfl) (by simp only [rmk]; omega) (by simp only [rmk]; omega) (dq 8 rfl) (fun _ => nf_app) (fun o2 => ?_)
  refine b_dup K (dq 9 rfl) rfl ?_
  refine b_callI K (Ψ := (p1 ty)) (nf_new (j := 5) rfl) (k_X1 _ _ o2 (nf_new (j := 5) rfl)) ci_code_X1 ml_X6_9 ci_inst_X1 ci_ini_X1 rfl ⟨by decide, by decide, by decide +kernel⟩ (by constructor <;> (simp only [rmk]; omega)) (Nat.le_of_ble_eq_true rfl) (dq 10 rfl) (by constructor <;> (simp only [rmk]; omega)) (fun F3 N3 hΨ => ?_)
  obtain ⟨f3, rfl, rfl⟩ := hΨ
  refine b_eq (ws' := nf ws q0 (th, .inr (8, [.ref o0, .null, .null, .int 0, .null, .null, .null, .int 0, .null, .null, .null])) ((gC ty o0 f1) ++ ((gC ty o2 f3)))) (by rw [nf_setN, nf_app]; rfl) ?_
  refine b_putF K (T := TX6) (k := 1) (t9 := tyX6 1) in_X6 tyX6 tyX6_ok nmX6 (nf_this hlt) rfl (by decide) fb_X6_16 rfl hn rfl (tyX6_ok 1 (by decide)) rfl rfl (Nat.le_of_ble_eq_true rfl) (dq 11 rfl) (ws' := nf ws q0 (th, .inr (8, [.ref o0, .ref o2, .null, .int 0, .null, .null, .null, .int 0, .null, .null, .null])) ((gC ty o0 f1) ++ ((gC ty o2 f3)))) (nf_setT hlt) ?_
  refine b_aload_n K (dq 12 rfl) rfl rfl ?_
  refine b_new K (ci := 3) (fs := [.int 0, .null, .null, .null, .null, .int 0, .int 0, .int 0, .int 0]) (f := fun o4 => nf ws q0 (th, .inr (8, [.ref o0, .ref o2, .null, .int 0, .null, .null, .null, .int 0, .null, .null, .null])) ((gC ty o0 f1) ++ ((gC ty o2 f3) ++ ([(o4, .inr (3, [.int 0, .null, .null, .null, .null, .int 0, .int 0, .int 0, .int 0]))])))) in_X1 tyX1 tyX1_ok kl_X6_7 ci_able_X1 ci_ini_X1 rfl (by intro j hj; rcases (show j = 0 ∨ j = 1 ∨ j = 2 ∨ j = 3 ∨ j = 4 ∨ j = 5 ∨ j = 6 ∨ j = 7 ∨ j = 8 by omega) with rfl | rfl | rfl | rfl | rfl | rfl | rfl | rfl | rfl <;> rfl) (by simp only [rmk]; omega) (by simp only [rmk]; omega) (dq 13 rfl) (fun _ => nf_app) (fun o4 => ?_)
  refine b_dup K (dq 14 rfl) rfl ?_
  refine b_callI K (Ψ := (p1 ty)) (nf_new (j := 10) rfl) (k_X1 _ _ o4 (nf_new (j := 10) rfl)) ci_code_X1 ml_X6_9 ci_inst_X1 ci_ini_X1 rfl ⟨by decide, by decide, by decide +kernel⟩ (by constructor <;> (simp only [rmk]; omega)) (Nat.le_of_ble_eq_true rfl) (dq 15 rfl) (by constructor <;> (simp only [rmk]; omega)) (fun F5 N5 hΨ => ?_)
  obtain ⟨f5, rfl, rfl⟩ := hΨ
  refine b_eq (ws' := nf ws q0 (th, .inr (8, [.ref o0, .ref o2, .null, .int 0, .null, .null, .null, .int 0, .null, .null, .null])) ((gC ty o0 f1) ++ ((gC ty o2 f3) ++ ((gC ty o4 f5))))) (by rw [nf_setN, nf_app]; rfl) ?_
  refine b_putF K (T := TX6) (k := 2) (t9 := tyX6 2) in_X6 tyX6 tyX6_ok nmX6 (nf_this hlt) rfl (by decide) fb_X6_19 rfl hn rfl (tyX6_ok 2 (by decide)) rfl rfl (Nat.le_of_ble_eq_true rfl) (dq 16 rfl) (ws' := nf ws q0 (th, .inr (8, [.ref o0, .ref o2, .ref o4, .int 0, .null, .null, .null, .int 0, .null, .null, .null])) ((gC ty o0 f1) ++ ((gC ty o2 f3) ++ ((gC ty o4 f5))))) (nf_setT hlt) ?_
  refine b_aload_n K (dq 17 rfl) rfl rfl ?_
  refine b_new K (ci := 2) (fs := [.null, .int 0, .int 0]) (f := fun o6 => nf ws q0 (th, .inr (8, [.ref o0, .ref o2, .ref o4, .int 0, .null, .null, .null, .int 0, .null, .null, .null])) ((gC ty o0 f1) ++ ((gC ty o2 f3) ++ ((gC ty o4 f5) ++ ([(o6, .inr (2, [.null, .int 0, .int 0]))]))))) in_X0 tyX0 tyX0_ok kl_X6_22 ci_able_X0 ci_ini_X0 rfl (by intro j hj; rcases (show j = 0 ∨ j = 1 ∨ j = 2 by omega) with rfl | rfl | rfl <;> rfl) (by simp only [rmk]; omega) (by simp only [rmk]; omega) (dq 18 rfl) (fun _ => nf_app) (fun o6 => ?_)
  refine b_dup K (dq 19 rfl) rfl ?_
  refine b_callI K (Ψ := (p0 ty)) (nf_new (j := 15) rfl) (k_X0 _ _ o6 (nf_new (j := 15) rfl)) ci_code_X0 ml_X6_24 ci_inst_X0 ci_ini_X0 rfl ⟨by decide, by decide, by decide +kernel⟩ (by constructor <;> (simp only [rmk]; omega)) (Nat.le_of_ble_eq_true rfl) (dq 20 rfl) (by constructor <;> (simp only [rmk]; omega)) (fun F7 N7 hΨ => ?_)
  obtain ⟨b7, cs, fs, rfl, rfl⟩ := hΨ
  refine b_eq (ws' := nf ws q0 (th, .inr (8, [.ref o0, .ref o2, .ref o4, .int 0, .null, .null, .null, .int 0, .null, .null, .null])) ((gC ty o0 f1) ++ ((gC ty o2 f3) ++ ((gC ty o4 f5) ++ (((o6, .inr (2, [.ref b7, .int 0, .int 0])) :: (b7, ra ty 8 (k8 cs 8)) :: c8 ty cs fs 8 0)))))) (by rw [nf_setN, nf_app]; rfl) ?_
  refine b_putF K (T := TX6) (k := 4) (t9 := tyX6 4) in_X6 tyX6 tyX6_ok nmX6 (nf_this hlt) rfl (by decide) fb_X6_25 rfl hn rfl (tyX6_ok 4 (by decide)) rfl rfl (Nat.le_of_ble_eq_true rfl) (dq 21 rfl) (ws' := nf ws q0 (th, .inr (8, [.ref o0, .ref o2, .ref o4, .int 0, .ref o6, .null, .null, .int 0, .null, .null, .null])) ((gC ty o0 f1) ++ ((gC ty o2 f3) ++ ((gC ty o4 f5) ++ (((o6, .inr (2, [.ref b7, .int 0, .int 0])) :: (b7, ra ty 8 (k8 cs 8)) :: c8 ty cs fs 8 0)))))) (nf_setT hlt) ?_
  refine b_aload_n K (dq 22 rfl) rfl rfl ?_
  refine b_new K (ci := 5) (fs := [.int 0, .int 0, .int 0]) (f := fun o8 => nf ws q0 (th, .inr (8, [.ref o0, .ref o2, .ref o4, .int 0, .ref o6, .null, .null, .int 0, .null, .null, .null])) ((gC ty o0 f1) ++ ((gC ty o2 f3) ++ ((gC ty o4 f5) ++ (((o6, .inr (2, [.ref b7, .int 0, .int 0])) :: (b7, ra ty 8 (k8 cs 8)) :: c8 ty cs fs 8 0) ++ ([(o8, .inr (5, [.int 0, .int 0, .int 0]))])))))) in_X3 tyX3 tyX3_ok kl_X6_29 ci_able_X3 ci_ini_X3 rfl (by intro j hj; rcases (show j = 0 ∨ j = 1 ∨ j = 2 by omega) with rfl | rfl | rfl <;> rfl) (by simp only [rmk]; omega) (by simp only [rmk]; omega) (dq 23 rfl) (fun _ => nf_app) (fun o8 => ?_)
  refine b_dup K (dq 24 rfl) rfl ?_
  refine b_callIN K (Ψ := p3) (nf_new (j := 57) rfl) (k_X3 _ _ o8 (nf_new (j := 57) rfl)) ci_code_X3 K.2.2.1.2 ci_inst_X3 ci_ini_X3 rfl ⟨by decide, by decide, by decide +kernel⟩ (by constructor <;> (simp only [rmk]; omega)) (Nat.le_of_ble_eq_true rfl) (dq 25 rfl) (by constructor <;> (simp only [rmk]; omega)) (fun F9 N9 hΨ => ?_)
  obtain ⟨rfl, rfl⟩ := hΨ
  refine b_eq (ws' := nf ws q0 (th, .inr (8, [.ref o0, .ref o2, .ref o4, .int 0, .ref o6, .null, .null, .int 0, .null, .null, .null])) ((gC ty o0 f1) ++ ((gC ty o2 f3) ++ ((gC ty o4 f5) ++ (((o6, .inr (2, [.ref b7, .int 0, .int 0])) :: (b7, ra ty 8 (k8 cs 8)) :: c8 ty cs fs 8 0) ++ ([(o8, .inr (5, [.int 0, .int 0, .int 0]))])))))) (by rw [nf_setN, nf_app]; rfl) ?_
  refine b_putF K (T := TX6) (k := 5) (t9 := tyX6 5) in_X6 tyX6 tyX6_ok nmX6 (nf_this hlt) rfl (by decide) fb_X6_32 rfl hn rfl (tyX6_ok 5 (by decide)) rfl rfl (Nat.le_of_ble_eq_true rfl) (dq 26 rfl) (ws' := nf ws q0 (th, .inr (8, [.ref o0, .ref o2, .ref o4, .int 0, .ref o6, .ref o8, .null, .int 0, .null, .null, .null])) ((gC ty o0 f1) ++ ((gC ty o2 f3) ++ ((gC ty o4 f5) ++ (((o6, .inr (2, [.ref b7, .int 0, .int 0])) :: (b7, ra ty 8 (k8 cs 8)) :: c8 ty cs fs 8 0) ++ ([(o8, .inr (5, [.int 0, .int 0, .int 0]))])))))) (nf_setT hlt) ?_
  refine b_aload_n K (dq 27 rfl) rfl rfl ?_
  refine b_new K (ci := 6) (fs := [.null, .int 0, .int 0, .int 0, .null, .int 0, .int 0]) (f := fun o10 => nf ws q0 (th, .inr (8, [.ref o0, .ref o2, .ref o4, .int 0, .ref o6, .ref o8, .null, .int 0, .null, .null, .null])) ((gC ty o0 f1) ++ ((gC ty o2 f3) ++ ((gC ty o4 f5) ++ (((o6, .inr (2, [.ref b7, .int 0, .int 0])) :: (b7, ra ty 8 (k8 cs 8)) :: c8 ty cs fs 8 0) ++ ([(o8, .inr (5, [.int 0, .int 0, .int 0])), (o10, .inr (6, [.null, .int 0, .int 0, .int 0, .null, .int 0, .int 0]))])))))) in_X4 tyX4 tyX4_ok kl_X6_36 ci_able_X4 ci_ini_X4 rfl (by intro j hj; rcases (show j = 0 ∨ j = 1 ∨ j = 2 ∨ j = 3 ∨ j = 4 ∨ j = 5 ∨ j = 6 by omega) with rfl | rfl | rfl | rfl | rfl | rfl | rfl <;> rfl) (by simp only [rmk]; omega) (by simp only [rmk]; omega) (dq 28 rfl) (fun _ => nf_app) (fun o10 => ?_)
  refine b_dup K (dq 29 rfl) rfl ?_
  refine b_callI K (Ψ := (p4 ty)) (nf_new (j := 58) rfl) (k_X4 _ _ o10 (nf_new (j := 58) rfl)) ci_code_X4 ml_X6_38 ci_inst_X4 ci_ini_X4 rfl ⟨by decide, by decide, by decide +kernel⟩ (by constructor <;> (simp only [rmk]; omega)) (Nat.le_of_ble_eq_true rfl) (dq 30 rfl) (by constructor <;> (simp only [rmk]; omega)) (fun F11 N11 hΨ => ?_)
  obtain ⟨b11, d11, rfl, rfl⟩ := hΨ
  refine b_eq (ws' := nf ws q0 (th, .inr (8, [.ref o0, .ref o2, .ref o4, .int 0, .ref o6, .ref o8, .null, .int 0, .null, .null, .null])) ((gC ty o0 f1) ++ ((gC ty o2 f3) ++ ((gC ty o4 f5) ++ (((o6, .inr (2, [.ref b7, .int 0, .int 0])) :: (b7, ra ty 8 (k8 cs 8)) :: c8 ty cs fs 8 0) ++ ([(o8, .inr (5, [.int 0, .int 0, .int 0])), (o10, .inr (6, [.ref b11, .int 0, .int 0, .int 0, .ref d11, .int 0, .int 0])), (b11, ca ty 60), (d11, ia ty 3 z0)])))))) (by rw [nf_setN, nf_app]; rfl) ?_
  refine b_putF K (T := TX6) (k := 6) (t9 := tyX6 6) in_X6 tyX6 tyX6_ok nmX6 (nf_this hlt) rfl (by decide) fb_X6_39 rfl hn rfl (tyX6_ok 6 (by decide)) rfl rfl (Nat.le_of_ble_eq_true rfl) (dq 31 rfl) (ws' := nf ws q0 (th, .inr (8, [.ref o0, .ref o2, .ref o4, .int 0, .ref o6, .ref o8, .ref o10, .int 0, .null, .null, .null])) ((gC ty o0 f1) ++ ((gC ty o2 f3) ++ ((gC ty o4 f5) ++ (((o6, .inr (2, [.ref b7, .int 0, .int 0])) :: (b7, ra ty 8 (k8 cs 8)) :: c8 ty cs fs 8 0) ++ ([(o8, .inr (5, [.int 0, .int 0, .int 0])), (o10, .inr (6, [.ref b11, .int 0, .int 0, .int 0, .ref d11, .int 0, .int 0])), (b11, ca ty 60), (d11, ia ty 3 z0)])))))) (nf_setT hlt) ?_
  refine b_aload_n K (dq 32 rfl) rfl rfl ?_
  refine b_iconst K (dq 33 rfl) (v := (-1)) rfl ?_
  refine b_put K (T := TX6) (k := 7) (t9 := tyX6 7) in_X6 tyX6 tyX6_ok nmX6 (nf_this hlt) rfl (by decide) fb_X6_43 rfl (tyX6_ok 7 (by decide)) rfl rfl (Nat.le_of_ble_eq_true rfl) (dq 34 rfl) (ws' := nf ws q0 (th, .inr (8, [.ref o0, .ref o2, .ref o4, .int 0, .ref o6, .ref o8, .ref o10, .int (-1), .null, .null, .null])) ((gC ty o0 f1) ++ ((gC ty o2 f3) ++ ((gC ty o4 f5) ++ (((o6, .inr (2, [.ref b7, .int 0, .int 0])) :: (b7, ra ty 8 (k8 cs 8)) :: c8 ty cs fs 8 0) ++ ([(o8, .inr (5, [.int 0, .int 0, .int 0])), (o10, .inr (6, [.ref b11, .int 0, .int 0, .int 0, .ref d11, .int 0, .int 0])), (b11, ca ty 60), (d11, ia ty 3 z0)])))))) (nf_setT hlt) ?_
  refine b_aload_n K (dq 35 rfl) rfl rfl ?_
  refine b_new K (ci := 4) (fs := [.null, .int 0]) (f := fun o12 => nf ws q0 (th, .inr (8, [.ref o0, .ref o2, .ref o4, .int 0, .ref o6, .ref o8, .ref o10, .int (-1), .null, .null, .null])) ((gC ty o0 f1) ++ ((gC ty o2 f3) ++ ((gC ty o4 f5) ++ (((o6, .inr (2, [.ref b7, .int 0, .int 0])) :: (b7, ra ty 8 (k8 cs 8)) :: c8 ty cs fs 8 0) ++ ([(o8, .inr (5, [.int 0, .int 0, .int 0])), (o10, .inr (6, [.ref b11, .int 0, .int 0, .int 0, .ref d11, .int 0, .int 0])), (b11, ca ty 60), (d11, ia ty 3 z0), (o12, .inr (4, [.null, .int 0]))])))))) in_X2 tyX2 tyX2_ok kl_X6_47 ci_able_X2 ci_ini_X2 rfl (by intro j hj; rcases (show j = 0 ∨ j = 1 by omega) with rfl | rfl <;> rfl) (by simp only [rmk]; omega) (by simp only [rmk]; omega) (dq 36 rfl) (fun _ => nf_app) (fun o12 => ?_)
  refine b_dup K (dq 37 rfl) rfl ?_
  refine b_callI K (Ψ := (p2 ty)) (nf_new (j := 61) rfl) (k_X2 _ _ o12 (nf_new (j := 61) rfl)) ci_code_X2 ml_X6_49 ci_inst_X2 ci_ini_X2 rfl ⟨by decide, by decide, by decide +kernel⟩ (by constructor <;> (simp only [rmk]; omega)) (Nat.le_of_ble_eq_true rfl) (dq 38 rfl) (by constructor <;> (simp only [rmk]; omega)) (fun F13 N13 hΨ => ?_)
  obtain ⟨b13, rfl, rfl⟩ := hΨ
  refine b_eq (ws' := nf ws q0 (th, .inr (8, [.ref o0, .ref o2, .ref o4, .int 0, .ref o6, .ref o8, .ref o10, .int (-1), .null, .null, .null])) ((gC ty o0 f1) ++ ((gC ty o2 f3) ++ ((gC ty o4 f5) ++ (((o6, .inr (2, [.ref b7, .int 0, .int 0])) :: (b7, ra ty 8 (k8 cs 8)) :: c8 ty cs fs 8 0) ++ ([(o8, .inr (5, [.int 0, .int 0, .int 0])), (o10, .inr (6, [.ref b11, .int 0, .int 0, .int 0, .ref d11, .int 0, .int 0])), (b11, ca ty 60), (d11, ia ty 3 z0), (o12, .inr (4, [.ref b13, .int 0])), (b13, ca ty 80)])))))) (by rw [nf_setN, nf_app]; rfl) ?_
  refine b_putF K (T := TX6) (k := 8) (t9 := tyX6 8) in_X6 tyX6 tyX6_ok nmX6 (nf_this hlt) rfl (by decide) fb_X6_50 rfl hn rfl (tyX6_ok 8 (by decide)) rfl rfl (Nat.le_of_ble_eq_true rfl) (dq 39 rfl) (ws' := nf ws q0 (th, .inr (8, [.ref o0, .ref o2, .ref o4, .int 0, .ref o6, .ref o8, .ref o10, .int (-1), .ref o12, .null, .null])) ((gC ty o0 f1) ++ ((gC ty o2 f3) ++ ((gC ty o4 f5) ++ (((o6, .inr (2, [.ref b7, .int 0, .int 0])) :: (b7, ra ty 8 (k8 cs 8)) :: c8 ty cs fs 8 0) ++ ([(o8, .inr (5, [.int 0, .int 0, .int 0])), (o10, .inr (6, [.ref b11, .int 0, .int 0, .int 0, .ref d11, .int 0, .int 0])), (b11, ca ty 60), (d11, ia ty 3 z0), (o12, .inr (4, [.ref b13, .int 0])), (b13, ca ty 80)])))))) (nf_setT hlt) ?_
  refine b_aload_n K (dq 40 rfl) rfl rfl ?_
  refine b_new K (ci := 7) (fs := [.null, .int 0, .int 0]) (f := fun o14 => nf ws q0 (th, .inr (8, [.ref o0, .ref o2, .ref o4, .int 0, .ref o6, .ref o8, .ref o10, .int (-1), .ref o12, .null, .null])) ((gC ty o0 f1) ++ ((gC ty o2 f3) ++ ((gC ty o4 f5) ++ (((o6, .inr (2, [.ref b7, .int 0, .int 0])) :: (b7, ra ty 8 (k8 cs 8)) :: c8 ty cs fs 8 0) ++ ([(o8, .inr (5, [.int 0, .int 0, .int 0])), (o10, .inr (6, [.ref b11, .int 0, .int 0, .int 0, .ref d11, .int 0, .int 0])), (b11, ca ty 60), (d11, ia ty 3 z0), (o12, .inr (4, [.ref b13, .int 0])), (b13, ca ty 80), (o14, .inr (7, [.null, .int 0, .int 0]))])))))) in_X5 tyX5 tyX5_ok kl_X6_54 ci_able_X5 ci_ini_X5 rfl (by intro j hj; rcases (show j = 0 ∨ j = 1 ∨ j = 2 by omega) with rfl | rfl | rfl <;> rfl) (by simp only [rmk]; omega) (by simp only [rmk]; omega) (dq 41 rfl) (fun _ => nf_app) (fun o14 => ?_)
  refine b_dup K (dq 42 rfl) rfl ?_
  refine b_callI K (Ψ := (p5 ty)) (nf_new (j := 63) rfl) (k_X5 _ _ o14 (nf_new (j := 63) rfl)) ci_code_X5 ml_X6_56 ci_inst_X5 ci_ini_X5 rfl ⟨by decide, by decide, by decide +kernel⟩ (by constructor <;> (simp only [rmk]; omega)) (Nat.le_of_ble_eq_true rfl) (dq 43 rfl) (by constructor <;> (simp only [rmk]; omega)) (fun F15 N15 hΨ => ?_)
  obtain ⟨b15, rfl, rfl⟩ := hΨ
  refine b_eq (ws' := nf ws q0 (th, .inr (8, [.ref o0, .ref o2, .ref o4, .int 0, .ref o6, .ref o8, .ref o10, .int (-1), .ref o12, .null, .null])) ((gC ty o0 f1) ++ ((gC ty o2 f3) ++ ((gC ty o4 f5) ++ (((o6, .inr (2, [.ref b7, .int 0, .int 0])) :: (b7, ra ty 8 (k8 cs 8)) :: c8 ty cs fs 8 0) ++ ([(o8, .inr (5, [.int 0, .int 0, .int 0])), (o10, .inr (6, [.ref b11, .int 0, .int 0, .int 0, .ref d11, .int 0, .int 0])), (b11, ca ty 60), (d11, ia ty 3 z0), (o12, .inr (4, [.ref b13, .int 0])), (b13, ca ty 80), (o14, .inr (7, [.ref b15, .int 0, .int (-1)])), (b15, ia ty 12 z0)])))))) (by rw [nf_setN, nf_app]; rfl) ?_
  refine b_putF K (T := TX6) (k := 9) (t9 := tyX6 9) in_X6 tyX6 tyX6_ok nmX6 (nf_this hlt) rfl (by decide) fb_X6_57 rfl hn rfl (tyX6_ok 9 (by decide)) rfl rfl (Nat.le_of_ble_eq_true rfl) (dq 44 rfl) (ws' := nf ws q0 (th, .inr (8, [.ref o0, .ref o2, .ref o4, .int 0, .ref o6, .ref o8, .ref o10, .int (-1), .ref o12, .ref o14, .null])) ((gC ty o0 f1) ++ ((gC ty o2 f3) ++ ((gC ty o4 f5) ++ (((o6, .inr (2, [.ref b7, .int 0, .int 0])) :: (b7, ra ty 8 (k8 cs 8)) :: c8 ty cs fs 8 0) ++ ([(o8, .inr (5, [.int 0, .int 0, .int 0])), (o10, .inr (6, [.ref b11, .int 0, .int 0, .int 0, .ref d11, .int 0, .int 0])), (b11, ca ty 60), (d11, ia ty 3 z0), (o12, .inr (4, [.ref b13, .int 0])), (b13, ca ty 80), (o14, .inr (7, [.ref b15, .int 0, .int (-1)])), (b15, ia ty 12 z0)])))))) (nf_setT hlt) ?_
  refine b_aload_n K (dq 45 rfl) rfl rfl ?_
  refine b_bipush K (dq 46 rfl) (v := 12) rfl ?_
  refine b_newa K (f := fun a16 => nf ws q0 (th, .inr (8, [.ref o0, .ref o2, .ref o4, .int 0, .ref o6, .ref o8, .ref o10, .int (-1), .ref o12, .ref o14, .null])) ((gC ty o0 f1) ++ ((gC ty o2 f3) ++ ((gC ty o4 f5) ++ (((o6, .inr (2, [.ref b7, .int 0, .int 0])) :: (b7, ra ty 8 (k8 cs 8)) :: c8 ty cs fs 8 0) ++ ([(o8, .inr (5, [.int 0, .int 0, .int 0])), (o10, .inr (6, [.ref b11, .int 0, .int 0, .int 0, .ref d11, .int 0, .int 0])), (b11, ca ty 60), (d11, ia ty 3 z0), (o12, .inr (4, [.ref b13, .int 0])), (b13, ca ty 80), (o14, .inr (7, [.ref b15, .int 0, .int (-1)])), (b15, ia ty 12 z0), (a16, ia ty 12 z0)])))))) (t0 := 0) (atype := .int) (N' := 12) ac_int rfl rfl (fun _ h => by cases h) (fun _ => rfl) (by decide) rfl (by decide) (by simp only [rmk]; omega) (by simp only [rmk]; omega) (dq 47 rfl) (fun _ => nf_app) (fun a16 => ?_)
  refine b_putF K (T := TX6) (k := 10) (t9 := tyX6 10) in_X6 tyX6 tyX6_ok nmX6 (nf_this hlt) rfl (by decide) fb_X6_61 rfl hn rfl (tyX6_ok 10 (by decide)) rfl rfl (Nat.le_of_ble_eq_true rfl) (dq 48 rfl) (ws' := nf ws q0 (th, .inr (8, [.ref o0, .ref o2, .ref o4, .int 0, .ref o6, .ref o8, .ref o10, .int (-1), .ref o12, .ref o14, .ref a16])) ((gC ty o0 f1) ++ ((gC ty o2 f3) ++ ((gC ty o4 f5) ++ (((o6, .inr (2, [.ref b7, .int 0, .int 0])) :: (b7, ra ty 8 (k8 cs 8)) :: c8 ty cs fs 8 0) ++ ([(o8, .inr (5, [.int 0, .int 0, .int 0])), (o10, .inr (6, [.ref b11, .int 0, .int 0, .int 0, .ref d11, .int 0, .int 0])), (b11, ca ty 60), (d11, ia ty 3 z0), (o12, .inr (4, [.ref b13, .int 0])), (b13, ca ty 80), (o14, .inr (7, [.ref b15, .int 0, .int (-1)])), (b15, ia ty 12 z0), (a16, ia ty 12 z0)])))))) (nf_setT hlt) ?_
  exact b_vret K hlk hrt (dq 49 rfl) (Nat.le_refl _) (Nat.le_refl _) ⟨_, _, ⟨fun k => match k with | 0 => o0 | 1 => o2 | _ => o4, fun k => match k with | 0 => f1 | 1 => f3 | _ => f5, fun k => match k with | 0 => o6 | 1 => b7 | 2 => o8 | 3 => o10 | 4 => b11 | 5 => d11 | 6 => o12 | 7 => b13 | 8 => o14 | 9 => b15 | _ => a16, cs, fs, rfl, rfl⟩, rfl⟩
