theorem fl_X0_30 : Cond.fieldLink RX0 30 (TX0 2).1 (TX0 2).2.1 (TX0 2).2.2.1 ∈ GW := gwp 85 (by decide +kernel) rfl
theorem fl_X1_9 : Cond.fieldLink RX1 9 (TX1 1).1 (TX1 1).2.1 (TX1 1).2.2.1 ∈ GW := gwp 46 (by decide +kernel) rfl
theorem fl_X1_15 : Cond.fieldLink RX1 15 (TX1 2).1 (TX1 2).2.1 (TX1 2).2.2.1 ∈ GW := gwp 47 (by decide +kernel) rfl
theorem fl_X1_18 : Cond.fieldLink RX1 18 (TX1 3).1 (TX1 3).2.1 (TX1 3).2.2.1 ∈ GW := gwp 48 (by decide +kernel) rfl
theorem fl_X1_21 : Cond.fieldLink RX1 21 (TX1 4).1 (TX1 4).2.1 (TX1 4).2.2.1 ∈ GW := gwp 49 (by decide +kernel) rfl
theorem fl_X1_30 : Cond.fieldLink RX1 30 (TX1 0).1 (TX1 0).2.1 (TX1 0).2.2.1 ∈ GW := gwp 45 (by decide +kernel) rfl
theorem fl_X1_38 : Cond.fieldLink RX1 38 (TX1 5).1 (TX1 5).2.1 (TX1 5).2.2.1 ∈ GW := gwp 50 (by decide +kernel) rfl
theorem fl_X1_41 : Cond.fieldLink RX1 41 (TX1 6).1 (TX1 6).2.1 (TX1 6).2.2.1 ∈ GW := gwp 51 (by decide +kernel) rfl
theorem fl_X1_44 : Cond.fieldLink RX1 44 (TX1 7).1 (TX1 7).2.1 (TX1 7).2.2.1 ∈ GW := gwp 52 (by decide +kernel) rfl
theorem fl_X1_47 : Cond.fieldLink RX1 47 (TX1 8).1 (TX1 8).2.1 (TX1 8).2.2.1 ∈ GW := gwp 53 (by decide +kernel) rfl
theorem fl_X2_9 : Cond.fieldLink RX2 9 (TX2 0).1 (TX2 0).2.1 (TX2 0).2.2.1 ∈ GW := gwp 144 (by decide +kernel) rfl
theorem fl_X2_15 : Cond.fieldLink RX2 15 (TX2 1).1 (TX2 1).2.1 (TX2 1).2.2.1 ∈ GW := gwp 145 (by decide +kernel) rfl
theorem fl_X3_7 : Cond.fieldLink RX3 7 (TX3 0).1 (TX3 0).2.1 (TX3 0).2.2.1 ∈ GW := gwp 99 (by decide +kernel) rfl
theorem fl_X3_13 : Cond.fieldLink RX3 13 (TX3 1).1 (TX3 1).2.1 (TX3 1).2.2.1 ∈ GW := gwp 100 (by decide +kernel) rfl
theorem fl_X3_16 : Cond.fieldLink RX3 16 (TX3 2).1 (TX3 2).2.1 (TX3 2).2.2.1 ∈ GW := gwp 101 (by decide +kernel) rfl
theorem fl_X4_9 : Cond.fieldLink RX4 9 (TX4 0).1 (TX4 0).2.1 (TX4 0).2.2.1 ∈ GW := gwp 115 (by decide +kernel) rfl
theorem fl_X4_15 : Cond.fieldLink RX4 15 (TX4 4).1 (TX4 4).2.1 (TX4 4).2.2.1 ∈ GW := gwp 119 (by decide +kernel) rfl
theorem fl_X4_19 : Cond.fieldLink RX4 19 (TX4 1).1 (TX4 1).2.1 (TX4 1).2.2.1 ∈ GW := gwp 116 (by decide +kernel) rfl
theorem fl_X4_23 : Cond.fieldLink RX4 23 (TX4 2).1 (TX4 2).2.1 (TX4 2).2.2.1 ∈ GW := gwp 117 (by decide +kernel) rfl
theorem fl_X4_26 : Cond.fieldLink RX4 26 (TX4 3).1 (TX4 3).2.1 (TX4 3).2.2.1 ∈ GW := gwp 118 (by decide +kernel) rfl
theorem fl_X4_52 : Cond.fieldLink RX4 52 (TX4 5).1 (TX4 5).2.1 (TX4 5).2.2.1 ∈ GW := gwp 120 (by decide +kernel) rfl
theorem fl_X4_55 : Cond.fieldLink RX4 55 (TX4 6).1 (TX4 6).2.1 (TX4 6).2.2.1 ∈ GW := gwp 121 (by decide +kernel) rfl
theorem fl_X5_9 : Cond.fieldLink RX5 9 (TX5 0).1 (TX5 0).2.1 (TX5 0).2.2.1 ∈ GW := gwp 157 (by decide +kernel) rfl
theorem fl_X5_15 : Cond.fieldLink RX5 15 (TX5 2).1 (TX5 2).2.1 (TX5 2).2.2.1 ∈ GW := gwp 159 (by decide +kernel) rfl
theorem fl_X5_19 : Cond.fieldLink RX5 19 (TX5 1).1 (TX5 1).2.1 (TX5 1).2.2.1 ∈ GW := gwp 158 (by decide +kernel) rfl
theorem ml_X1_62 : Cond.methodLink RX1 62 yX1_parentOf ∈ GW := gwp 298 (by decide +kernel) rfl
theorem ml_X1_66 : Cond.methodLink RX1 66 yX1_isBehind ∈ GW := gwp 605 (by decide +kernel) rfl
theorem ml_X1_70 : Cond.methodLink RX1 70 yX1_rootOf ∈ GW := gwp 311 (by decide +kernel) rfl
theorem ml_X1_73 : Cond.methodLink RX1 73 yX1_tollOf ∈ GW := gwp 694 (by decide +kernel) rfl
theorem ml_X1_76 : Cond.methodLink RX1 76 yX1_preferredOf ∈ GW := gwp 1086 (by decide +kernel) rfl
theorem ml_X1_79 : Cond.methodLink RX1 79 yX1_setParent ∈ GW := gwp 432 (by decide +kernel) rfl
theorem ml_X1_83 : Cond.methodLink RX1 83 yX1_prefer ∈ GW := gwp 436 (by decide +kernel) rfl
theorem ml_X2_19 : Cond.methodLink RX2 19 yX2_write ∈ GW := gwp 999 (by decide +kernel) rfl
theorem ml_X4_36 : Cond.methodLink RX4 36 yX4_current ∈ GW := gwp 850 (by decide +kernel) rfl
theorem ml_X4_81 : Cond.methodLink RX4 81 yX4_isDigit ∈ GW := gwp 919 (by decide +kernel) rfl
theorem ml_X4_84 : Cond.methodLink RX4 84 yX4_readNumber ∈ GW := gwp 922 (by decide +kernel) rfl
theorem ml_X5_22 : Cond.methodLink RX5 22 yX1_parentOf ∈ GW := gwp 277 (by decide +kernel) rfl
theorem ml_X5_28 : Cond.methodLink RX5 28 yX5_placeOf ∈ GW := gwp 278 (by decide +kernel) rfl
theorem ml_X5_31 : Cond.methodLink RX5 31 yX5_farmAt ∈ GW := gwp 471 (by decide +kernel) rfl
theorem ml_X5_34 : Cond.methodLink RX5 34 yX1_tollOf ∈ GW := gwp 489 (by decide +kernel) rfl
theorem ml_X5_37 : Cond.methodLink RX5 37 yX1_preferredOf ∈ GW := gwp 472 (by decide +kernel) rfl
theorem cw_X1_isBehind : CwV RX1 yX1_isBehind cX1_isBehind 5 (some .boolean) 2 := ⟨gwp 608 (by decide +kernel) rfl, gwp 607 (by decide +kernel) rfl, gws (q := (yX1_isBehind, 9)) 20 (by decide +kernel), gwp 2 (by decide +kernel) rfl, by decide +kernel⟩
theorem cw_X1_parentOf : CwV RX1 yX1_parentOf cX1_parentOf 2 (some .int) 1 := ⟨gwp 212 (by decide +kernel) rfl, gwp 210 (by decide +kernel) rfl, gwp 211 (by decide +kernel) rfl, gwp 2 (by decide +kernel) rfl, by decide +kernel⟩
theorem cw_X1_prefer : CwV RX1 yX1_prefer cX1_prefer 3 none 2 := ⟨gwp 439 (by decide +kernel) rfl, gwp 437 (by decide +kernel) rfl, gwp 438 (by decide +kernel) rfl, gwp 2 (by decide +kernel) rfl, by decide +kernel⟩
theorem cw_X1_preferredOf : CwV RX1 yX1_preferredOf cX1_preferredOf 2 (some .int) 1 := ⟨gwp 462 (by decide +kernel) rfl, gwp 460 (by decide +kernel) rfl, gwp 461 (by decide +kernel) rfl, gwp 2 (by decide +kernel) rfl, by decide +kernel⟩
theorem cw_X1_rootOf : CwV RX1 yX1_rootOf cX1_rootOf 4 (some .int) 1 := ⟨gwp 314 (by decide +kernel) rfl, gwp 312 (by decide +kernel) rfl, gwp 313 (by decide +kernel) rfl, gwp 2 (by decide +kernel) rfl, by decide +kernel⟩
theorem cw_X1_setParent : CwV RX1 yX1_setParent cX1_setParent 3 none 2 := ⟨gwp 435 (by decide +kernel) rfl, gwp 433 (by decide +kernel) rfl, gwp 434 (by decide +kernel) rfl, gwp 2 (by decide +kernel) rfl, by decide +kernel⟩
theorem cw_X1_tollOf : CwV RX1 yX1_tollOf cX1_tollOf 2 (some .int) 1 := ⟨gwp 322 (by decide +kernel) rfl, gwp 320 (by decide +kernel) rfl, gwp 321 (by decide +kernel) rfl, gwp 2 (by decide +kernel) rfl, by decide +kernel⟩
theorem cw_X2_write : CwV RX2 yX2_write cX2_write 2 none 1 := ⟨gwp 994 (by decide +kernel) rfl, gwp 992 (by decide +kernel) rfl, gwp 993 (by decide +kernel) rfl, gwp 7 (by decide +kernel) rfl, by decide +kernel⟩
theorem cw_X4_current : CwV RX4 yX4_current cX4_current 2 (some .char) 0 := ⟨gwp 853 (by decide +kernel) rfl, gwp 852 (by decide +kernel) rfl, gws (q := (yX4_current, 7)) 26 (by decide +kernel), gwp 6 (by decide +kernel) rfl, by decide +kernel⟩
theorem cw_X4_isDigit : CwS RX4 yX4_isDigit cX4_isDigit 1 (some .boolean) 1 := ⟨gwp 921 (by decide +kernel) rfl, gwp 920 (by decide +kernel) rfl, gwp 6 (by decide +kernel) rfl, by decide +kernel⟩
theorem cw_X4_readNumber : CwV RX4 yX4_readNumber cX4_readNumber 4 (some .boolean) 1 := ⟨gwp 925 (by decide +kernel) rfl, gwp 924 (by decide +kernel) rfl, gws (q := (yX4_readNumber, 7)) 28 (by decide +kernel), gwp 6 (by decide +kernel) rfl, by decide +kernel⟩
theorem cw_X5_farmAt : CwV RX5 yX5_farmAt cX5_farmAt 2 (some .int) 1 := ⟨gwp 318 (by decide +kernel) rfl, gwp 316 (by decide +kernel) rfl, gwp 317 (by decide +kernel) rfl, gwp 8 (by decide +kernel) rfl, by decide +kernel⟩
theorem cw_X5_placeOf : CwV RX5 yX5_placeOf cX5_placeOf 3 (some .int) 1 := ⟨gwp 281 (by decide +kernel) rfl, gwp 280 (by decide +kernel) rfl, gws (q := (yX5_placeOf, 3)) 5 (by decide +kernel), gwp 8 (by decide +kernel) rfl, by decide +kernel⟩
def t_X1_farms : List (Nat × Instr × Nat) := [(0, .aload_n 0, 1), (1, .getfield 30, 3), (4, .ireturn, 1)]
theorem dt_X1_farms : tblOK cX1_farms t_X1_farms = true := by decide +kernel
def p_X1_farms  (σ : Sg) : Option Int32 :=
  some (gI σ 1 0 0)
set_option maxRecDepth 20000 in
set_option maxHeartbeats 1000000 in
theorem s_X1_farms {l : Launch} {D : va_G} {ty : Nat → ClassId} {ρ : Nat → Nat → Nat} {N0 : Nat} (S : St l ty ρ N0)   (σ : Sg) (r : Int32) (h : p_X1_farms  σ = some r) : AMet l D ty ρ N0 yX1_farms (Cond.code yX1_farms cX1_farms 1 (some .int) :: GW) (rmk 1 0 0) [.ref (ρ 1 0)] σ (oI r) σ := by
  refine am_enter S (by decide) rfl rfl (Nat.le_of_ble_eq_true rfl) ?_
  intro p e s m args below meth c K hX
  have dq := @tat _ _ dt_X1_farms
  unfold p_X1_farms at h
  show WA p l e _ s m args below meth c D ty ρ N0 1 _ 0 [some (.ref (ρ 1 0))] [] σ 0 0
  refine a_aload_n K (dq 0 rfl) rfl rfl ?_
  refine a_get K (T := 1) (i := 0) (k := 0) (v := .int (gI σ 1 0 0)) v_1 rfl rfl in_X1 (Nat.le_of_ble_eq_true rfl) fl_X1_30 rfl (dq 1 rfl) ?_
  obtain rfl := Option.some.inj h
  exact a_iret K rfl rfl (dq 2 rfl) (Nat.le_of_ble_eq_true rfl) (Nat.le_of_ble_eq_true rfl) rfl rfl
def t_X1_parentOf : List (Nat × Instr × Nat) := [(0, .iload_n 1, 1), (1, .ifCond .lt 21, 3), (4, .iload_n 1, 1), (5, .aload_n 0, 1), (6, .getfield 15, 3), (9, .arraylength, 1), (10, .if_icmp .ge 12, 3), (13, .aload_n 0, 1), (14, .getfield 15, 3), (17, .iload_n 1, 1), (18, .iaload, 1), (19, .goto 4, 3), (22, .iconst (-1), 1), (23, .ireturn, 1)]
theorem dt_X1_parentOf : tblOK cX1_parentOf t_X1_parentOf = true := by decide +kernel
def p_X1_parentOf (a1 : Int32) (σ : Sg) : Option Int32 :=
  if a1 < 0 then (some (-1)) else (if 12 ≤ a1 then (some (-1)) else (if ib a1 12 then (some (gA σ 3 0 a1.toNatClampNeg)) else none))
set_option maxRecDepth 20000 in
set_option maxHeartbeats 1000000 in
theorem s_X1_parentOf {l : Launch} {D : va_G} {ty : Nat → ClassId} {ρ : Nat → Nat → Nat} {N0 : Nat} (S : St l ty ρ N0) (a1 : Int32)  (σ : Sg) (r : Int32) (h : p_X1_parentOf a1 σ = some r) : AMet l D ty ρ N0 yX1_parentOf (Cond.code yX1_parentOf cX1_parentOf 2 (some .int) :: GW) (rmk 1 0 0) [.ref (ρ 1 0), .int a1] σ (oI r) σ := by
  refine am_enter S (by decide) rfl rfl (Nat.le_of_ble_eq_true rfl) ?_
  intro p e s m args below meth c K hX
  have dq := @tat _ _ dt_X1_parentOf
  unfold p_X1_parentOf at h
  show WA p l e _ s m args below meth c D ty ρ N0 2 _ 0 [some (.ref (ρ 1 0)), some (.int a1)] [] σ 0 0
  refine a_iload_n K (dq 0 rfl) rfl rfl ?_
  refine a_if_lt K (tgt := 22) (dq 1 rfl) rfl (fun c1 => ?_) (fun c1 => ?_)
  · have h := ite_t c1 h
    refine a_iconst K (dq 12 rfl) (v := (-1)) rfl ?_
    obtain rfl := Option.some.inj h
    exact a_iret K rfl rfl (dq 13 rfl) (Nat.le_of_ble_eq_true rfl) (Nat.le_of_ble_eq_true rfl) rfl rfl
  · have h := ite_f c1 h
    refine a_iload_n K (dq 2 rfl) rfl rfl ?_
    refine a_aload_n K (dq 3 rfl) rfl rfl ?_
    refine a_get K (T := 1) (i := 0) (k := 2) (v := .ref (ρ 3 0)) v_1 rfl rfl in_X1 (Nat.le_of_ble_eq_true rfl) fl_X1_15 rfl (dq 4 rfl) ?_
    refine a_ilen K (T := 3) (i := 0) (v := 12) v_3 rfl rfl rfl (dq 5 rfl) ?_
    refine a_icmp_ge K (tgt := 22) (dq 6 rfl) rfl (fun c2 => ?_) (fun c2 => ?_)
    · have h := ite_t c2 h
      refine a_iconst K (dq 12 rfl) (v := (-1)) rfl ?_
      obtain rfl := Option.some.inj h
      exact a_iret K rfl rfl (dq 13 rfl) (Nat.le_of_ble_eq_true rfl) (Nat.le_of_ble_eq_true rfl) rfl rfl
    · have h := ite_f c2 h
      refine a_aload_n K (dq 7 rfl) rfl rfl ?_
      refine a_get K (T := 1) (i := 0) (k := 2) (v := .ref (ρ 3 0)) v_1 rfl rfl in_X1 (Nat.le_of_ble_eq_true rfl) fl_X1_15 rfl (dq 8 rfl) ?_
      refine a_iload_n K (dq 9 rfl) rfl rfl ?_
      obtain ⟨c3, h⟩ := ib_some h
      refine a_iald K (T := 3) (i := 0) v_3 rfl rfl c3 (dq 10 rfl) ?_
      refine a_goto K (tgt := 23) (dq 11 rfl) rfl ?_
      obtain rfl := Option.some.inj h
      exact a_iret K rfl rfl (dq 13 rfl) (Nat.le_of_ble_eq_true rfl) (Nat.le_of_ble_eq_true rfl) rfl rfl
def t_X3_keep : List (Nat × Instr × Nat) := [(0, .aload_n 0, 1), (1, .iload_n 1, 1), (2, .putfield 7, 3), (5, .aload_n 0, 1), (6, .iload_n 2, 1), (7, .putfield 13, 3), (10, .iconst 1, 1), (11, .ireturn, 1)]
theorem dt_X3_keep : tblOK cX3_keep t_X3_keep = true := by decide +kernel
def p_X3_keep (a1 : Int32) (a2 : Int32) (σ : Sg) : Option (Int32 × Sg) :=
  some (1, sI (sI σ 8 0 0 a1) 8 0 1 a2)
set_option maxRecDepth 20000 in
set_option maxHeartbeats 1000000 in
theorem s_X3_keep {l : Launch} {D : va_G} {ty : Nat → ClassId} {ρ : Nat → Nat → Nat} {N0 : Nat} (S : St l ty ρ N0) (a1 : Int32) (a2 : Int32)  (σ : Sg) (r : (Int32 × Sg)) (h : p_X3_keep a1 a2 σ = some r) : AMet l D ty ρ N0 yX3_keep (Cond.code yX3_keep cX3_keep 3 (some .boolean) :: GW) (rmk 1 0 0) [.ref (ρ 8 0), .int a1, .int a2] σ (oI r.1) r.2 := by
  refine am_enter S (by decide) rfl rfl (Nat.le_of_ble_eq_true rfl) ?_
  intro p e s m args below meth c K hX
  have dq := @tat _ _ dt_X3_keep
  unfold p_X3_keep at h
  show WA p l e _ s m args below meth c D ty ρ N0 3 _ 0 [some (.ref (ρ 8 0)), some (.int a1), some (.int a2)] [] σ 0 0
  refine a_aload_n K (dq 0 rfl) rfl rfl ?_
  refine a_iload_n K (dq 1 rfl) rfl rfl ?_
  refine a_put K (T := 8) (i := 0) (k := 0) v_8 rfl rfl in_X3 tyX3 tyX3_ok nmX3 (Nat.le_of_ble_eq_true rfl) fl_X3_7 rfl rfl (tyX3_ok 0 (by decide)) rfl rfl (dq 2 rfl) ?_
  refine a_aload_n K (dq 3 rfl) rfl rfl ?_
  refine a_iload_n K (dq 4 rfl) rfl rfl ?_
  refine a_put K (T := 8) (i := 0) (k := 1) v_8 rfl rfl in_X3 tyX3 tyX3_ok nmX3 (Nat.le_of_ble_eq_true rfl) fl_X3_13 rfl rfl (tyX3_ok 1 (by decide)) rfl rfl (dq 5 rfl) ?_
  refine a_iconst K (dq 6 rfl) (v := 1) rfl ?_
  obtain rfl := Option.some.inj h
  exact a_iret K rfl rfl (dq 7 rfl) (Nat.le_of_ble_eq_true rfl) (Nat.le_of_ble_eq_true rfl) rfl rfl
def t_X1_has : List (Nat × Instr × Nat) := [(0, .iload_n 1, 1), (1, .ifCond .lt 15, 3), (4, .iload_n 1, 1), (5, .aload_n 0, 1), (6, .getfield 30, 3), (9, .if_icmp .ge 7, 3), (12, .iconst 1, 1), (13, .goto 4, 3), (16, .iconst 0, 1), (17, .ireturn, 1)]
theorem dt_X1_has : tblOK cX1_has t_X1_has = true := by decide +kernel
def p_X1_has (a1 : Int32) (σ : Sg) : Option Int32 :=
  if a1 < 0 then (some 0) else (if (gI σ 1 0 0) ≤ a1 then (some 0) else (some 1))
set_option maxRecDepth 20000 in
set_option maxHeartbeats 1000000 in
theorem s_X1_has {l : Launch} {D : va_G} {ty : Nat → ClassId} {ρ : Nat → Nat → Nat} {N0 : Nat} (S : St l ty ρ N0) (a1 : Int32)  (σ : Sg) (r : Int32) (h : p_X1_has a1 σ = some r) : AMet l D ty ρ N0 yX1_has (Cond.code yX1_has cX1_has 2 (some .boolean) :: GW) (rmk 1 0 0) [.ref (ρ 1 0), .int a1] σ (oI r) σ := by
  refine am_enter S (by decide) rfl rfl (Nat.le_of_ble_eq_true rfl) ?_
  intro p e s m args below meth c K hX
  have dq := @tat _ _ dt_X1_has
  unfold p_X1_has at h
  show WA p l e _ s m args below meth c D ty ρ N0 2 _ 0 [some (.ref (ρ 1 0)), some (.int a1)] [] σ 0 0
  refine a_iload_n K (dq 0 rfl) rfl rfl ?_
  refine a_if_lt K (tgt := 16) (dq 1 rfl) rfl (fun c1 => ?_) (fun c1 => ?_)
  · have h := ite_t c1 h
    refine a_iconst K (dq 8 rfl) (v := 0) rfl ?_
    obtain rfl := Option.some.inj h
    exact a_iret K rfl rfl (dq 9 rfl) (Nat.le_of_ble_eq_true rfl) (Nat.le_of_ble_eq_true rfl) rfl rfl
  · have h := ite_f c1 h
    refine a_iload_n K (dq 2 rfl) rfl rfl ?_
    refine a_aload_n K (dq 3 rfl) rfl rfl ?_
    refine a_get K (T := 1) (i := 0) (k := 0) (v := .int (gI σ 1 0 0)) v_1 rfl rfl in_X1 (Nat.le_of_ble_eq_true rfl) fl_X1_30 rfl (dq 4 rfl) ?_
    refine a_icmp_ge K (tgt := 16) (dq 5 rfl) rfl (fun c2 => ?_) (fun c2 => ?_)
    · have h := ite_t c2 h
      refine a_iconst K (dq 8 rfl) (v := 0) rfl ?_
      obtain rfl := Option.some.inj h
      exact a_iret K rfl rfl (dq 9 rfl) (Nat.le_of_ble_eq_true rfl) (Nat.le_of_ble_eq_true rfl) rfl rfl
    · have h := ite_f c2 h
      refine a_iconst K (dq 6 rfl) (v := 1) rfl ?_
      refine a_goto K (tgt := 17) (dq 7 rfl) rfl ?_
      obtain rfl := Option.some.inj h
      exact a_iret K rfl rfl (dq 9 rfl) (Nat.le_of_ble_eq_true rfl) (Nat.le_of_ble_eq_true rfl) rfl rfl
def t_X5_placeOf : List (Nat × Instr × Nat) := [(0, .iconst 0, 1), (1, .istore_n 2, 1), (2, .iload_n 2, 1), (3, .aload_n 0, 1), (4, .getfield 19, 3), (7, .if_icmp .ge 30, 3), (10, .iload_n 2, 1), (11, .aload_n 0, 1), (12, .getfield 9, 3), (15, .arraylength, 1), (16, .if_icmp .ge 21, 3), (19, .aload_n 0, 1), (20, .getfield 9, 3), (23, .iload_n 2, 1), (24, .iaload, 1), (25, .iload_n 1, 1), (26, .if_icmp .ne 5, 3), (29, .iload_n 2, 1), (30, .ireturn, 1), (31, .iinc 2 1, 3), (34, .goto (-32), 3), (37, .iconst (-1), 1), (38, .ireturn, 1)]
theorem dt_X5_placeOf : tblOK cX5_placeOf t_X5_placeOf = true := by decide +kernel
def p_X5_placeOf_L2  (σ : Sg) : Nat → Int32 → Int32 → Option Int32
  | 0, _, _ => none
  | n + 1, v1, v2 => if (gI σ 14 0 1) ≤ v2 then (some (-1)) else (if 12 ≤ v2 then (some (-1)) else (if ib v2 12 then (if (gA σ 15 0 v2.toNatClampNeg) = v1 then (some v2) else (p_X5_placeOf_L2 σ n v1 (v2 + 1))) else none))
def p_X5_placeOf (a1 : Int32) (σ : Sg) : Option Int32 :=
  p_X5_placeOf_L2 σ 400 a1 0
set_option maxRecDepth 20000 in
set_option maxHeartbeats 1000000 in
theorem s_X5_placeOf_L2 {l : Launch} {D : va_G} {ty : Nat → ClassId} {ρ : Nat → Nat → Nat} {N0 : Nat} (S : St l ty ρ N0)   (σ : Sg) : ∀ (n : Nat) (v1 : Int32) (v2 : Int32) (r : Int32) (h : p_X5_placeOf_L2  σ n v1 v2 = some r) {p : Program} {e : Env} {s : State} {m : MethodId} {args : Array Value} {below : List Frame} {meth : Method} {c : Code} (K : Cx p l s m args meth c cX5_placeOf 3 RX5 (some .int) D ty ρ N0) (hX : ∀ x ∈ c.exceptionTable.toList, False), WA p l e (rmk 1 0 0) s m args below meth c D ty ρ N0 3 (vx_MQ below (oQ D ty ρ N0 (oI r) σ) (oX D ty ρ N0 (oI r) σ) args s 0 0 (fun q => N0 ≤ q)) 2 [some (.ref (ρ 14 0)), some (.int v1), some (.int v2)] [] σ 0 0 := by
  intro n
  induction n with
  | zero =>
    intro v1 v2 r h
    simp only [p_X5_placeOf_L2] at h
    cases h
  | succ n ih =>
    intro v1 v2 r h p e s m args below meth c K hX
    have dq := @tat _ _ dt_X5_placeOf
    rw [p_X5_placeOf_L2] at h
    refine a_iload_n K (dq 2 rfl) rfl rfl ?_
    refine a_aload_n K (dq 3 rfl) rfl rfl ?_
    refine a_get K (T := 14) (i := 0) (k := 1) (v := .int (gI σ 14 0 1)) v_14 rfl rfl in_X5 (Nat.le_of_ble_eq_true rfl) fl_X5_19 rfl (dq 4 rfl) ?_
    refine a_icmp_ge K (tgt := 37) (dq 5 rfl) rfl (fun c1 => ?_) (fun c1 => ?_)
    · have h := ite_t c1 h
      refine a_iconst K (dq 21 rfl) (v := (-1)) rfl ?_
      obtain rfl := Option.some.inj h
      exact a_iret K rfl rfl (dq 22 rfl) (Nat.le_of_ble_eq_true rfl) (Nat.le_of_ble_eq_true rfl) rfl rfl
    · have h := ite_f c1 h
      refine a_iload_n K (dq 6 rfl) rfl rfl ?_
      refine a_aload_n K (dq 7 rfl) rfl rfl ?_
      refine a_get K (T := 14) (i := 0) (k := 0) (v := .ref (ρ 15 0)) v_14 rfl rfl in_X5 (Nat.le_of_ble_eq_true rfl) fl_X5_9 rfl (dq 8 rfl) ?_
      refine a_ilen K (T := 15) (i := 0) (v := 12) v_15 rfl rfl rfl (dq 9 rfl) ?_
      refine a_icmp_ge K (tgt := 37) (dq 10 rfl) rfl (fun c2 => ?_) (fun c2 => ?_)
      · have h := ite_t c2 h
        refine a_iconst K (dq 21 rfl) (v := (-1)) rfl ?_
        obtain rfl := Option.some.inj h
        exact a_iret K rfl rfl (dq 22 rfl) (Nat.le_of_ble_eq_true rfl) (Nat.le_of_ble_eq_true rfl) rfl rfl
      · have h := ite_f c2 h
        refine a_aload_n K (dq 11 rfl) rfl rfl ?_
        refine a_get K (T := 14) (i := 0) (k := 0) (v := .ref (ρ 15 0)) v_14 rfl rfl in_X5 (Nat.le_of_ble_eq_true rfl) fl_X5_9 rfl (dq 12 rfl) ?_
        refine a_iload_n K (dq 13 rfl) rfl rfl ?_
        obtain ⟨c3, h⟩ := ib_some h
        refine a_iald K (T := 15) (i := 0) v_15 rfl rfl c3 (dq 14 rfl) ?_
        refine a_iload_n K (dq 15 rfl) rfl rfl ?_
        refine a_icmp_ne K (tgt := 31) (dq 16 rfl) rfl (fun c4 => ?_) (fun c4 => ?_)
        · have h := ite_f c4 h
          refine a_iinc K (dq 19 rfl) rfl (v := (v2 + 1)) rfl (Nat.le_of_ble_eq_true rfl) (ls' := [some (.ref (ρ 14 0)), some (.int v1), some (.int (v2 + 1))]) rfl ?_
          refine a_goto K (tgt := 2) (dq 20 rfl) rfl ?_
          exact ih v1 (v2 + 1) r h K hX
        · have h := ite_t c4 h
          refine a_iload_n K (dq 17 rfl) rfl rfl ?_
          obtain rfl := Option.some.inj h
          exact a_iret K rfl rfl (dq 18 rfl) (Nat.le_of_ble_eq_true rfl) (Nat.le_of_ble_eq_true rfl) rfl rfl
set_option maxRecDepth 20000 in
set_option maxHeartbeats 1000000 in
theorem s_X5_placeOf {l : Launch} {D : va_G} {ty : Nat → ClassId} {ρ : Nat → Nat → Nat} {N0 : Nat} (S : St l ty ρ N0) (a1 : Int32)  (σ : Sg) (r : Int32) (h : p_X5_placeOf a1 σ = some r) : AMet l D ty ρ N0 yX5_placeOf (Cond.code yX5_placeOf cX5_placeOf 3 (some .int) :: GW) (rmk 1 0 0) [.ref (ρ 14 0), .int a1] σ (oI r) σ := by
  refine am_enter S (by decide) rfl rfl (Nat.le_of_ble_eq_true rfl) ?_
  intro p e s m args below meth c K hX
  have dq := @tat _ _ dt_X5_placeOf
  unfold p_X5_placeOf at h
  show WA p l e _ s m args below meth c D ty ρ N0 3 _ 0 [some (.ref (ρ 14 0)), some (.int a1), none] [] σ 0 0
  refine a_iconst K (dq 0 rfl) (v := 0) rfl ?_
  refine a_istore_n K (dq 1 rfl) rfl (Nat.le_of_ble_eq_true rfl) (ls' := [some (.ref (ρ 14 0)), some (.int a1), some (.int 0)]) rfl ?_
  exact s_X5_placeOf_L2 S   σ 400 a1 0 r h K hX
def t_X5_farms : List (Nat × Instr × Nat) := [(0, .aload_n 0, 1), (1, .getfield 19, 3), (4, .ireturn, 1)]
theorem dt_X5_farms : tblOK cX5_farms t_X5_farms = true := by decide +kernel
def p_X5_farms  (σ : Sg) : Option Int32 :=
  some (gI σ 14 0 1)
set_option maxRecDepth 20000 in
set_option maxHeartbeats 1000000 in
theorem s_X5_farms {l : Launch} {D : va_G} {ty : Nat → ClassId} {ρ : Nat → Nat → Nat} {N0 : Nat} (S : St l ty ρ N0)   (σ : Sg) (r : Int32) (h : p_X5_farms  σ = some r) : AMet l D ty ρ N0 yX5_farms (Cond.code yX5_farms cX5_farms 1 (some .int) :: GW) (rmk 1 0 0) [.ref (ρ 14 0)] σ (oI r) σ := by
  refine am_enter S (by decide) rfl rfl (Nat.le_of_ble_eq_true rfl) ?_
  intro p e s m args below meth c K hX
  have dq := @tat _ _ dt_X5_farms
  unfold p_X5_farms at h
  show WA p l e _ s m args below meth c D ty ρ N0 1 _ 0 [some (.ref (ρ 14 0))] [] σ 0 0
  refine a_aload_n K (dq 0 rfl) rfl rfl ?_
  refine a_get K (T := 14) (i := 0) (k := 1) (v := .int (gI σ 14 0 1)) v_14 rfl rfl in_X5 (Nat.le_of_ble_eq_true rfl) fl_X5_19 rfl (dq 1 rfl) ?_
  obtain rfl := Option.some.inj h
  exact a_iret K rfl rfl (dq 2 rfl) (Nat.le_of_ble_eq_true rfl) (Nat.le_of_ble_eq_true rfl) rfl rfl
def t_X5_tracks : List (Nat × Instr × Nat) := [(0, .aload_n 0, 1), (1, .getfield 19, 3), (4, .iconst 1, 1), (5, .isub, 1), (6, .ireturn, 1)]
theorem dt_X5_tracks : tblOK cX5_tracks t_X5_tracks = true := by decide +kernel
def p_X5_tracks  (σ : Sg) : Option Int32 :=
  some ((gI σ 14 0 1) - 1)
set_option maxRecDepth 20000 in
set_option maxHeartbeats 1000000 in
theorem s_X5_tracks {l : Launch} {D : va_G} {ty : Nat → ClassId} {ρ : Nat → Nat → Nat} {N0 : Nat} (S : St l ty ρ N0)   (σ : Sg) (r : Int32) (h : p_X5_tracks  σ = some r) : AMet l D ty ρ N0 yX5_tracks (Cond.code yX5_tracks cX5_tracks 1 (some .int) :: GW) (rmk 1 0 0) [.ref (ρ 14 0)] σ (oI r) σ := by
  refine am_enter S (by decide) rfl rfl (Nat.le_of_ble_eq_true rfl) ?_
  intro p e s m args below meth c K hX
  have dq := @tat _ _ dt_X5_tracks
  unfold p_X5_tracks at h
  show WA p l e _ s m args below meth c D ty ρ N0 1 _ 0 [some (.ref (ρ 14 0))] [] σ 0 0
  refine a_aload_n K (dq 0 rfl) rfl rfl ?_
  refine a_get K (T := 14) (i := 0) (k := 1) (v := .int (gI σ 14 0 1)) v_14 rfl rfl in_X5 (Nat.le_of_ble_eq_true rfl) fl_X5_19 rfl (dq 1 rfl) ?_
  refine a_iconst K (dq 2 rfl) (v := 1) rfl ?_
  refine a_isub K (dq 3 rfl) ?_
  obtain rfl := Option.some.inj h
  exact a_iret K rfl rfl (dq 4 rfl) (Nat.le_of_ble_eq_true rfl) (Nat.le_of_ble_eq_true rfl) rfl rfl
def t_X1_hasTrack : List (Nat × Instr × Nat) := [(0, .aload_n 0, 1), (1, .iload_n 1, 1), (2, .invokevirtual 62, 3), (5, .iload_n 2, 1), (6, .if_icmp .eq 12, 3), (9, .aload_n 0, 1), (10, .iload_n 2, 1), (11, .invokevirtual 62, 3), (14, .iload_n 1, 1), (15, .if_icmp .ne 7, 3), (18, .iconst 1, 1), (19, .goto 4, 3), (22, .iconst 0, 1), (23, .ireturn, 1)]
theorem dt_X1_hasTrack : tblOK cX1_hasTrack t_X1_hasTrack = true := by decide +kernel
def p_X1_hasTrack (a1 : Int32) (a2 : Int32) (σ : Sg) : Option Int32 :=
  (p_X1_parentOf a1 σ).bind fun r1 => if r1 = a2 then (some 1) else ((p_X1_parentOf a2 σ).bind fun r3 => if r3 = a1 then (some 1) else (some 0))
set_option maxRecDepth 20000 in
set_option maxHeartbeats 1000000 in
theorem s_X1_hasTrack {l : Launch} {D : va_G} {ty : Nat → ClassId} {ρ : Nat → Nat → Nat} {N0 : Nat} (S : St l ty ρ N0) (a1 : Int32) (a2 : Int32)  (σ : Sg) (r : Int32) (h : p_X1_hasTrack a1 a2 σ = some r) : AMet l D ty ρ N0 yX1_hasTrack (Cond.code yX1_hasTrack cX1_hasTrack 3 (some .boolean) :: GW) (rmk 2 0 0) [.ref (ρ 1 0), .int a1, .int a2] σ (oI r) σ := by
  refine am_enter S (by decide) rfl rfl (Nat.le_of_ble_eq_true rfl) ?_
  intro p e s m args below meth c K hX
  have dq := @tat _ _ dt_X1_hasTrack
  unfold p_X1_hasTrack at h
  show WA p l e _ s m args below meth c D ty ρ N0 3 _ 0 [some (.ref (ρ 1 0)), some (.int a1), some (.int a2)] [] σ 0 0
  refine a_aload_n K (dq 0 rfl) rfl rfl ?_
  refine a_iload_n K (dq 1 rfl) rfl rfl ?_
  obtain ⟨r1, h1, h⟩ := bnd h
  refine a_callVi K (s_X1_parentOf S a1  σ r1 h1) v_1 rfl rfl cw_X1_parentOf ml_X1_62 (by decide) rfl (rest := []) rfl (Nat.le_of_ble_eq_true rfl) (dq 2 rfl) (by decide) ?_
  refine a_iload_n K (dq 3 rfl) rfl rfl ?_
  refine a_icmp_eq K (tgt := 18) (dq 4 rfl) rfl (fun c2 => ?_) (fun c2 => ?_)
  · have h := ite_t c2 h
    refine a_iconst K (dq 10 rfl) (v := 1) rfl ?_
    refine a_goto K (tgt := 23) (dq 11 rfl) rfl ?_
    obtain rfl := Option.some.inj h
    exact a_iret K rfl rfl (dq 13 rfl) (Nat.le_of_ble_eq_true rfl) (Nat.le_of_ble_eq_true rfl) rfl rfl
  · have h := ite_f c2 h
    refine a_aload_n K (dq 5 rfl) rfl rfl ?_
    refine a_iload_n K (dq 6 rfl) rfl rfl ?_
    obtain ⟨r3, h3, h⟩ := bnd h
    refine a_callVi K (s_X1_parentOf S a2  σ r3 h3) v_1 rfl rfl cw_X1_parentOf ml_X1_62 (by decide) rfl (rest := []) rfl (Nat.le_of_ble_eq_true rfl) (dq 7 rfl) (by decide) ?_
    refine a_iload_n K (dq 8 rfl) rfl rfl ?_
    refine a_icmp_ne K (tgt := 22) (dq 9 rfl) rfl (fun c4 => ?_) (fun c4 => ?_)
    · have h := ite_f c4 h
      refine a_iconst K (dq 12 rfl) (v := 0) rfl ?_
      obtain rfl := Option.some.inj h
      exact a_iret K rfl rfl (dq 13 rfl) (Nat.le_of_ble_eq_true rfl) (Nat.le_of_ble_eq_true rfl) rfl rfl
    · have h := ite_t c4 h
      refine a_iconst K (dq 10 rfl) (v := 1) rfl ?_
      refine a_goto K (tgt := 23) (dq 11 rfl) rfl ?_
      obtain rfl := Option.some.inj h
      exact a_iret K rfl rfl (dq 13 rfl) (Nat.le_of_ble_eq_true rfl) (Nat.le_of_ble_eq_true rfl) rfl rfl
def t_X1_rootOf : List (Nat × Instr × Nat) := [(0, .iload_n 1, 1), (1, .istore_n 2, 1), (2, .iconst 0, 1), (3, .istore_n 3, 1), (4, .iload_n 3, 1), (5, .bipush 12, 2), (7, .if_icmp .ge 24, 3), (10, .aload_n 0, 1), (11, .iload_n 2, 1), (12, .invokevirtual 62, 3), (15, .iconst (-1), 1), (16, .if_icmp .eq 15, 3), (19, .aload_n 0, 1), (20, .iload_n 2, 1), (21, .invokevirtual 62, 3), (24, .istore_n 2, 1), (25, .iinc 3 1, 3), (28, .goto (-24), 3), (31, .iload_n 2, 1), (32, .ireturn, 1)]
theorem dt_X1_rootOf : tblOK cX1_rootOf t_X1_rootOf = true := by decide +kernel
def p_X1_rootOf_L4  (σ : Sg) : Nat → Int32 → Int32 → Option Int32
  | 0, _, _ => none
  | n + 1, v2, v3 => if 12 ≤ v3 then (some v2) else ((p_X1_parentOf v2 σ).bind fun r2 => if r2 = (-1) then (some v2) else ((p_X1_parentOf v2 σ).bind fun r4 => p_X1_rootOf_L4 σ n r4 (v3 + 1)))
def p_X1_rootOf (a1 : Int32) (σ : Sg) : Option Int32 :=
  p_X1_rootOf_L4 σ 400 a1 0
set_option maxRecDepth 20000 in
set_option maxHeartbeats 1000000 in
theorem s_X1_rootOf_L4 {l : Launch} {D : va_G} {ty : Nat → ClassId} {ρ : Nat → Nat → Nat} {N0 : Nat} (S : St l ty ρ N0)   (σ : Sg) : ∀ (n : Nat) (v2 : Int32) (v3 : Int32) (r : Int32) (h : p_X1_rootOf_L4  σ n v2 v3 = some r) {p : Program} {e : Env} {s : State} {m : MethodId} {args : Array Value} {below : List Frame} {meth : Method} {c : Code} (K : Cx p l s m args meth c cX1_rootOf 4 RX1 (some .int) D ty ρ N0) (hX : ∀ x ∈ c.exceptionTable.toList, False), WA p l e (rmk 2 0 0) s m args below meth c D ty ρ N0 4 (vx_MQ below (oQ D ty ρ N0 (oI r) σ) (oX D ty ρ N0 (oI r) σ) args s 0 0 (fun q => N0 ≤ q)) 4 [some (.ref (ρ 1 0)), none, some (.int v2), some (.int v3)] [] σ 0 0 := by
  intro n
  induction n with
  | zero =>
    intro v2 v3 r h
    simp only [p_X1_rootOf_L4] at h
    cases h
  | succ n ih =>
    intro v2 v3 r h p e s m args below meth c K hX
    have dq := @tat _ _ dt_X1_rootOf
    rw [p_X1_rootOf_L4] at h
    refine a_iload_n K (dq 4 rfl) rfl rfl ?_
    refine a_bipush K (dq 5 rfl) (v := 12) rfl ?_
    refine a_icmp_ge K (tgt := 31) (dq 6 rfl) rfl (fun c1 => ?_) (fun c1 => ?_)
    · have h := ite_t c1 h
      refine a_iload_n K (dq 18 rfl) rfl rfl ?_
      obtain rfl := Option.some.inj h
      exact a_iret K rfl rfl (dq 19 rfl) (Nat.le_of_ble_eq_true rfl) (Nat.le_of_ble_eq_true rfl) rfl rfl
    · have h := ite_f c1 h
      refine a_aload_n K (dq 7 rfl) rfl rfl ?_
      refine a_iload_n K (dq 8 rfl) rfl rfl ?_
      obtain ⟨r2, h2, h⟩ := bnd h
      refine a_callVi K (s_X1_parentOf S v2  σ r2 h2) v_1 rfl rfl cw_X1_parentOf ml_X1_62 (by decide) rfl (rest := []) rfl (Nat.le_of_ble_eq_true rfl) (dq 9 rfl) (by decide) ?_
      refine a_iconst K (dq 10 rfl) (v := (-1)) rfl ?_
      refine a_icmp_eq K (tgt := 31) (dq 11 rfl) rfl (fun c3 => ?_) (fun c3 => ?_)
      · have h := ite_t c3 h
        refine a_iload_n K (dq 18 rfl) rfl rfl ?_
        obtain rfl := Option.some.inj h
        exact a_iret K rfl rfl (dq 19 rfl) (Nat.le_of_ble_eq_true rfl) (Nat.le_of_ble_eq_true rfl) rfl rfl
      · have h := ite_f c3 h
        refine a_aload_n K (dq 12 rfl) rfl rfl ?_
        refine a_iload_n K (dq 13 rfl) rfl rfl ?_
        obtain ⟨r4, h4, h⟩ := bnd h
        refine a_callVi K (s_X1_parentOf S v2  σ r4 h4) v_1 rfl rfl cw_X1_parentOf ml_X1_62 (by decide) rfl (rest := []) rfl (Nat.le_of_ble_eq_true rfl) (dq 14 rfl) (by decide) ?_
        refine a_istore_n K (dq 15 rfl) rfl (Nat.le_of_ble_eq_true rfl) (ls' := [some (.ref (ρ 1 0)), none, some (.int r4), some (.int v3)]) rfl ?_
        refine a_iinc K (dq 16 rfl) rfl (v := (v3 + 1)) rfl (Nat.le_of_ble_eq_true rfl) (ls' := [some (.ref (ρ 1 0)), none, some (.int r4), some (.int (v3 + 1))]) rfl ?_
        refine a_goto K (tgt := 4) (dq 17 rfl) rfl ?_
        exact ih r4 (v3 + 1) r h K hX
set_option maxRecDepth 20000 in
set_option maxHeartbeats 1000000 in
theorem s_X1_rootOf {l : Launch} {D : va_G} {ty : Nat → ClassId} {ρ : Nat → Nat → Nat} {N0 : Nat} (S : St l ty ρ N0) (a1 : Int32)  (σ : Sg) (r : Int32) (h : p_X1_rootOf a1 σ = some r) : AMet l D ty ρ N0 yX1_rootOf (Cond.code yX1_rootOf cX1_rootOf 4 (some .int) :: GW) (rmk 2 0 0) [.ref (ρ 1 0), .int a1] σ (oI r) σ := by
  refine am_enter S (by decide) rfl rfl (Nat.le_of_ble_eq_true rfl) ?_
  intro p e s m args below meth c K hX
  have dq := @tat _ _ dt_X1_rootOf
  unfold p_X1_rootOf at h
  show WA p l e _ s m args below meth c D ty ρ N0 4 _ 0 [some (.ref (ρ 1 0)), some (.int a1), none, none] [] σ 0 0
  refine a_iload_n K (dq 0 rfl) rfl rfl ?_
  refine a_istore_n K (dq 1 rfl) rfl (Nat.le_of_ble_eq_true rfl) (ls' := [some (.ref (ρ 1 0)), some (.int a1), some (.int a1), none]) rfl ?_
  refine a_iconst K (dq 2 rfl) (v := 0) rfl ?_
  refine a_istore_n K (dq 3 rfl) rfl (Nat.le_of_ble_eq_true rfl) (ls' := [some (.ref (ρ 1 0)), some (.int a1), some (.int a1), some (.int 0)]) rfl ?_
  refine a_le2 (ls' := [some (.ref (ρ 1 0)), none, some (.int a1), some (.int 0)]) ⟨rfl, rfl, rfl, trivial⟩ ?_
  exact s_X1_rootOf_L4 S   σ 400 a1 0 r h K hX
def t_X5_farmAt : List (Nat × Instr × Nat) := [(0, .iload_n 1, 1), (1, .ifCond .lt 29, 3), (4, .iload_n 1, 1), (5, .aload_n 0, 1), (6, .getfield 19, 3), (9, .if_icmp .ge 21, 3), (12, .iload_n 1, 1), (13, .aload_n 0, 1), (14, .getfield 9, 3), (17, .arraylength, 1), (18, .if_icmp .ge 12, 3), (21, .aload_n 0, 1), (22, .getfield 9, 3), (25, .iload_n 1, 1), (26, .iaload, 1), (27, .goto 4, 3), (30, .iconst (-1), 1), (31, .ireturn, 1)]
theorem dt_X5_farmAt : tblOK cX5_farmAt t_X5_farmAt = true := by decide +kernel
def p_X5_farmAt (a1 : Int32) (σ : Sg) : Option Int32 :=
  if a1 < 0 then (some (-1)) else (if (gI σ 14 0 1) ≤ a1 then (some (-1)) else (if 12 ≤ a1 then (some (-1)) else (if ib a1 12 then (some (gA σ 15 0 a1.toNatClampNeg)) else none)))
set_option maxRecDepth 20000 in
set_option maxHeartbeats 1000000 in
theorem s_X5_farmAt {l : Launch} {D : va_G} {ty : Nat → ClassId} {ρ : Nat → Nat → Nat} {N0 : Nat} (S : St l ty ρ N0) (a1 : Int32)  (σ : Sg) (r : Int32) (h : p_X5_farmAt a1 σ = some r) : AMet l D ty ρ N0 yX5_farmAt (Cond.code yX5_farmAt cX5_farmAt 2 (some .int) :: GW) (rmk 1 0 0) [.ref (ρ 14 0), .int a1] σ (oI r) σ := by
  refine am_enter S (by decide) rfl rfl (Nat.le_of_ble_eq_true rfl) ?_
  intro p e s m args below meth c K hX
  have dq := @tat _ _ dt_X5_farmAt
  unfold p_X5_farmAt at h
  show WA p l e _ s m args below meth c D ty ρ N0 2 _ 0 [some (.ref (ρ 14 0)), some (.int a1)] [] σ 0 0
  refine a_iload_n K (dq 0 rfl) rfl rfl ?_
  refine a_if_lt K (tgt := 30) (dq 1 rfl) rfl (fun c1 => ?_) (fun c1 => ?_)
  · have h := ite_t c1 h
    refine a_iconst K (dq 16 rfl) (v := (-1)) rfl ?_
    obtain rfl := Option.some.inj h
    exact a_iret K rfl rfl (dq 17 rfl) (Nat.le_of_ble_eq_true rfl) (Nat.le_of_ble_eq_true rfl) rfl rfl
  · have h := ite_f c1 h
    refine a_iload_n K (dq 2 rfl) rfl rfl ?_
    refine a_aload_n K (dq 3 rfl) rfl rfl ?_
    refine a_get K (T := 14) (i := 0) (k := 1) (v := .int (gI σ 14 0 1)) v_14 rfl rfl in_X5 (Nat.le_of_ble_eq_true rfl) fl_X5_19 rfl (dq 4 rfl) ?_
    refine a_icmp_ge K (tgt := 30) (dq 5 rfl) rfl (fun c2 => ?_) (fun c2 => ?_)
    · have h := ite_t c2 h
      refine a_iconst K (dq 16 rfl) (v := (-1)) rfl ?_
      obtain rfl := Option.some.inj h
      exact a_iret K rfl rfl (dq 17 rfl) (Nat.le_of_ble_eq_true rfl) (Nat.le_of_ble_eq_true rfl) rfl rfl
    · have h := ite_f c2 h
      refine a_iload_n K (dq 6 rfl) rfl rfl ?_
      refine a_aload_n K (dq 7 rfl) rfl rfl ?_
      refine a_get K (T := 14) (i := 0) (k := 0) (v := .ref (ρ 15 0)) v_14 rfl rfl in_X5 (Nat.le_of_ble_eq_true rfl) fl_X5_9 rfl (dq 8 rfl) ?_
      refine a_ilen K (T := 15) (i := 0) (v := 12) v_15 rfl rfl rfl (dq 9 rfl) ?_
      refine a_icmp_ge K (tgt := 30) (dq 10 rfl) rfl (fun c3 => ?_) (fun c3 => ?_)
      · have h := ite_t c3 h
        refine a_iconst K (dq 16 rfl) (v := (-1)) rfl ?_
        obtain rfl := Option.some.inj h
        exact a_iret K rfl rfl (dq 17 rfl) (Nat.le_of_ble_eq_true rfl) (Nat.le_of_ble_eq_true rfl) rfl rfl
      · have h := ite_f c3 h
        refine a_aload_n K (dq 11 rfl) rfl rfl ?_
        refine a_get K (T := 14) (i := 0) (k := 0) (v := .ref (ρ 15 0)) v_14 rfl rfl in_X5 (Nat.le_of_ble_eq_true rfl) fl_X5_9 rfl (dq 12 rfl) ?_
        refine a_iload_n K (dq 13 rfl) rfl rfl ?_
        obtain ⟨c4, h⟩ := ib_some h
        refine a_iald K (T := 15) (i := 0) v_15 rfl rfl c4 (dq 14 rfl) ?_
        refine a_goto K (tgt := 31) (dq 15 rfl) rfl ?_
        obtain rfl := Option.some.inj h
        exact a_iret K rfl rfl (dq 17 rfl) (Nat.le_of_ble_eq_true rfl) (Nat.le_of_ble_eq_true rfl) rfl rfl
def t_X1_tollOf : List (Nat × Instr × Nat) := [(0, .iload_n 1, 1), (1, .ifCond .lt 21, 3), (4, .iload_n 1, 1), (5, .aload_n 0, 1), (6, .getfield 9, 3), (9, .arraylength, 1), (10, .if_icmp .ge 12, 3), (13, .aload_n 0, 1), (14, .getfield 9, 3), (17, .iload_n 1, 1), (18, .iaload, 1), (19, .goto 4, 3), (22, .iconst 0, 1), (23, .ireturn, 1)]
theorem dt_X1_tollOf : tblOK cX1_tollOf t_X1_tollOf = true := by decide +kernel
def p_X1_tollOf (a1 : Int32) (σ : Sg) : Option Int32 :=
  if a1 < 0 then (some 0) else (if 12 ≤ a1 then (some 0) else (if ib a1 12 then (some (gA σ 2 0 a1.toNatClampNeg)) else none))
set_option maxRecDepth 20000 in
set_option maxHeartbeats 1000000 in
theorem s_X1_tollOf {l : Launch} {D : va_G} {ty : Nat → ClassId} {ρ : Nat → Nat → Nat} {N0 : Nat} (S : St l ty ρ N0) (a1 : Int32)  (σ : Sg) (r : Int32) (h : p_X1_tollOf a1 σ = some r) : AMet l D ty ρ N0 yX1_tollOf (Cond.code yX1_tollOf cX1_tollOf 2 (some .int) :: GW) (rmk 1 0 0) [.ref (ρ 1 0), .int a1] σ (oI r) σ := by
  refine am_enter S (by decide) rfl rfl (Nat.le_of_ble_eq_true rfl) ?_
  intro p e s m args below meth c K hX
  have dq := @tat _ _ dt_X1_tollOf
  unfold p_X1_tollOf at h
  show WA p l e _ s m args below meth c D ty ρ N0 2 _ 0 [some (.ref (ρ 1 0)), some (.int a1)] [] σ 0 0
  refine a_iload_n K (dq 0 rfl) rfl rfl ?_
  refine a_if_lt K (tgt := 22) (dq 1 rfl) rfl (fun c1 => ?_) (fun c1 => ?_)
  · have h := ite_t c1 h
    refine a_iconst K (dq 12 rfl) (v := 0) rfl ?_
    obtain rfl := Option.some.inj h
    exact a_iret K rfl rfl (dq 13 rfl) (Nat.le_of_ble_eq_true rfl) (Nat.le_of_ble_eq_true rfl) rfl rfl
  · have h := ite_f c1 h
    refine a_iload_n K (dq 2 rfl) rfl rfl ?_
    refine a_aload_n K (dq 3 rfl) rfl rfl ?_
    refine a_get K (T := 1) (i := 0) (k := 1) (v := .ref (ρ 2 0)) v_1 rfl rfl in_X1 (Nat.le_of_ble_eq_true rfl) fl_X1_9 rfl (dq 4 rfl) ?_
    refine a_ilen K (T := 2) (i := 0) (v := 12) v_2 rfl rfl rfl (dq 5 rfl) ?_
    refine a_icmp_ge K (tgt := 22) (dq 6 rfl) rfl (fun c2 => ?_) (fun c2 => ?_)
    · have h := ite_t c2 h
      refine a_iconst K (dq 12 rfl) (v := 0) rfl ?_
      obtain rfl := Option.some.inj h
      exact a_iret K rfl rfl (dq 13 rfl) (Nat.le_of_ble_eq_true rfl) (Nat.le_of_ble_eq_true rfl) rfl rfl
    · have h := ite_f c2 h
      refine a_aload_n K (dq 7 rfl) rfl rfl ?_
      refine a_get K (T := 1) (i := 0) (k := 1) (v := .ref (ρ 2 0)) v_1 rfl rfl in_X1 (Nat.le_of_ble_eq_true rfl) fl_X1_9 rfl (dq 8 rfl) ?_
      refine a_iload_n K (dq 9 rfl) rfl rfl ?_
      obtain ⟨c3, h⟩ := ib_some h
      refine a_iald K (T := 2) (i := 0) v_2 rfl rfl c3 (dq 10 rfl) ?_
      refine a_goto K (tgt := 23) (dq 11 rfl) rfl ?_
      obtain rfl := Option.some.inj h
      exact a_iret K rfl rfl (dq 13 rfl) (Nat.le_of_ble_eq_true rfl) (Nat.le_of_ble_eq_true rfl) rfl rfl
def t_X1_farmOfDrover : List (Nat × Instr × Nat) := [(0, .iload_n 1, 1), (1, .ifCond .lt 21, 3), (4, .iload_n 1, 1), (5, .aload_n 0, 1), (6, .getfield 21, 3), (9, .arraylength, 1), (10, .if_icmp .ge 12, 3), (13, .aload_n 0, 1), (14, .getfield 21, 3), (17, .iload_n 1, 1), (18, .iaload, 1), (19, .goto 4, 3), (22, .iconst (-1), 1), (23, .ireturn, 1)]
theorem dt_X1_farmOfDrover : tblOK cX1_farmOfDrover t_X1_farmOfDrover = true := by decide +kernel
def p_X1_farmOfDrover (a1 : Int32) (σ : Sg) : Option Int32 :=
  if a1 < 0 then (some (-1)) else (if 3 ≤ a1 then (some (-1)) else (if ib a1 3 then (some (gA σ 5 0 a1.toNatClampNeg)) else none))
set_option maxRecDepth 20000 in
set_option maxHeartbeats 1000000 in
theorem s_X1_farmOfDrover {l : Launch} {D : va_G} {ty : Nat → ClassId} {ρ : Nat → Nat → Nat} {N0 : Nat} (S : St l ty ρ N0) (a1 : Int32)  (σ : Sg) (r : Int32) (h : p_X1_farmOfDrover a1 σ = some r) : AMet l D ty ρ N0 yX1_farmOfDrover (Cond.code yX1_farmOfDrover cX1_farmOfDrover 2 (some .int) :: GW) (rmk 1 0 0) [.ref (ρ 1 0), .int a1] σ (oI r) σ := by
  refine am_enter S (by decide) rfl rfl (Nat.le_of_ble_eq_true rfl) ?_
  intro p e s m args below meth c K hX
  have dq := @tat _ _ dt_X1_farmOfDrover
  unfold p_X1_farmOfDrover at h
  show WA p l e _ s m args below meth c D ty ρ N0 2 _ 0 [some (.ref (ρ 1 0)), some (.int a1)] [] σ 0 0
  refine a_iload_n K (dq 0 rfl) rfl rfl ?_
  refine a_if_lt K (tgt := 22) (dq 1 rfl) rfl (fun c1 => ?_) (fun c1 => ?_)
  · have h := ite_t c1 h
    refine a_iconst K (dq 12 rfl) (v := (-1)) rfl ?_
    obtain rfl := Option.some.inj h
    exact a_iret K rfl rfl (dq 13 rfl) (Nat.le_of_ble_eq_true rfl) (Nat.le_of_ble_eq_true rfl) rfl rfl
  · have h := ite_f c1 h
    refine a_iload_n K (dq 2 rfl) rfl rfl ?_
    refine a_aload_n K (dq 3 rfl) rfl rfl ?_
    refine a_get K (T := 1) (i := 0) (k := 4) (v := .ref (ρ 5 0)) v_1 rfl rfl in_X1 (Nat.le_of_ble_eq_true rfl) fl_X1_21 rfl (dq 4 rfl) ?_
    refine a_ilen K (T := 5) (i := 0) (v := 3) v_5 rfl rfl rfl (dq 5 rfl) ?_
    refine a_icmp_ge K (tgt := 22) (dq 6 rfl) rfl (fun c2 => ?_) (fun c2 => ?_)
    · have h := ite_t c2 h
      refine a_iconst K (dq 12 rfl) (v := (-1)) rfl ?_
      obtain rfl := Option.some.inj h
      exact a_iret K rfl rfl (dq 13 rfl) (Nat.le_of_ble_eq_true rfl) (Nat.le_of_ble_eq_true rfl) rfl rfl
    · have h := ite_f c2 h
      refine a_aload_n K (dq 7 rfl) rfl rfl ?_
      refine a_get K (T := 1) (i := 0) (k := 4) (v := .ref (ρ 5 0)) v_1 rfl rfl in_X1 (Nat.le_of_ble_eq_true rfl) fl_X1_21 rfl (dq 8 rfl) ?_
      refine a_iload_n K (dq 9 rfl) rfl rfl ?_
      obtain ⟨c3, h⟩ := ib_some h
      refine a_iald K (T := 5) (i := 0) v_5 rfl rfl c3 (dq 10 rfl) ?_
      refine a_goto K (tgt := 23) (dq 11 rfl) rfl ?_
      obtain rfl := Option.some.inj h
      exact a_iret K rfl rfl (dq 13 rfl) (Nat.le_of_ble_eq_true rfl) (Nat.le_of_ble_eq_true rfl) rfl rfl
def t_X1_areJoined : List (Nat × Instr × Nat) := [(0, .aload_n 0, 1), (1, .iload_n 1, 1), (2, .invokevirtual 70, 3), (5, .aload_n 0, 1), (6, .iload_n 2, 1), (7, .invokevirtual 70, 3), (10, .if_icmp .ne 7, 3), (13, .iconst 1, 1), (14, .goto 4, 3), (17, .iconst 0, 1), (18, .ireturn, 1)]
theorem dt_X1_areJoined : tblOK cX1_areJoined t_X1_areJoined = true := by decide +kernel
def p_X1_areJoined (a1 : Int32) (a2 : Int32) (σ : Sg) : Option Int32 :=
  (p_X1_rootOf a1 σ).bind fun r1 => (p_X1_rootOf a2 σ).bind fun r2 => if r1 = r2 then (some 1) else (some 0)
set_option maxRecDepth 20000 in
set_option maxHeartbeats 1000000 in
theorem s_X1_areJoined {l : Launch} {D : va_G} {ty : Nat → ClassId} {ρ : Nat → Nat → Nat} {N0 : Nat} (S : St l ty ρ N0) (a1 : Int32) (a2 : Int32)  (σ : Sg) (r : Int32) (h : p_X1_areJoined a1 a2 σ = some r) : AMet l D ty ρ N0 yX1_areJoined (Cond.code yX1_areJoined cX1_areJoined 3 (some .boolean) :: GW) (rmk 3 0 0) [.ref (ρ 1 0), .int a1, .int a2] σ (oI r) σ := by
  refine am_enter S (by decide) rfl rfl (Nat.le_of_ble_eq_true rfl) ?_
  intro p e s m args below meth c K hX
  have dq := @tat _ _ dt_X1_areJoined
  unfold p_X1_areJoined at h
  show WA p l e _ s m args below meth c D ty ρ N0 3 _ 0 [some (.ref (ρ 1 0)), some (.int a1), some (.int a2)] [] σ 0 0
  refine a_aload_n K (dq 0 rfl) rfl rfl ?_
  refine a_iload_n K (dq 1 rfl) rfl rfl ?_
  obtain ⟨r1, h1, h⟩ := bnd h
  refine a_callVi K (s_X1_rootOf S a1  σ r1 h1) v_1 rfl rfl cw_X1_rootOf ml_X1_70 (by decide) rfl (rest := []) rfl (Nat.le_of_ble_eq_true rfl) (dq 2 rfl) (by decide) ?_
  refine a_aload_n K (dq 3 rfl) rfl rfl ?_
  refine a_iload_n K (dq 4 rfl) rfl rfl ?_
  obtain ⟨r2, h2, h⟩ := bnd h
  refine a_callVi K (s_X1_rootOf S a2  σ r2 h2) v_1 rfl rfl cw_X1_rootOf ml_X1_70 (by decide) rfl (rest := [.int r1]) rfl (Nat.le_of_ble_eq_true rfl) (dq 5 rfl) (by decide) ?_
  refine a_icmp_ne K (tgt := 17) (dq 6 rfl) rfl (fun c3 => ?_) (fun c3 => ?_)
  · have h := ite_f c3 h
    refine a_iconst K (dq 9 rfl) (v := 0) rfl ?_
    obtain rfl := Option.some.inj h
    exact a_iret K rfl rfl (dq 10 rfl) (Nat.le_of_ble_eq_true rfl) (Nat.le_of_ble_eq_true rfl) rfl rfl
  · have h := ite_t c3 h
    refine a_iconst K (dq 7 rfl) (v := 1) rfl ?_
    refine a_goto K (tgt := 18) (dq 8 rfl) rfl ?_
    obtain rfl := Option.some.inj h
    exact a_iret K rfl rfl (dq 10 rfl) (Nat.le_of_ble_eq_true rfl) (Nat.le_of_ble_eq_true rfl) rfl rfl
def t_X3_keepCommand : List (Nat × Instr × Nat) := [(0, .aload_n 0, 1), (1, .iload_n 1, 1), (2, .putfield 16, 3), (5, .return_, 1)]
theorem dt_X3_keepCommand : tblOK cX3_keepCommand t_X3_keepCommand = true := by decide +kernel
def p_X3_keepCommand (a1 : Int32) (σ : Sg) : Option Sg :=
  some (sI σ 8 0 2 a1)
set_option maxRecDepth 20000 in
set_option maxHeartbeats 1000000 in
theorem s_X3_keepCommand {l : Launch} {D : va_G} {ty : Nat → ClassId} {ρ : Nat → Nat → Nat} {N0 : Nat} (S : St l ty ρ N0) (a1 : Int32)  (σ : Sg) (r : Sg) (h : p_X3_keepCommand a1 σ = some r) : AMet l D ty ρ N0 yX3_keepCommand (Cond.code yX3_keepCommand cX3_keepCommand 2 none :: GW) (rmk 1 0 0) [.ref (ρ 8 0), .int a1] σ (.inl none) r := by
  refine am_enter S (by decide) rfl rfl (Nat.le_of_ble_eq_true rfl) ?_
  intro p e s m args below meth c K hX
  have dq := @tat _ _ dt_X3_keepCommand
  unfold p_X3_keepCommand at h
  show WA p l e _ s m args below meth c D ty ρ N0 2 _ 0 [some (.ref (ρ 8 0)), some (.int a1)] [] σ 0 0
  refine a_aload_n K (dq 0 rfl) rfl rfl ?_
  refine a_iload_n K (dq 1 rfl) rfl rfl ?_
  refine a_put K (T := 8) (i := 0) (k := 2) v_8 rfl rfl in_X3 tyX3 tyX3_ok nmX3 (Nat.le_of_ble_eq_true rfl) fl_X3_16 rfl rfl (tyX3_ok 2 (by decide)) rfl rfl (dq 2 rfl) ?_
  obtain rfl := Option.some.inj h
  exact a_vret K rfl (dq 3 rfl) (Nat.le_of_ble_eq_true rfl) (Nat.le_of_ble_eq_true rfl) rfl rfl
def t_X1_setParent : List (Nat × Instr × Nat) := [(0, .iload_n 1, 1), (1, .ifCond .lt 19, 3), (4, .iload_n 1, 1), (5, .aload_n 0, 1), (6, .getfield 15, 3), (9, .arraylength, 1), (10, .if_icmp .ge 10, 3), (13, .aload_n 0, 1), (14, .getfield 15, 3), (17, .iload_n 1, 1), (18, .iload_n 2, 1), (19, .iastore, 1), (20, .return_, 1)]
theorem dt_X1_setParent : tblOK cX1_setParent t_X1_setParent = true := by decide +kernel
def p_X1_setParent (a1 : Int32) (a2 : Int32) (σ : Sg) : Option Sg :=
  if a1 < 0 then (some σ) else (if 12 ≤ a1 then (some σ) else (if ib a1 12 then (some (sA σ 3 0 a1.toNatClampNeg a2)) else none))
set_option maxRecDepth 20000 in
set_option maxHeartbeats 1000000 in
theorem s_X1_setParent {l : Launch} {D : va_G} {ty : Nat → ClassId} {ρ : Nat → Nat → Nat} {N0 : Nat} (S : St l ty ρ N0) (a1 : Int32) (a2 : Int32)  (σ : Sg) (r : Sg) (h : p_X1_setParent a1 a2 σ = some r) : AMet l D ty ρ N0 yX1_setParent (Cond.code yX1_setParent cX1_setParent 3 none :: GW) (rmk 1 0 0) [.ref (ρ 1 0), .int a1, .int a2] σ (.inl none) r := by
  refine am_enter S (by decide) rfl rfl (Nat.le_of_ble_eq_true rfl) ?_
  intro p e s m args below meth c K hX
  have dq := @tat _ _ dt_X1_setParent
  unfold p_X1_setParent at h
  show WA p l e _ s m args below meth c D ty ρ N0 3 _ 0 [some (.ref (ρ 1 0)), some (.int a1), some (.int a2)] [] σ 0 0
  refine a_iload_n K (dq 0 rfl) rfl rfl ?_
  refine a_if_lt K (tgt := 20) (dq 1 rfl) rfl (fun c1 => ?_) (fun c1 => ?_)
  · have h := ite_t c1 h
    obtain rfl := Option.some.inj h
    exact a_vret K rfl (dq 12 rfl) (Nat.le_of_ble_eq_true rfl) (Nat.le_of_ble_eq_true rfl) rfl rfl
  · have h := ite_f c1 h
    refine a_iload_n K (dq 2 rfl) rfl rfl ?_
    refine a_aload_n K (dq 3 rfl) rfl rfl ?_
    refine a_get K (T := 1) (i := 0) (k := 2) (v := .ref (ρ 3 0)) v_1 rfl rfl in_X1 (Nat.le_of_ble_eq_true rfl) fl_X1_15 rfl (dq 4 rfl) ?_
    refine a_ilen K (T := 3) (i := 0) (v := 12) v_3 rfl rfl rfl (dq 5 rfl) ?_
    refine a_icmp_ge K (tgt := 20) (dq 6 rfl) rfl (fun c2 => ?_) (fun c2 => ?_)
    · have h := ite_t c2 h
      obtain rfl := Option.some.inj h
      exact a_vret K rfl (dq 12 rfl) (Nat.le_of_ble_eq_true rfl) (Nat.le_of_ble_eq_true rfl) rfl rfl
    · have h := ite_f c2 h
      refine a_aload_n K (dq 7 rfl) rfl rfl ?_
      refine a_get K (T := 1) (i := 0) (k := 2) (v := .ref (ρ 3 0)) v_1 rfl rfl in_X1 (Nat.le_of_ble_eq_true rfl) fl_X1_15 rfl (dq 8 rfl) ?_
      refine a_iload_n K (dq 9 rfl) rfl rfl ?_
      refine a_iload_n K (dq 10 rfl) rfl rfl ?_
      obtain ⟨c3, h⟩ := ib_some h
      refine a_iast K (T := 3) (i := 0) v_3 rfl rfl c3 (dq 11 rfl) ?_
      obtain rfl := Option.some.inj h
      exact a_vret K rfl (dq 12 rfl) (Nat.le_of_ble_eq_true rfl) (Nat.le_of_ble_eq_true rfl) rfl rfl
def t_X1_prefer : List (Nat × Instr × Nat) := [(0, .iload_n 1, 1), (1, .ifCond .lt 19, 3), (4, .iload_n 1, 1), (5, .aload_n 0, 1), (6, .getfield 18, 3), (9, .arraylength, 1), (10, .if_icmp .ge 10, 3), (13, .aload_n 0, 1), (14, .getfield 18, 3), (17, .iload_n 1, 1), (18, .iload_n 2, 1), (19, .iastore, 1), (20, .return_, 1)]
theorem dt_X1_prefer : tblOK cX1_prefer t_X1_prefer = true := by decide +kernel
def p_X1_prefer (a1 : Int32) (a2 : Int32) (σ : Sg) : Option Sg :=
  if a1 < 0 then (some σ) else (if 12 ≤ a1 then (some σ) else (if ib a1 12 then (some (sA σ 4 0 a1.toNatClampNeg a2)) else none))
set_option maxRecDepth 20000 in
set_option maxHeartbeats 1000000 in
theorem s_X1_prefer {l : Launch} {D : va_G} {ty : Nat → ClassId} {ρ : Nat → Nat → Nat} {N0 : Nat} (S : St l ty ρ N0) (a1 : Int32) (a2 : Int32)  (σ : Sg) (r : Sg) (h : p_X1_prefer a1 a2 σ = some r) : AMet l D ty ρ N0 yX1_prefer (Cond.code yX1_prefer cX1_prefer 3 none :: GW) (rmk 1 0 0) [.ref (ρ 1 0), .int a1, .int a2] σ (.inl none) r := by
  refine am_enter S (by decide) rfl rfl (Nat.le_of_ble_eq_true rfl) ?_
  intro p e s m args below meth c K hX
  have dq := @tat _ _ dt_X1_prefer
  unfold p_X1_prefer at h
  show WA p l e _ s m args below meth c D ty ρ N0 3 _ 0 [some (.ref (ρ 1 0)), some (.int a1), some (.int a2)] [] σ 0 0
  refine a_iload_n K (dq 0 rfl) rfl rfl ?_
  refine a_if_lt K (tgt := 20) (dq 1 rfl) rfl (fun c1 => ?_) (fun c1 => ?_)
  · have h := ite_t c1 h
    obtain rfl := Option.some.inj h
    exact a_vret K rfl (dq 12 rfl) (Nat.le_of_ble_eq_true rfl) (Nat.le_of_ble_eq_true rfl) rfl rfl
  · have h := ite_f c1 h
    refine a_iload_n K (dq 2 rfl) rfl rfl ?_
    refine a_aload_n K (dq 3 rfl) rfl rfl ?_
    refine a_get K (T := 1) (i := 0) (k := 3) (v := .ref (ρ 4 0)) v_1 rfl rfl in_X1 (Nat.le_of_ble_eq_true rfl) fl_X1_18 rfl (dq 4 rfl) ?_
    refine a_ilen K (T := 4) (i := 0) (v := 12) v_4 rfl rfl rfl (dq 5 rfl) ?_
    refine a_icmp_ge K (tgt := 20) (dq 6 rfl) rfl (fun c2 => ?_) (fun c2 => ?_)
    · have h := ite_t c2 h
      obtain rfl := Option.some.inj h
      exact a_vret K rfl (dq 12 rfl) (Nat.le_of_ble_eq_true rfl) (Nat.le_of_ble_eq_true rfl) rfl rfl
    · have h := ite_f c2 h
      refine a_aload_n K (dq 7 rfl) rfl rfl ?_
      refine a_get K (T := 1) (i := 0) (k := 3) (v := .ref (ρ 4 0)) v_1 rfl rfl in_X1 (Nat.le_of_ble_eq_true rfl) fl_X1_18 rfl (dq 8 rfl) ?_
      refine a_iload_n K (dq 9 rfl) rfl rfl ?_
      refine a_iload_n K (dq 10 rfl) rfl rfl ?_
      obtain ⟨c3, h⟩ := ib_some h
      refine a_iast K (T := 4) (i := 0) v_4 rfl rfl c3 (dq 11 rfl) ?_
      obtain rfl := Option.some.inj h
      exact a_vret K rfl (dq 12 rfl) (Nat.le_of_ble_eq_true rfl) (Nat.le_of_ble_eq_true rfl) rfl rfl
def t_X1_childOfTrack : List (Nat × Instr × Nat) := [(0, .aload_n 0, 1), (1, .iload_n 1, 1), (2, .invokevirtual 62, 3), (5, .iload_n 2, 1), (6, .if_icmp .ne 7, 3), (9, .iload_n 1, 1), (10, .goto 4, 3), (13, .iload_n 2, 1), (14, .ireturn, 1)]
theorem dt_X1_childOfTrack : tblOK cX1_childOfTrack t_X1_childOfTrack = true := by decide +kernel
def p_X1_childOfTrack (a1 : Int32) (a2 : Int32) (σ : Sg) : Option Int32 :=
  (p_X1_parentOf a1 σ).bind fun r1 => if r1 = a2 then (some a1) else (some a2)
set_option maxRecDepth 20000 in
set_option maxHeartbeats 1000000 in
theorem s_X1_childOfTrack {l : Launch} {D : va_G} {ty : Nat → ClassId} {ρ : Nat → Nat → Nat} {N0 : Nat} (S : St l ty ρ N0) (a1 : Int32) (a2 : Int32)  (σ : Sg) (r : Int32) (h : p_X1_childOfTrack a1 a2 σ = some r) : AMet l D ty ρ N0 yX1_childOfTrack (Cond.code yX1_childOfTrack cX1_childOfTrack 3 (some .int) :: GW) (rmk 2 0 0) [.ref (ρ 1 0), .int a1, .int a2] σ (oI r) σ := by
  refine am_enter S (by decide) rfl rfl (Nat.le_of_ble_eq_true rfl) ?_
  intro p e s m args below meth c K hX
  have dq := @tat _ _ dt_X1_childOfTrack
  unfold p_X1_childOfTrack at h
  show WA p l e _ s m args below meth c D ty ρ N0 3 _ 0 [some (.ref (ρ 1 0)), some (.int a1), some (.int a2)] [] σ 0 0
  refine a_aload_n K (dq 0 rfl) rfl rfl ?_
  refine a_iload_n K (dq 1 rfl) rfl rfl ?_
  obtain ⟨r1, h1, h⟩ := bnd h
  refine a_callVi K (s_X1_parentOf S a1  σ r1 h1) v_1 rfl rfl cw_X1_parentOf ml_X1_62 (by decide) rfl (rest := []) rfl (Nat.le_of_ble_eq_true rfl) (dq 2 rfl) (by decide) ?_
  refine a_iload_n K (dq 3 rfl) rfl rfl ?_
  refine a_icmp_ne K (tgt := 13) (dq 4 rfl) rfl (fun c2 => ?_) (fun c2 => ?_)
  · have h := ite_f c2 h
    refine a_iload_n K (dq 7 rfl) rfl rfl ?_
    obtain rfl := Option.some.inj h
    exact a_iret K rfl rfl (dq 8 rfl) (Nat.le_of_ble_eq_true rfl) (Nat.le_of_ble_eq_true rfl) rfl rfl
  · have h := ite_t c2 h
    refine a_iload_n K (dq 5 rfl) rfl rfl ?_
    refine a_goto K (tgt := 14) (dq 6 rfl) rfl ?_
    obtain rfl := Option.some.inj h
    exact a_iret K rfl rfl (dq 8 rfl) (Nat.le_of_ble_eq_true rfl) (Nat.le_of_ble_eq_true rfl) rfl rfl
def t_X1_preferredOf : List (Nat × Instr × Nat) := [(0, .iload_n 1, 1), (1, .ifCond .lt 21, 3), (4, .iload_n 1, 1), (5, .aload_n 0, 1), (6, .getfield 18, 3), (9, .arraylength, 1), (10, .if_icmp .ge 12, 3), (13, .aload_n 0, 1), (14, .getfield 18, 3), (17, .iload_n 1, 1), (18, .iaload, 1), (19, .goto 4, 3), (22, .iconst (-1), 1), (23, .ireturn, 1)]
theorem dt_X1_preferredOf : tblOK cX1_preferredOf t_X1_preferredOf = true := by decide +kernel
def p_X1_preferredOf (a1 : Int32) (σ : Sg) : Option Int32 :=
  if a1 < 0 then (some (-1)) else (if 12 ≤ a1 then (some (-1)) else (if ib a1 12 then (some (gA σ 4 0 a1.toNatClampNeg)) else none))
set_option maxRecDepth 20000 in
set_option maxHeartbeats 1000000 in
theorem s_X1_preferredOf {l : Launch} {D : va_G} {ty : Nat → ClassId} {ρ : Nat → Nat → Nat} {N0 : Nat} (S : St l ty ρ N0) (a1 : Int32)  (σ : Sg) (r : Int32) (h : p_X1_preferredOf a1 σ = some r) : AMet l D ty ρ N0 yX1_preferredOf (Cond.code yX1_preferredOf cX1_preferredOf 2 (some .int) :: GW) (rmk 1 0 0) [.ref (ρ 1 0), .int a1] σ (oI r) σ := by
  refine am_enter S (by decide) rfl rfl (Nat.le_of_ble_eq_true rfl) ?_
  intro p e s m args below meth c K hX
  have dq := @tat _ _ dt_X1_preferredOf
  unfold p_X1_preferredOf at h
  show WA p l e _ s m args below meth c D ty ρ N0 2 _ 0 [some (.ref (ρ 1 0)), some (.int a1)] [] σ 0 0
  refine a_iload_n K (dq 0 rfl) rfl rfl ?_
  refine a_if_lt K (tgt := 22) (dq 1 rfl) rfl (fun c1 => ?_) (fun c1 => ?_)
  · have h := ite_t c1 h
    refine a_iconst K (dq 12 rfl) (v := (-1)) rfl ?_
    obtain rfl := Option.some.inj h
    exact a_iret K rfl rfl (dq 13 rfl) (Nat.le_of_ble_eq_true rfl) (Nat.le_of_ble_eq_true rfl) rfl rfl
  · have h := ite_f c1 h
    refine a_iload_n K (dq 2 rfl) rfl rfl ?_
    refine a_aload_n K (dq 3 rfl) rfl rfl ?_
    refine a_get K (T := 1) (i := 0) (k := 3) (v := .ref (ρ 4 0)) v_1 rfl rfl in_X1 (Nat.le_of_ble_eq_true rfl) fl_X1_18 rfl (dq 4 rfl) ?_
    refine a_ilen K (T := 4) (i := 0) (v := 12) v_4 rfl rfl rfl (dq 5 rfl) ?_
    refine a_icmp_ge K (tgt := 22) (dq 6 rfl) rfl (fun c2 => ?_) (fun c2 => ?_)
    · have h := ite_t c2 h
      refine a_iconst K (dq 12 rfl) (v := (-1)) rfl ?_
      obtain rfl := Option.some.inj h
      exact a_iret K rfl rfl (dq 13 rfl) (Nat.le_of_ble_eq_true rfl) (Nat.le_of_ble_eq_true rfl) rfl rfl
    · have h := ite_f c2 h
      refine a_aload_n K (dq 7 rfl) rfl rfl ?_
      refine a_get K (T := 1) (i := 0) (k := 3) (v := .ref (ρ 4 0)) v_1 rfl rfl in_X1 (Nat.le_of_ble_eq_true rfl) fl_X1_18 rfl (dq 8 rfl) ?_
      refine a_iload_n K (dq 9 rfl) rfl rfl ?_
      obtain ⟨c3, h⟩ := ib_some h
      refine a_iald K (T := 4) (i := 0) v_4 rfl rfl c3 (dq 10 rfl) ?_
      refine a_goto K (tgt := 23) (dq 11 rfl) rfl ?_
      obtain rfl := Option.some.inj h
      exact a_iret K rfl rfl (dq 13 rfl) (Nat.le_of_ble_eq_true rfl) (Nat.le_of_ble_eq_true rfl) rfl rfl
def t_X5_preferencesToChange : List (Nat × Instr × Nat) := [(0, .iconst 0, 1), (1, .istore_n 2, 1), (2, .iconst 0, 1), (3, .istore_n 3, 1), (4, .iload_n 3, 1), (5, .aload_n 0, 1), (6, .getfield 19, 3), (9, .if_icmp .ge 31, 3), (12, .aload_n 1, 1), (13, .aload_n 0, 1), (14, .iload_n 3, 1), (15, .invokevirtual 31, 3), (18, .invokevirtual 37, 3), (21, .aload_n 0, 1), (22, .iload_n 3, 1), (23, .iconst 1, 1), (24, .iadd, 1), (25, .invokevirtual 31, 3), (28, .if_icmp .eq 6, 3), (31, .iinc 2 1, 3), (34, .iinc 3 1, 3), (37, .goto (-33), 3), (40, .iload_n 2, 1), (41, .ireturn, 1)]
theorem dt_X5_preferencesToChange : tblOK cX5_preferencesToChange t_X5_preferencesToChange = true := by decide +kernel
def p_X5_preferencesToChange_L4  (σ : Sg) : Nat → Int32 → Int32 → Option Int32
  | 0, _, _ => none
  | n + 1, v2, v3 => if (gI σ 14 0 1) ≤ v3 then (some v2) else ((p_X5_farmAt v3 σ).bind fun r2 => (p_X1_preferredOf r2 σ).bind fun r3 => (p_X5_farmAt (v3 + 1) σ).bind fun r4 => if r3 = r4 then (p_X5_preferencesToChange_L4 σ n v2 (v3 + 1)) else (p_X5_preferencesToChange_L4 σ n (v2 + 1) (v3 + 1)))
def p_X5_preferencesToChange  (σ : Sg) : Option Int32 :=
  p_X5_preferencesToChange_L4 σ 400 0 0
set_option maxRecDepth 20000 in
set_option maxHeartbeats 1000000 in
theorem s_X5_preferencesToChange_L4 {l : Launch} {D : va_G} {ty : Nat → ClassId} {ρ : Nat → Nat → Nat} {N0 : Nat} (S : St l ty ρ N0)   (σ : Sg) : ∀ (n : Nat) (v2 : Int32) (v3 : Int32) (r : Int32) (h : p_X5_preferencesToChange_L4  σ n v2 v3 = some r) {p : Program} {e : Env} {s : State} {m : MethodId} {args : Array Value} {below : List Frame} {meth : Method} {c : Code} (K : Cx p l s m args meth c cX5_preferencesToChange 4 RX5 (some .int) D ty ρ N0) (hX : ∀ x ∈ c.exceptionTable.toList, False), WA p l e (rmk 2 0 0) s m args below meth c D ty ρ N0 4 (vx_MQ below (oQ D ty ρ N0 (oI r) σ) (oX D ty ρ N0 (oI r) σ) args s 0 0 (fun q => N0 ≤ q)) 4 [some (.ref (ρ 14 0)), some (.ref (ρ 1 0)), some (.int v2), some (.int v3)] [] σ 0 0 := by
  intro n
  induction n with
  | zero =>
    intro v2 v3 r h
    simp only [p_X5_preferencesToChange_L4] at h
    cases h
  | succ n ih =>
    intro v2 v3 r h p e s m args below meth c K hX
    have dq := @tat _ _ dt_X5_preferencesToChange
    rw [p_X5_preferencesToChange_L4] at h
    refine a_iload_n K (dq 4 rfl) rfl rfl ?_
    refine a_aload_n K (dq 5 rfl) rfl rfl ?_
    refine a_get K (T := 14) (i := 0) (k := 1) (v := .int (gI σ 14 0 1)) v_14 rfl rfl in_X5 (Nat.le_of_ble_eq_true rfl) fl_X5_19 rfl (dq 6 rfl) ?_
    refine a_icmp_ge K (tgt := 40) (dq 7 rfl) rfl (fun c1 => ?_) (fun c1 => ?_)
    · have h := ite_t c1 h
      refine a_iload_n K (dq 22 rfl) rfl rfl ?_
      obtain rfl := Option.some.inj h
      exact a_iret K rfl rfl (dq 23 rfl) (Nat.le_of_ble_eq_true rfl) (Nat.le_of_ble_eq_true rfl) rfl rfl
    · have h := ite_f c1 h
      refine a_aload_n K (dq 8 rfl) rfl rfl ?_
      refine a_aload_n K (dq 9 rfl) rfl rfl ?_
      refine a_iload_n K (dq 10 rfl) rfl rfl ?_
      obtain ⟨r2, h2, h⟩ := bnd h
      refine a_callVi K (s_X5_farmAt S v3  σ r2 h2) v_14 rfl rfl cw_X5_farmAt ml_X5_31 (by decide) rfl (rest := [.ref (ρ 1 0)]) rfl (Nat.le_of_ble_eq_true rfl) (dq 11 rfl) (by decide) ?_
      obtain ⟨r3, h3, h⟩ := bnd h
      refine a_callVi K (s_X1_preferredOf S r2  σ r3 h3) v_1 rfl rfl cw_X1_preferredOf ml_X5_37 (by decide) rfl (rest := []) rfl (Nat.le_of_ble_eq_true rfl) (dq 12 rfl) (by decide) ?_
      refine a_aload_n K (dq 13 rfl) rfl rfl ?_
      refine a_iload_n K (dq 14 rfl) rfl rfl ?_
      refine a_iconst K (dq 15 rfl) (v := 1) rfl ?_
      refine a_iadd K (dq 16 rfl) ?_
      obtain ⟨r4, h4, h⟩ := bnd h
      refine a_callVi K (s_X5_farmAt S (v3 + 1)  σ r4 h4) v_14 rfl rfl cw_X5_farmAt ml_X5_31 (by decide) rfl (rest := [.int r3]) rfl (Nat.le_of_ble_eq_true rfl) (dq 17 rfl) (by decide) ?_
      refine a_icmp_eq K (tgt := 34) (dq 18 rfl) rfl (fun c5 => ?_) (fun c5 => ?_)
      · have h := ite_t c5 h
        refine a_iinc K (dq 20 rfl) rfl (v := (v3 + 1)) rfl (Nat.le_of_ble_eq_true rfl) (ls' := [some (.ref (ρ 14 0)), some (.ref (ρ 1 0)), some (.int v2), some (.int (v3 + 1))]) rfl ?_
        refine a_goto K (tgt := 4) (dq 21 rfl) rfl ?_
        exact ih v2 (v3 + 1) r h K hX
      · have h := ite_f c5 h
        refine a_iinc K (dq 19 rfl) rfl (v := (v2 + 1)) rfl (Nat.le_of_ble_eq_true rfl) (ls' := [some (.ref (ρ 14 0)), some (.ref (ρ 1 0)), some (.int (v2 + 1)), some (.int v3)]) rfl ?_
        refine a_iinc K (dq 20 rfl) rfl (v := (v3 + 1)) rfl (Nat.le_of_ble_eq_true rfl) (ls' := [some (.ref (ρ 14 0)), some (.ref (ρ 1 0)), some (.int (v2 + 1)), some (.int (v3 + 1))]) rfl ?_
        refine a_goto K (tgt := 4) (dq 21 rfl) rfl ?_
        exact ih (v2 + 1) (v3 + 1) r h K hX
set_option maxRecDepth 20000 in
set_option maxHeartbeats 1000000 in
theorem s_X5_preferencesToChange {l : Launch} {D : va_G} {ty : Nat → ClassId} {ρ : Nat → Nat → Nat} {N0 : Nat} (S : St l ty ρ N0)   (σ : Sg) (r : Int32) (h : p_X5_preferencesToChange  σ = some r) : AMet l D ty ρ N0 yX5_preferencesToChange (Cond.code yX5_preferencesToChange cX5_preferencesToChange 4 (some .int) :: GW) (rmk 2 0 0) [.ref (ρ 14 0), .ref (ρ 1 0)] σ (oI r) σ := by
  refine am_enter S (by decide) rfl rfl (Nat.le_of_ble_eq_true rfl) ?_
  intro p e s m args below meth c K hX
  have dq := @tat _ _ dt_X5_preferencesToChange
  unfold p_X5_preferencesToChange at h
  show WA p l e _ s m args below meth c D ty ρ N0 4 _ 0 [some (.ref (ρ 14 0)), some (.ref (ρ 1 0)), none, none] [] σ 0 0
  refine a_iconst K (dq 0 rfl) (v := 0) rfl ?_
  refine a_istore_n K (dq 1 rfl) rfl (Nat.le_of_ble_eq_true rfl) (ls' := [some (.ref (ρ 14 0)), some (.ref (ρ 1 0)), some (.int 0), none]) rfl ?_
  refine a_iconst K (dq 2 rfl) (v := 0) rfl ?_
  refine a_istore_n K (dq 3 rfl) rfl (Nat.le_of_ble_eq_true rfl) (ls' := [some (.ref (ρ 14 0)), some (.ref (ρ 1 0)), some (.int 0), some (.int 0)]) rfl ?_
  exact s_X5_preferencesToChange_L4 S   σ 400 0 0 r h K hX
def t_X1_countExposing : List (Nat × Instr × Nat) := [(0, .aload_n 0, 1), (1, .dup, 1), (2, .getfield 41, 3), (5, .iconst 1, 1), (6, .iadd, 1), (7, .putfield 41, 3), (10, .aload_n 0, 1), (11, .dup, 1), (12, .getfield 38, 3), (15, .iload_n 1, 1), (16, .iadd, 1), (17, .putfield 38, 3), (20, .return_, 1)]
theorem dt_X1_countExposing : tblOK cX1_countExposing t_X1_countExposing = true := by decide +kernel
def p_X1_countExposing (a1 : Int32) (σ : Sg) : Option Sg :=
  some (sI (sI σ 1 0 6 ((gI σ 1 0 6) + 1)) 1 0 5 ((gI (sI σ 1 0 6 ((gI σ 1 0 6) + 1)) 1 0 5) + a1))
set_option maxRecDepth 20000 in
set_option maxHeartbeats 1000000 in
theorem s_X1_countExposing {l : Launch} {D : va_G} {ty : Nat → ClassId} {ρ : Nat → Nat → Nat} {N0 : Nat} (S : St l ty ρ N0) (a1 : Int32)  (σ : Sg) (r : Sg) (h : p_X1_countExposing a1 σ = some r) : AMet l D ty ρ N0 yX1_countExposing (Cond.code yX1_countExposing cX1_countExposing 2 none :: GW) (rmk 1 0 0) [.ref (ρ 1 0), .int a1] σ (.inl none) r := by
  refine am_enter S (by decide) rfl rfl (Nat.le_of_ble_eq_true rfl) ?_
  intro p e s m args below meth c K hX
  have dq := @tat _ _ dt_X1_countExposing
  unfold p_X1_countExposing at h
  show WA p l e _ s m args below meth c D ty ρ N0 2 _ 0 [some (.ref (ρ 1 0)), some (.int a1)] [] σ 0 0
  refine a_aload_n K (dq 0 rfl) rfl rfl ?_
  refine a_dup K (dq 1 rfl) rfl ?_
  refine a_get K (T := 1) (i := 0) (k := 6) (v := .int (gI σ 1 0 6)) v_1 rfl rfl in_X1 (Nat.le_of_ble_eq_true rfl) fl_X1_41 rfl (dq 2 rfl) ?_
  refine a_iconst K (dq 3 rfl) (v := 1) rfl ?_
  refine a_iadd K (dq 4 rfl) ?_
  refine a_put K (T := 1) (i := 0) (k := 6) v_1 rfl rfl in_X1 tyX1 tyX1_ok nmX1 (Nat.le_of_ble_eq_true rfl) fl_X1_41 rfl rfl (tyX1_ok 6 (by decide)) rfl rfl (dq 5 rfl) ?_
  refine a_aload_n K (dq 6 rfl) rfl rfl ?_
  refine a_dup K (dq 7 rfl) rfl ?_
  refine a_get K (T := 1) (i := 0) (k := 5) (v := .int (gI (sI σ 1 0 6 ((gI σ 1 0 6) + 1)) 1 0 5)) v_1 rfl rfl in_X1 (Nat.le_of_ble_eq_true rfl) fl_X1_38 rfl (dq 8 rfl) ?_
  refine a_iload_n K (dq 9 rfl) rfl rfl ?_
  refine a_iadd K (dq 10 rfl) ?_
  refine a_put K (T := 1) (i := 0) (k := 5) v_1 rfl rfl in_X1 tyX1 tyX1_ok nmX1 (Nat.le_of_ble_eq_true rfl) fl_X1_38 rfl rfl (tyX1_ok 5 (by decide)) rfl rfl (dq 11 rfl) ?_
  obtain rfl := Option.some.inj h
  exact a_vret K rfl (dq 12 rfl) (Nat.le_of_ble_eq_true rfl) (Nat.le_of_ble_eq_true rfl) rfl rfl
def t_X1_chargeMore : List (Nat × Instr × Nat) := [(0, .iload_n 1, 1), (1, .ifCond .lt 22, 3), (4, .iload_n 1, 1), (5, .aload_n 0, 1), (6, .getfield 9, 3), (9, .arraylength, 1), (10, .if_icmp .ge 13, 3), (13, .aload_n 0, 1), (14, .getfield 9, 3), (17, .iload_n 1, 1), (18, .dup2, 1), (19, .iaload, 1), (20, .iload_n 2, 1), (21, .iadd, 1), (22, .iastore, 1), (23, .return_, 1)]
theorem dt_X1_chargeMore : tblOK cX1_chargeMore t_X1_chargeMore = true := by decide +kernel
def p_X1_chargeMore (a1 : Int32) (a2 : Int32) (σ : Sg) : Option Sg :=
  if a1 < 0 then (some σ) else (if 12 ≤ a1 then (some σ) else (if ib a1 12 then (if ib a1 12 then (some (sA σ 2 0 a1.toNatClampNeg ((gA σ 2 0 a1.toNatClampNeg) + a2))) else none) else none))
set_option maxRecDepth 20000 in
set_option maxHeartbeats 1000000 in
theorem s_X1_chargeMore {l : Launch} {D : va_G} {ty : Nat → ClassId} {ρ : Nat → Nat → Nat} {N0 : Nat} (S : St l ty ρ N0) (a1 : Int32) (a2 : Int32)  (σ : Sg) (r : Sg) (h : p_X1_chargeMore a1 a2 σ = some r) : AMet l D ty ρ N0 yX1_chargeMore (Cond.code yX1_chargeMore cX1_chargeMore 3 none :: GW) (rmk 1 0 0) [.ref (ρ 1 0), .int a1, .int a2] σ (.inl none) r := by
  refine am_enter S (by decide) rfl rfl (Nat.le_of_ble_eq_true rfl) ?_
  intro p e s m args below meth c K hX
  have dq := @tat _ _ dt_X1_chargeMore
  unfold p_X1_chargeMore at h
  show WA p l e _ s m args below meth c D ty ρ N0 3 _ 0 [some (.ref (ρ 1 0)), some (.int a1), some (.int a2)] [] σ 0 0
  refine a_iload_n K (dq 0 rfl) rfl rfl ?_
  refine a_if_lt K (tgt := 23) (dq 1 rfl) rfl (fun c1 => ?_) (fun c1 => ?_)
  · have h := ite_t c1 h
    obtain rfl := Option.some.inj h
    exact a_vret K rfl (dq 15 rfl) (Nat.le_of_ble_eq_true rfl) (Nat.le_of_ble_eq_true rfl) rfl rfl
  · have h := ite_f c1 h
    refine a_iload_n K (dq 2 rfl) rfl rfl ?_
    refine a_aload_n K (dq 3 rfl) rfl rfl ?_
    refine a_get K (T := 1) (i := 0) (k := 1) (v := .ref (ρ 2 0)) v_1 rfl rfl in_X1 (Nat.le_of_ble_eq_true rfl) fl_X1_9 rfl (dq 4 rfl) ?_
    refine a_ilen K (T := 2) (i := 0) (v := 12) v_2 rfl rfl rfl (dq 5 rfl) ?_
    refine a_icmp_ge K (tgt := 23) (dq 6 rfl) rfl (fun c2 => ?_) (fun c2 => ?_)
    · have h := ite_t c2 h
      obtain rfl := Option.some.inj h
      exact a_vret K rfl (dq 15 rfl) (Nat.le_of_ble_eq_true rfl) (Nat.le_of_ble_eq_true rfl) rfl rfl
    · have h := ite_f c2 h
      refine a_aload_n K (dq 7 rfl) rfl rfl ?_
      refine a_get K (T := 1) (i := 0) (k := 1) (v := .ref (ρ 2 0)) v_1 rfl rfl in_X1 (Nat.le_of_ble_eq_true rfl) fl_X1_9 rfl (dq 8 rfl) ?_
      refine a_iload_n K (dq 9 rfl) rfl rfl ?_
      refine a_dup2 K (dq 10 rfl) rfl rfl ?_
      obtain ⟨c3, h⟩ := ib_some h
      refine a_iald K (T := 2) (i := 0) v_2 rfl rfl c3 (dq 11 rfl) ?_
      refine a_iload_n K (dq 12 rfl) rfl rfl ?_
      refine a_iadd K (dq 13 rfl) ?_
      obtain ⟨c4, h⟩ := ib_some h
      refine a_iast K (T := 2) (i := 0) v_2 rfl rfl c4 (dq 14 rfl) ?_
      obtain rfl := Option.some.inj h
      exact a_vret K rfl (dq 15 rfl) (Nat.le_of_ble_eq_true rfl) (Nat.le_of_ble_eq_true rfl) rfl rfl
def t_X5_tollsIn : List (Nat × Instr × Nat) := [(0, .iconst 0, 1), (1, .istore_n 2, 1), (2, .iconst 0, 1), (3, .istore_n 3, 1), (4, .iload_n 3, 1), (5, .aload_n 0, 1), (6, .getfield 19, 3), (9, .if_icmp .ge 21, 3), (12, .iload_n 2, 1), (13, .aload_n 1, 1), (14, .aload_n 0, 1), (15, .iload_n 3, 1), (16, .invokevirtual 31, 3), (19, .invokevirtual 34, 3), (22, .iadd, 1), (23, .istore_n 2, 1), (24, .iinc 3 1, 3), (27, .goto (-23), 3), (30, .iload_n 2, 1), (31, .ireturn, 1)]
theorem dt_X5_tollsIn : tblOK cX5_tollsIn t_X5_tollsIn = true := by decide +kernel
def p_X5_tollsIn_L4  (σ : Sg) : Nat → Int32 → Int32 → Option Int32
  | 0, _, _ => none
  | n + 1, v2, v3 => if (gI σ 14 0 1) ≤ v3 then (some v2) else ((p_X5_farmAt v3 σ).bind fun r2 => (p_X1_tollOf r2 σ).bind fun r3 => p_X5_tollsIn_L4 σ n (v2 + r3) (v3 + 1))
def p_X5_tollsIn  (σ : Sg) : Option Int32 :=
  p_X5_tollsIn_L4 σ 400 0 0
set_option maxRecDepth 20000 in
set_option maxHeartbeats 1000000 in
theorem s_X5_tollsIn_L4 {l : Launch} {D : va_G} {ty : Nat → ClassId} {ρ : Nat → Nat → Nat} {N0 : Nat} (S : St l ty ρ N0)   (σ : Sg) : ∀ (n : Nat) (v2 : Int32) (v3 : Int32) (r : Int32) (h : p_X5_tollsIn_L4  σ n v2 v3 = some r) {p : Program} {e : Env} {s : State} {m : MethodId} {args : Array Value} {below : List Frame} {meth : Method} {c : Code} (K : Cx p l s m args meth c cX5_tollsIn 4 RX5 (some .int) D ty ρ N0) (hX : ∀ x ∈ c.exceptionTable.toList, False), WA p l e (rmk 2 0 0) s m args below meth c D ty ρ N0 4 (vx_MQ below (oQ D ty ρ N0 (oI r) σ) (oX D ty ρ N0 (oI r) σ) args s 0 0 (fun q => N0 ≤ q)) 4 [some (.ref (ρ 14 0)), some (.ref (ρ 1 0)), some (.int v2), some (.int v3)] [] σ 0 0 := by
  intro n
  induction n with
  | zero =>
    intro v2 v3 r h
    simp only [p_X5_tollsIn_L4] at h
    cases h
  | succ n ih =>
    intro v2 v3 r h p e s m args below meth c K hX
    have dq := @tat _ _ dt_X5_tollsIn
    rw [p_X5_tollsIn_L4] at h
    refine a_iload_n K (dq 4 rfl) rfl rfl ?_
    refine a_aload_n K (dq 5 rfl) rfl rfl ?_
    refine a_get K (T := 14) (i := 0) (k := 1) (v := .int (gI σ 14 0 1)) v_14 rfl rfl in_X5 (Nat.le_of_ble_eq_true rfl) fl_X5_19 rfl (dq 6 rfl) ?_
    refine a_icmp_ge K (tgt := 30) (dq 7 rfl) rfl (fun c1 => ?_) (fun c1 => ?_)
    · have h := ite_t c1 h
      refine a_iload_n K (dq 18 rfl) rfl rfl ?_
      obtain rfl := Option.some.inj h
      exact a_iret K rfl rfl (dq 19 rfl) (Nat.le_of_ble_eq_true rfl) (Nat.le_of_ble_eq_true rfl) rfl rfl
    · have h := ite_f c1 h
      refine a_iload_n K (dq 8 rfl) rfl rfl ?_
      refine a_aload_n K (dq 9 rfl) rfl rfl ?_
      refine a_aload_n K (dq 10 rfl) rfl rfl ?_
      refine a_iload_n K (dq 11 rfl) rfl rfl ?_
      obtain ⟨r2, h2, h⟩ := bnd h
      refine a_callVi K (s_X5_farmAt S v3  σ r2 h2) v_14 rfl rfl cw_X5_farmAt ml_X5_31 (by decide) rfl (rest := [.ref (ρ 1 0), .int v2]) rfl (Nat.le_of_ble_eq_true rfl) (dq 12 rfl) (by decide) ?_
      obtain ⟨r3, h3, h⟩ := bnd h
      refine a_callVi K (s_X1_tollOf S r2  σ r3 h3) v_1 rfl rfl cw_X1_tollOf ml_X5_34 (by decide) rfl (rest := [.int v2]) rfl (Nat.le_of_ble_eq_true rfl) (dq 13 rfl) (by decide) ?_
      refine a_iadd K (dq 14 rfl) ?_
      refine a_istore_n K (dq 15 rfl) rfl (Nat.le_of_ble_eq_true rfl) (ls' := [some (.ref (ρ 14 0)), some (.ref (ρ 1 0)), some (.int (v2 + r3)), some (.int v3)]) rfl ?_
      refine a_iinc K (dq 16 rfl) rfl (v := (v3 + 1)) rfl (Nat.le_of_ble_eq_true rfl) (ls' := [some (.ref (ρ 14 0)), some (.ref (ρ 1 0)), some (.int (v2 + r3)), some (.int (v3 + 1))]) rfl ?_
      refine a_goto K (tgt := 4) (dq 17 rfl) rfl ?_
      exact ih (v2 + r3) (v3 + 1) r h K hX
set_option maxRecDepth 20000 in
set_option maxHeartbeats 1000000 in
theorem s_X5_tollsIn {l : Launch} {D : va_G} {ty : Nat → ClassId} {ρ : Nat → Nat → Nat} {N0 : Nat} (S : St l ty ρ N0)   (σ : Sg) (r : Int32) (h : p_X5_tollsIn  σ = some r) : AMet l D ty ρ N0 yX5_tollsIn (Cond.code yX5_tollsIn cX5_tollsIn 4 (some .int) :: GW) (rmk 2 0 0) [.ref (ρ 14 0), .ref (ρ 1 0)] σ (oI r) σ := by
  refine am_enter S (by decide) rfl rfl (Nat.le_of_ble_eq_true rfl) ?_
  intro p e s m args below meth c K hX
  have dq := @tat _ _ dt_X5_tollsIn
  unfold p_X5_tollsIn at h
  show WA p l e _ s m args below meth c D ty ρ N0 4 _ 0 [some (.ref (ρ 14 0)), some (.ref (ρ 1 0)), none, none] [] σ 0 0
  refine a_iconst K (dq 0 rfl) (v := 0) rfl ?_
  refine a_istore_n K (dq 1 rfl) rfl (Nat.le_of_ble_eq_true rfl) (ls' := [some (.ref (ρ 14 0)), some (.ref (ρ 1 0)), some (.int 0), none]) rfl ?_
  refine a_iconst K (dq 2 rfl) (v := 0) rfl ?_
  refine a_istore_n K (dq 3 rfl) rfl (Nat.le_of_ble_eq_true rfl) (ls' := [some (.ref (ρ 14 0)), some (.ref (ρ 1 0)), some (.int 0), some (.int 0)]) rfl ?_
  exact s_X5_tollsIn_L4 S   σ 400 0 0 r h K hX
def t_X1_setFarmOfDrover : List (Nat × Instr × Nat) := [(0, .iload_n 1, 1), (1, .ifCond .lt 19, 3), (4, .iload_n 1, 1), (5, .aload_n 0, 1), (6, .getfield 21, 3), (9, .arraylength, 1), (10, .if_icmp .ge 10, 3), (13, .aload_n 0, 1), (14, .getfield 21, 3), (17, .iload_n 1, 1), (18, .iload_n 2, 1), (19, .iastore, 1), (20, .return_, 1)]
theorem dt_X1_setFarmOfDrover : tblOK cX1_setFarmOfDrover t_X1_setFarmOfDrover = true := by decide +kernel
def p_X1_setFarmOfDrover (a1 : Int32) (a2 : Int32) (σ : Sg) : Option Sg :=
  if a1 < 0 then (some σ) else (if 3 ≤ a1 then (some σ) else (if ib a1 3 then (some (sA σ 5 0 a1.toNatClampNeg a2)) else none))
set_option maxRecDepth 20000 in
set_option maxHeartbeats 1000000 in
theorem s_X1_setFarmOfDrover {l : Launch} {D : va_G} {ty : Nat → ClassId} {ρ : Nat → Nat → Nat} {N0 : Nat} (S : St l ty ρ N0) (a1 : Int32) (a2 : Int32)  (σ : Sg) (r : Sg) (h : p_X1_setFarmOfDrover a1 a2 σ = some r) : AMet l D ty ρ N0 yX1_setFarmOfDrover (Cond.code yX1_setFarmOfDrover cX1_setFarmOfDrover 3 none :: GW) (rmk 1 0 0) [.ref (ρ 1 0), .int a1, .int a2] σ (.inl none) r := by
  refine am_enter S (by decide) rfl rfl (Nat.le_of_ble_eq_true rfl) ?_
  intro p e s m args below meth c K hX
  have dq := @tat _ _ dt_X1_setFarmOfDrover
  unfold p_X1_setFarmOfDrover at h
  show WA p l e _ s m args below meth c D ty ρ N0 3 _ 0 [some (.ref (ρ 1 0)), some (.int a1), some (.int a2)] [] σ 0 0
  refine a_iload_n K (dq 0 rfl) rfl rfl ?_
  refine a_if_lt K (tgt := 20) (dq 1 rfl) rfl (fun c1 => ?_) (fun c1 => ?_)
  · have h := ite_t c1 h
    obtain rfl := Option.some.inj h
    exact a_vret K rfl (dq 12 rfl) (Nat.le_of_ble_eq_true rfl) (Nat.le_of_ble_eq_true rfl) rfl rfl
  · have h := ite_f c1 h
    refine a_iload_n K (dq 2 rfl) rfl rfl ?_
    refine a_aload_n K (dq 3 rfl) rfl rfl ?_
    refine a_get K (T := 1) (i := 0) (k := 4) (v := .ref (ρ 5 0)) v_1 rfl rfl in_X1 (Nat.le_of_ble_eq_true rfl) fl_X1_21 rfl (dq 4 rfl) ?_
    refine a_ilen K (T := 5) (i := 0) (v := 3) v_5 rfl rfl rfl (dq 5 rfl) ?_
    refine a_icmp_ge K (tgt := 20) (dq 6 rfl) rfl (fun c2 => ?_) (fun c2 => ?_)
    · have h := ite_t c2 h
      obtain rfl := Option.some.inj h
      exact a_vret K rfl (dq 12 rfl) (Nat.le_of_ble_eq_true rfl) (Nat.le_of_ble_eq_true rfl) rfl rfl
    · have h := ite_f c2 h
      refine a_aload_n K (dq 7 rfl) rfl rfl ?_
      refine a_get K (T := 1) (i := 0) (k := 4) (v := .ref (ρ 5 0)) v_1 rfl rfl in_X1 (Nat.le_of_ble_eq_true rfl) fl_X1_21 rfl (dq 8 rfl) ?_
      refine a_iload_n K (dq 9 rfl) rfl rfl ?_
      refine a_iload_n K (dq 10 rfl) rfl rfl ?_
      obtain ⟨c3, h⟩ := ib_some h
      refine a_iast K (T := 5) (i := 0) v_5 rfl rfl c3 (dq 11 rfl) ?_
      obtain rfl := Option.some.inj h
      exact a_vret K rfl (dq 12 rfl) (Nat.le_of_ble_eq_true rfl) (Nat.le_of_ble_eq_true rfl) rfl rfl
def t_X1_countDrive : List (Nat × Instr × Nat) := [(0, .aload_n 0, 1), (1, .dup, 1), (2, .getfield 44, 3), (5, .iconst 1, 1), (6, .iadd, 1), (7, .putfield 44, 3), (10, .aload_n 0, 1), (11, .dup, 1), (12, .getfield 47, 3), (15, .iload_n 1, 1), (16, .iadd, 1), (17, .putfield 47, 3), (20, .return_, 1)]
theorem dt_X1_countDrive : tblOK cX1_countDrive t_X1_countDrive = true := by decide +kernel
def p_X1_countDrive (a1 : Int32) (σ : Sg) : Option Sg :=
  some (sI (sI σ 1 0 7 ((gI σ 1 0 7) + 1)) 1 0 8 ((gI (sI σ 1 0 7 ((gI σ 1 0 7) + 1)) 1 0 8) + a1))
set_option maxRecDepth 20000 in
set_option maxHeartbeats 1000000 in
theorem s_X1_countDrive {l : Launch} {D : va_G} {ty : Nat → ClassId} {ρ : Nat → Nat → Nat} {N0 : Nat} (S : St l ty ρ N0) (a1 : Int32)  (σ : Sg) (r : Sg) (h : p_X1_countDrive a1 σ = some r) : AMet l D ty ρ N0 yX1_countDrive (Cond.code yX1_countDrive cX1_countDrive 2 none :: GW) (rmk 1 0 0) [.ref (ρ 1 0), .int a1] σ (.inl none) r := by
  refine am_enter S (by decide) rfl rfl (Nat.le_of_ble_eq_true rfl) ?_
  intro p e s m args below meth c K hX
  have dq := @tat _ _ dt_X1_countDrive
  unfold p_X1_countDrive at h
  show WA p l e _ s m args below meth c D ty ρ N0 2 _ 0 [some (.ref (ρ 1 0)), some (.int a1)] [] σ 0 0
  refine a_aload_n K (dq 0 rfl) rfl rfl ?_
  refine a_dup K (dq 1 rfl) rfl ?_
  refine a_get K (T := 1) (i := 0) (k := 7) (v := .int (gI σ 1 0 7)) v_1 rfl rfl in_X1 (Nat.le_of_ble_eq_true rfl) fl_X1_44 rfl (dq 2 rfl) ?_
  refine a_iconst K (dq 3 rfl) (v := 1) rfl ?_
  refine a_iadd K (dq 4 rfl) ?_
  refine a_put K (T := 1) (i := 0) (k := 7) v_1 rfl rfl in_X1 tyX1 tyX1_ok nmX1 (Nat.le_of_ble_eq_true rfl) fl_X1_44 rfl rfl (tyX1_ok 7 (by decide)) rfl rfl (dq 5 rfl) ?_
  refine a_aload_n K (dq 6 rfl) rfl rfl ?_
  refine a_dup K (dq 7 rfl) rfl ?_
  refine a_get K (T := 1) (i := 0) (k := 8) (v := .int (gI (sI σ 1 0 7 ((gI σ 1 0 7) + 1)) 1 0 8)) v_1 rfl rfl in_X1 (Nat.le_of_ble_eq_true rfl) fl_X1_47 rfl (dq 8 rfl) ?_
  refine a_iload_n K (dq 9 rfl) rfl rfl ?_
  refine a_iadd K (dq 10 rfl) ?_
  refine a_put K (T := 1) (i := 0) (k := 8) v_1 rfl rfl in_X1 tyX1 tyX1_ok nmX1 (Nat.le_of_ble_eq_true rfl) fl_X1_47 rfl rfl (tyX1_ok 8 (by decide)) rfl rfl (dq 11 rfl) ?_
  obtain rfl := Option.some.inj h
  exact a_vret K rfl (dq 12 rfl) (Nat.le_of_ble_eq_true rfl) (Nat.le_of_ble_eq_true rfl) rfl rfl
def t_X1_depthOf : List (Nat × Instr × Nat) := [(0, .iconst 0, 1), (1, .istore_n 2, 1), (2, .aload_n 0, 1), (3, .iload_n 1, 1), (4, .invokevirtual 62, 3), (7, .istore_n 3, 1), (8, .iload_n 2, 1), (9, .bipush 12, 2), (11, .if_icmp .ge 20, 3), (14, .iload_n 3, 1), (15, .iconst (-1), 1), (16, .if_icmp .eq 15, 3), (19, .aload_n 0, 1), (20, .iload_n 3, 1), (21, .invokevirtual 62, 3), (24, .istore_n 3, 1), (25, .iinc 2 1, 3), (28, .goto (-20), 3), (31, .iload_n 2, 1), (32, .ireturn, 1)]
theorem dt_X1_depthOf : tblOK cX1_depthOf t_X1_depthOf = true := by decide +kernel
def p_X1_depthOf_L8  (σ : Sg) : Nat → Int32 → Int32 → Option Int32
  | 0, _, _ => none
  | n + 1, v2, v3 => if 12 ≤ v2 then (some v2) else (if v3 = (-1) then (some v2) else ((p_X1_parentOf v3 σ).bind fun r4 => p_X1_depthOf_L8 σ n (v2 + 1) r4))
def p_X1_depthOf (a1 : Int32) (σ : Sg) : Option Int32 :=
  (p_X1_parentOf a1 σ).bind fun r1 => p_X1_depthOf_L8 σ 400 0 r1
set_option maxRecDepth 20000 in
set_option maxHeartbeats 1000000 in
theorem s_X1_depthOf_L8 {l : Launch} {D : va_G} {ty : Nat → ClassId} {ρ : Nat → Nat → Nat} {N0 : Nat} (S : St l ty ρ N0)   (σ : Sg) : ∀ (n : Nat) (v2 : Int32) (v3 : Int32) (r : Int32) (h : p_X1_depthOf_L8  σ n v2 v3 = some r) {p : Program} {e : Env} {s : State} {m : MethodId} {args : Array Value} {below : List Frame} {meth : Method} {c : Code} (K : Cx p l s m args meth c cX1_depthOf 4 RX1 (some .int) D ty ρ N0) (hX : ∀ x ∈ c.exceptionTable.toList, False), WA p l e (rmk 2 0 0) s m args below meth c D ty ρ N0 4 (vx_MQ below (oQ D ty ρ N0 (oI r) σ) (oX D ty ρ N0 (oI r) σ) args s 0 0 (fun q => N0 ≤ q)) 8 [some (.ref (ρ 1 0)), none, some (.int v2), some (.int v3)] [] σ 0 0 := by
  intro n
  induction n with
  | zero =>
    intro v2 v3 r h
    simp only [p_X1_depthOf_L8] at h
    cases h
  | succ n ih =>
    intro v2 v3 r h p e s m args below meth c K hX
    have dq := @tat _ _ dt_X1_depthOf
    rw [p_X1_depthOf_L8] at h
    refine a_iload_n K (dq 6 rfl) rfl rfl ?_
    refine a_bipush K (dq 7 rfl) (v := 12) rfl ?_
    refine a_icmp_ge K (tgt := 31) (dq 8 rfl) rfl (fun c2 => ?_) (fun c2 => ?_)
    · have h := ite_t c2 h
      refine a_iload_n K (dq 18 rfl) rfl rfl ?_
      obtain rfl := Option.some.inj h
      exact a_iret K rfl rfl (dq 19 rfl) (Nat.le_of_ble_eq_true rfl) (Nat.le_of_ble_eq_true rfl) rfl rfl
    · have h := ite_f c2 h
      refine a_iload_n K (dq 9 rfl) rfl rfl ?_
      refine a_iconst K (dq 10 rfl) (v := (-1)) rfl ?_
      refine a_icmp_eq K (tgt := 31) (dq 11 rfl) rfl (fun c3 => ?_) (fun c3 => ?_)
      · have h := ite_t c3 h
        refine a_iload_n K (dq 18 rfl) rfl rfl ?_
        obtain rfl := Option.some.inj h
        exact a_iret K rfl rfl (dq 19 rfl) (Nat.le_of_ble_eq_true rfl) (Nat.le_of_ble_eq_true rfl) rfl rfl
      · have h := ite_f c3 h
        refine a_aload_n K (dq 12 rfl) rfl rfl ?_
        refine a_iload_n K (dq 13 rfl) rfl rfl ?_
        obtain ⟨r4, h4, h⟩ := bnd h
        refine a_callVi K (s_X1_parentOf S v3  σ r4 h4) v_1 rfl rfl cw_X1_parentOf ml_X1_62 (by decide) rfl (rest := []) rfl (Nat.le_of_ble_eq_true rfl) (dq 14 rfl) (by decide) ?_
        refine a_istore_n K (dq 15 rfl) rfl (Nat.le_of_ble_eq_true rfl) (ls' := [some (.ref (ρ 1 0)), none, some (.int v2), some (.int r4)]) rfl ?_
        refine a_iinc K (dq 16 rfl) rfl (v := (v2 + 1)) rfl (Nat.le_of_ble_eq_true rfl) (ls' := [some (.ref (ρ 1 0)), none, some (.int (v2 + 1)), some (.int r4)]) rfl ?_
        refine a_goto K (tgt := 8) (dq 17 rfl) rfl ?_
        exact ih (v2 + 1) r4 r h K hX
set_option maxRecDepth 20000 in
set_option maxHeartbeats 1000000 in
theorem s_X1_depthOf {l : Launch} {D : va_G} {ty : Nat → ClassId} {ρ : Nat → Nat → Nat} {N0 : Nat} (S : St l ty ρ N0) (a1 : Int32)  (σ : Sg) (r : Int32) (h : p_X1_depthOf a1 σ = some r) : AMet l D ty ρ N0 yX1_depthOf (Cond.code yX1_depthOf cX1_depthOf 4 (some .int) :: GW) (rmk 2 0 0) [.ref (ρ 1 0), .int a1] σ (oI r) σ := by
  refine am_enter S (by decide) rfl rfl (Nat.le_of_ble_eq_true rfl) ?_
  intro p e s m args below meth c K hX
  have dq := @tat _ _ dt_X1_depthOf
  unfold p_X1_depthOf at h
  show WA p l e _ s m args below meth c D ty ρ N0 4 _ 0 [some (.ref (ρ 1 0)), some (.int a1), none, none] [] σ 0 0
  refine a_iconst K (dq 0 rfl) (v := 0) rfl ?_
  refine a_istore_n K (dq 1 rfl) rfl (Nat.le_of_ble_eq_true rfl) (ls' := [some (.ref (ρ 1 0)), some (.int a1), some (.int 0), none]) rfl ?_
  refine a_aload_n K (dq 2 rfl) rfl rfl ?_
  refine a_iload_n K (dq 3 rfl) rfl rfl ?_
  obtain ⟨r1, h1, h⟩ := bnd h
  refine a_callVi K (s_X1_parentOf S a1  σ r1 h1) v_1 rfl rfl cw_X1_parentOf ml_X1_62 (by decide) rfl (rest := []) rfl (Nat.le_of_ble_eq_true rfl) (dq 4 rfl) (by decide) ?_
  refine a_istore_n K (dq 5 rfl) rfl (Nat.le_of_ble_eq_true rfl) (ls' := [some (.ref (ρ 1 0)), some (.int a1), some (.int 0), some (.int r1)]) rfl ?_
  refine a_le2 (ls' := [some (.ref (ρ 1 0)), none, some (.int 0), some (.int r1)]) ⟨rfl, rfl, rfl, trivial⟩ ?_
  exact s_X1_depthOf_L8 S   σ 400 0 r1 r h K hX
def t_X1_childrenOf : List (Nat × Instr × Nat) := [(0, .iconst 0, 1), (1, .istore_n 2, 1), (2, .iconst 0, 1), (3, .istore_n 3, 1), (4, .iload_n 3, 1), (5, .aload_n 0, 1), (6, .getfield 30, 3), (9, .if_icmp .ge 21, 3), (12, .aload_n 0, 1), (13, .iload_n 3, 1), (14, .invokevirtual 62, 3), (17, .iload_n 1, 1), (18, .if_icmp .ne 6, 3), (21, .iinc 2 1, 3), (24, .iinc 3 1, 3), (27, .goto (-23), 3), (30, .iload_n 2, 1), (31, .ireturn, 1)]
theorem dt_X1_childrenOf : tblOK cX1_childrenOf t_X1_childrenOf = true := by decide +kernel
def p_X1_childrenOf_L4  (σ : Sg) : Nat → Int32 → Int32 → Int32 → Option Int32
  | 0, _, _, _ => none
  | n + 1, v1, v2, v3 => if (gI σ 1 0 0) ≤ v3 then (some v2) else ((p_X1_parentOf v3 σ).bind fun r2 => if r2 = v1 then (p_X1_childrenOf_L4 σ n v1 (v2 + 1) (v3 + 1)) else (p_X1_childrenOf_L4 σ n v1 v2 (v3 + 1)))
def p_X1_childrenOf (a1 : Int32) (σ : Sg) : Option Int32 :=
  p_X1_childrenOf_L4 σ 400 a1 0 0
set_option maxRecDepth 20000 in
set_option maxHeartbeats 1000000 in
theorem s_X1_childrenOf_L4 {l : Launch} {D : va_G} {ty : Nat → ClassId} {ρ : Nat → Nat → Nat} {N0 : Nat} (S : St l ty ρ N0)   (σ : Sg) : ∀ (n : Nat) (v1 : Int32) (v2 : Int32) (v3 : Int32) (r : Int32) (h : p_X1_childrenOf_L4  σ n v1 v2 v3 = some r) {p : Program} {e : Env} {s : State} {m : MethodId} {args : Array Value} {below : List Frame} {meth : Method} {c : Code} (K : Cx p l s m args meth c cX1_childrenOf 4 RX1 (some .int) D ty ρ N0) (hX : ∀ x ∈ c.exceptionTable.toList, False), WA p l e (rmk 2 0 0) s m args below meth c D ty ρ N0 4 (vx_MQ below (oQ D ty ρ N0 (oI r) σ) (oX D ty ρ N0 (oI r) σ) args s 0 0 (fun q => N0 ≤ q)) 4 [some (.ref (ρ 1 0)), some (.int v1), some (.int v2), some (.int v3)] [] σ 0 0 := by
  intro n
  induction n with
  | zero =>
    intro v1 v2 v3 r h
    simp only [p_X1_childrenOf_L4] at h
    cases h
  | succ n ih =>
    intro v1 v2 v3 r h p e s m args below meth c K hX
    have dq := @tat _ _ dt_X1_childrenOf
    rw [p_X1_childrenOf_L4] at h
    refine a_iload_n K (dq 4 rfl) rfl rfl ?_
    refine a_aload_n K (dq 5 rfl) rfl rfl ?_
    refine a_get K (T := 1) (i := 0) (k := 0) (v := .int (gI σ 1 0 0)) v_1 rfl rfl in_X1 (Nat.le_of_ble_eq_true rfl) fl_X1_30 rfl (dq 6 rfl) ?_
    refine a_icmp_ge K (tgt := 30) (dq 7 rfl) rfl (fun c1 => ?_) (fun c1 => ?_)
    · have h := ite_t c1 h
      refine a_iload_n K (dq 16 rfl) rfl rfl ?_
      obtain rfl := Option.some.inj h
      exact a_iret K rfl rfl (dq 17 rfl) (Nat.le_of_ble_eq_true rfl) (Nat.le_of_ble_eq_true rfl) rfl rfl
    · have h := ite_f c1 h
      refine a_aload_n K (dq 8 rfl) rfl rfl ?_
      refine a_iload_n K (dq 9 rfl) rfl rfl ?_
      obtain ⟨r2, h2, h⟩ := bnd h
      refine a_callVi K (s_X1_parentOf S v3  σ r2 h2) v_1 rfl rfl cw_X1_parentOf ml_X1_62 (by decide) rfl (rest := []) rfl (Nat.le_of_ble_eq_true rfl) (dq 10 rfl) (by decide) ?_
      refine a_iload_n K (dq 11 rfl) rfl rfl ?_
      refine a_icmp_ne K (tgt := 24) (dq 12 rfl) rfl (fun c3 => ?_) (fun c3 => ?_)
      · have h := ite_f c3 h
        refine a_iinc K (dq 14 rfl) rfl (v := (v3 + 1)) rfl (Nat.le_of_ble_eq_true rfl) (ls' := [some (.ref (ρ 1 0)), some (.int v1), some (.int v2), some (.int (v3 + 1))]) rfl ?_
        refine a_goto K (tgt := 4) (dq 15 rfl) rfl ?_
        exact ih v1 v2 (v3 + 1) r h K hX
      · have h := ite_t c3 h
        refine a_iinc K (dq 13 rfl) rfl (v := (v2 + 1)) rfl (Nat.le_of_ble_eq_true rfl) (ls' := [some (.ref (ρ 1 0)), some (.int v1), some (.int (v2 + 1)), some (.int v3)]) rfl ?_
        refine a_iinc K (dq 14 rfl) rfl (v := (v3 + 1)) rfl (Nat.le_of_ble_eq_true rfl) (ls' := [some (.ref (ρ 1 0)), some (.int v1), some (.int (v2 + 1)), some (.int (v3 + 1))]) rfl ?_
        refine a_goto K (tgt := 4) (dq 15 rfl) rfl ?_
        exact ih v1 (v2 + 1) (v3 + 1) r h K hX
set_option maxRecDepth 20000 in
set_option maxHeartbeats 1000000 in
theorem s_X1_childrenOf {l : Launch} {D : va_G} {ty : Nat → ClassId} {ρ : Nat → Nat → Nat} {N0 : Nat} (S : St l ty ρ N0) (a1 : Int32)  (σ : Sg) (r : Int32) (h : p_X1_childrenOf a1 σ = some r) : AMet l D ty ρ N0 yX1_childrenOf (Cond.code yX1_childrenOf cX1_childrenOf 4 (some .int) :: GW) (rmk 2 0 0) [.ref (ρ 1 0), .int a1] σ (oI r) σ := by
  refine am_enter S (by decide) rfl rfl (Nat.le_of_ble_eq_true rfl) ?_
  intro p e s m args below meth c K hX
  have dq := @tat _ _ dt_X1_childrenOf
  unfold p_X1_childrenOf at h
  show WA p l e _ s m args below meth c D ty ρ N0 4 _ 0 [some (.ref (ρ 1 0)), some (.int a1), none, none] [] σ 0 0
  refine a_iconst K (dq 0 rfl) (v := 0) rfl ?_
  refine a_istore_n K (dq 1 rfl) rfl (Nat.le_of_ble_eq_true rfl) (ls' := [some (.ref (ρ 1 0)), some (.int a1), some (.int 0), none]) rfl ?_
  refine a_iconst K (dq 2 rfl) (v := 0) rfl ?_
  refine a_istore_n K (dq 3 rfl) rfl (Nat.le_of_ble_eq_true rfl) (ls' := [some (.ref (ρ 1 0)), some (.int a1), some (.int 0), some (.int 0)]) rfl ?_
  exact s_X1_childrenOf_L4 S   σ 400 a1 0 0 r h K hX
def t_X1_isBehind : List (Nat × Instr × Nat) := [(0, .iload_n 2, 1), (1, .istore_n 3, 1), (2, .iconst 0, 1), (3, .istore 4, 2), (5, .iload 4, 2), (7, .bipush 12, 2), (9, .if_icmp .ge 25, 3), (12, .iload_n 3, 1), (13, .iconst (-1), 1), (14, .if_icmp .eq 20, 3), (17, .iload_n 3, 1), (18, .iload_n 1, 1), (19, .if_icmp .eq 15, 3), (22, .aload_n 0, 1), (23, .iload_n 3, 1), (24, .invokevirtual 62, 3), (27, .istore_n 3, 1), (28, .iinc 4 1, 3), (31, .goto (-26), 3), (34, .iload_n 3, 1), (35, .iload_n 1, 1), (36, .if_icmp .ne 7, 3), (39, .iconst 1, 1), (40, .goto 4, 3), (43, .iconst 0, 1), (44, .ireturn, 1)]
theorem dt_X1_isBehind : tblOK cX1_isBehind t_X1_isBehind = true := by decide +kernel
def p_X1_isBehind_L5  (σ : Sg) : Nat → Int32 → Int32 → Int32 → Option Int32
  | 0, _, _, _ => none
  | n + 1, v1, v3, v4 => if 12 ≤ v4 then (if v3 = v1 then (some 1) else (some 0)) else (if v3 = (-1) then (if v3 = v1 then (some 1) else (some 0)) else (if v3 = v1 then (if v3 = v1 then (some 1) else (some 0)) else ((p_X1_parentOf v3 σ).bind fun r7 => p_X1_isBehind_L5 σ n v1 r7 (v4 + 1))))
def p_X1_isBehind (a1 : Int32) (a2 : Int32) (σ : Sg) : Option Int32 :=
  p_X1_isBehind_L5 σ 400 a1 a2 0
set_option maxRecDepth 20000 in
set_option maxHeartbeats 1000000 in
theorem s_X1_isBehind_L5 {l : Launch} {D : va_G} {ty : Nat → ClassId} {ρ : Nat → Nat → Nat} {N0 : Nat} (S : St l ty ρ N0)   (σ : Sg) : ∀ (n : Nat) (v1 : Int32) (v3 : Int32) (v4 : Int32) (r : Int32) (h : p_X1_isBehind_L5  σ n v1 v3 v4 = some r) {p : Program} {e : Env} {s : State} {m : MethodId} {args : Array Value} {below : List Frame} {meth : Method} {c : Code} (K : Cx p l s m args meth c cX1_isBehind 5 RX1 (some .boolean) D ty ρ N0) (hX : ∀ x ∈ c.exceptionTable.toList, False), WA p l e (rmk 2 0 0) s m args below meth c D ty ρ N0 5 (vx_MQ below (oQ D ty ρ N0 (oI r) σ) (oX D ty ρ N0 (oI r) σ) args s 0 0 (fun q => N0 ≤ q)) 5 [some (.ref (ρ 1 0)), some (.int v1), none, some (.int v3), some (.int v4)] [] σ 0 0 := by
  intro n
  induction n with
  | zero =>
    intro v1 v3 v4 r h
    simp only [p_X1_isBehind_L5] at h
    cases h
  | succ n ih =>
    intro v1 v3 v4 r h p e s m args below meth c K hX
    have dq := @tat _ _ dt_X1_isBehind
    rw [p_X1_isBehind_L5] at h
    refine a_iload K (dq 4 rfl) rfl ?_
    refine a_bipush K (dq 5 rfl) (v := 12) rfl ?_
    refine a_icmp_ge K (tgt := 34) (dq 6 rfl) rfl (fun c1 => ?_) (fun c1 => ?_)
    · have h := ite_t c1 h
      refine a_iload_n K (dq 19 rfl) rfl rfl ?_
      refine a_iload_n K (dq 20 rfl) rfl rfl ?_
      refine a_icmp_ne K (tgt := 43) (dq 21 rfl) rfl (fun c2 => ?_) (fun c2 => ?_)
      · have h := ite_f c2 h
        refine a_iconst K (dq 24 rfl) (v := 0) rfl ?_
        obtain rfl := Option.some.inj h
        exact a_iret K rfl rfl (dq 25 rfl) (Nat.le_of_ble_eq_true rfl) (Nat.le_of_ble_eq_true rfl) rfl rfl
      · have h := ite_t c2 h
        refine a_iconst K (dq 22 rfl) (v := 1) rfl ?_
        refine a_goto K (tgt := 44) (dq 23 rfl) rfl ?_
        obtain rfl := Option.some.inj h
        exact a_iret K rfl rfl (dq 25 rfl) (Nat.le_of_ble_eq_true rfl) (Nat.le_of_ble_eq_true rfl) rfl rfl
    · have h := ite_f c1 h
      refine a_iload_n K (dq 7 rfl) rfl rfl ?_
      refine a_iconst K (dq 8 rfl) (v := (-1)) rfl ?_
      refine a_icmp_eq K (tgt := 34) (dq 9 rfl) rfl (fun c3 => ?_) (fun c3 => ?_)
      · have h := ite_t c3 h
        refine a_iload_n K (dq 19 rfl) rfl rfl ?_
        refine a_iload_n K (dq 20 rfl) rfl rfl ?_
        refine a_icmp_ne K (tgt := 43) (dq 21 rfl) rfl (fun c4 => ?_) (fun c4 => ?_)
        · have h := ite_f c4 h
          refine a_iconst K (dq 24 rfl) (v := 0) rfl ?_
          obtain rfl := Option.some.inj h
          exact a_iret K rfl rfl (dq 25 rfl) (Nat.le_of_ble_eq_true rfl) (Nat.le_of_ble_eq_true rfl) rfl rfl
        · have h := ite_t c4 h
          refine a_iconst K (dq 22 rfl) (v := 1) rfl ?_
          refine a_goto K (tgt := 44) (dq 23 rfl) rfl ?_
          obtain rfl := Option.some.inj h
          exact a_iret K rfl rfl (dq 25 rfl) (Nat.le_of_ble_eq_true rfl) (Nat.le_of_ble_eq_true rfl) rfl rfl
      · have h := ite_f c3 h
        refine a_iload_n K (dq 10 rfl) rfl rfl ?_
        refine a_iload_n K (dq 11 rfl) rfl rfl ?_
        refine a_icmp_eq K (tgt := 34) (dq 12 rfl) rfl (fun c5 => ?_) (fun c5 => ?_)
        · have h := ite_t c5 h
          refine a_iload_n K (dq 19 rfl) rfl rfl ?_
          refine a_iload_n K (dq 20 rfl) rfl rfl ?_
          refine a_icmp_ne K (tgt := 43) (dq 21 rfl) rfl (fun c6 => ?_) (fun c6 => ?_)
          · have h := ite_f c6 h
            refine a_iconst K (dq 24 rfl) (v := 0) rfl ?_
            obtain rfl := Option.some.inj h
            exact a_iret K rfl rfl (dq 25 rfl) (Nat.le_of_ble_eq_true rfl) (Nat.le_of_ble_eq_true rfl) rfl rfl
          · have h := ite_t c6 h
            refine a_iconst K (dq 22 rfl) (v := 1) rfl ?_
            refine a_goto K (tgt := 44) (dq 23 rfl) rfl ?_
            obtain rfl := Option.some.inj h
            exact a_iret K rfl rfl (dq 25 rfl) (Nat.le_of_ble_eq_true rfl) (Nat.le_of_ble_eq_true rfl) rfl rfl
        · have h := ite_f c5 h
          refine a_aload_n K (dq 13 rfl) rfl rfl ?_
          refine a_iload_n K (dq 14 rfl) rfl rfl ?_
          obtain ⟨r7, h7, h⟩ := bnd h
          refine a_callVi K (s_X1_parentOf S v3  σ r7 h7) v_1 rfl rfl cw_X1_parentOf ml_X1_62 (by decide) rfl (rest := []) rfl (Nat.le_of_ble_eq_true rfl) (dq 15 rfl) (by decide) ?_
          refine a_istore_n K (dq 16 rfl) rfl (Nat.le_of_ble_eq_true rfl) (ls' := [some (.ref (ρ 1 0)), some (.int v1), none, some (.int r7), some (.int v4)]) rfl ?_
          refine a_iinc K (dq 17 rfl) rfl (v := (v4 + 1)) rfl (Nat.le_of_ble_eq_true rfl) (ls' := [some (.ref (ρ 1 0)), some (.int v1), none, some (.int r7), some (.int (v4 + 1))]) rfl ?_
          refine a_goto K (tgt := 5) (dq 18 rfl) rfl ?_
          exact ih v1 r7 (v4 + 1) r h K hX
set_option maxRecDepth 20000 in
set_option maxHeartbeats 1000000 in
theorem s_X1_isBehind {l : Launch} {D : va_G} {ty : Nat → ClassId} {ρ : Nat → Nat → Nat} {N0 : Nat} (S : St l ty ρ N0) (a1 : Int32) (a2 : Int32)  (σ : Sg) (r : Int32) (h : p_X1_isBehind a1 a2 σ = some r) : AMet l D ty ρ N0 yX1_isBehind (Cond.code yX1_isBehind cX1_isBehind 5 (some .boolean) :: GW) (rmk 2 0 0) [.ref (ρ 1 0), .int a1, .int a2] σ (oI r) σ := by
  refine am_enter S (by decide) rfl rfl (Nat.le_of_ble_eq_true rfl) ?_
  intro p e s m args below meth c K hX
  have dq := @tat _ _ dt_X1_isBehind
  unfold p_X1_isBehind at h
  show WA p l e _ s m args below meth c D ty ρ N0 5 _ 0 [some (.ref (ρ 1 0)), some (.int a1), some (.int a2), none, none] [] σ 0 0
  refine a_iload_n K (dq 0 rfl) rfl rfl ?_
  refine a_istore_n K (dq 1 rfl) rfl (Nat.le_of_ble_eq_true rfl) (ls' := [some (.ref (ρ 1 0)), some (.int a1), some (.int a2), some (.int a2), none]) rfl ?_
  refine a_iconst K (dq 2 rfl) (v := 0) rfl ?_
  refine a_istore K (dq 3 rfl) (Nat.le_of_ble_eq_true rfl) (ls' := [some (.ref (ρ 1 0)), some (.int a1), some (.int a2), some (.int a2), some (.int 0)]) rfl ?_
  refine a_le2 (ls' := [some (.ref (ρ 1 0)), some (.int a1), none, some (.int a2), some (.int 0)]) ⟨rfl, rfl, rfl, rfl, trivial⟩ ?_
  exact s_X1_isBehind_L5 S   σ 400 a1 a2 0 r h K hX
def t_X5_highestFarm : List (Nat × Instr × Nat) := [(0, .aload_n 0, 1), (1, .aload_n 0, 1), (2, .getfield 15, 3), (5, .invokevirtual 31, 3), (8, .ireturn, 1)]
theorem dt_X5_highestFarm : tblOK cX5_highestFarm t_X5_highestFarm = true := by decide +kernel
def p_X5_highestFarm  (σ : Sg) : Option Int32 :=
  (p_X5_farmAt (gI σ 14 0 2) σ).bind fun r1 => some r1
set_option maxRecDepth 20000 in
set_option maxHeartbeats 1000000 in
theorem s_X5_highestFarm {l : Launch} {D : va_G} {ty : Nat → ClassId} {ρ : Nat → Nat → Nat} {N0 : Nat} (S : St l ty ρ N0)   (σ : Sg) (r : Int32) (h : p_X5_highestFarm  σ = some r) : AMet l D ty ρ N0 yX5_highestFarm (Cond.code yX5_highestFarm cX5_highestFarm 1 (some .int) :: GW) (rmk 2 0 0) [.ref (ρ 14 0)] σ (oI r) σ := by
  refine am_enter S (by decide) rfl rfl (Nat.le_of_ble_eq_true rfl) ?_
  intro p e s m args below meth c K hX
  have dq := @tat _ _ dt_X5_highestFarm
  unfold p_X5_highestFarm at h
  show WA p l e _ s m args below meth c D ty ρ N0 1 _ 0 [some (.ref (ρ 14 0))] [] σ 0 0
  refine a_aload_n K (dq 0 rfl) rfl rfl ?_
  refine a_aload_n K (dq 1 rfl) rfl rfl ?_
  refine a_get K (T := 14) (i := 0) (k := 2) (v := .int (gI σ 14 0 2)) v_14 rfl rfl in_X5 (Nat.le_of_ble_eq_true rfl) fl_X5_15 rfl (dq 2 rfl) ?_
  obtain ⟨r1, h1, h⟩ := bnd h
  refine a_callVi K (s_X5_farmAt S (gI σ 14 0 2)  σ r1 h1) v_14 rfl rfl cw_X5_farmAt ml_X5_31 (by decide) rfl (rest := []) rfl (Nat.le_of_ble_eq_true rfl) (dq 3 rfl) (by decide) ?_
  obtain rfl := Option.some.inj h
  exact a_iret K rfl rfl (dq 4 rfl) (Nat.le_of_ble_eq_true rfl) (Nat.le_of_ble_eq_true rfl) rfl rfl
def t_X1_tollsToRoot : List (Nat × Instr × Nat) := [(0, .iconst 0, 1), (1, .istore_n 2, 1), (2, .iload_n 1, 1), (3, .istore_n 3, 1), (4, .iconst 0, 1), (5, .istore 4, 2), (7, .iload 4, 2), (9, .bipush 12, 2), (11, .if_icmp .ge 28, 3), (14, .iload_n 3, 1), (15, .iconst (-1), 1), (16, .if_icmp .eq 23, 3), (19, .iload_n 2, 1), (20, .aload_n 0, 1), (21, .iload_n 3, 1), (22, .invokevirtual 73, 3), (25, .iadd, 1), (26, .istore_n 2, 1), (27, .aload_n 0, 1), (28, .iload_n 3, 1), (29, .invokevirtual 62, 3), (32, .istore_n 3, 1), (33, .iinc 4 1, 3), (36, .goto (-29), 3), (39, .iload_n 2, 1), (40, .ireturn, 1)]
theorem dt_X1_tollsToRoot : tblOK cX1_tollsToRoot t_X1_tollsToRoot = true := by decide +kernel
def p_X1_tollsToRoot_L7  (σ : Sg) : Nat → Int32 → Int32 → Int32 → Option Int32
  | 0, _, _, _ => none
  | n + 1, v2, v3, v4 => if 12 ≤ v4 then (some v2) else (if v3 = (-1) then (some v2) else ((p_X1_tollOf v3 σ).bind fun r3 => (p_X1_parentOf v3 σ).bind fun r4 => p_X1_tollsToRoot_L7 σ n (v2 + r3) r4 (v4 + 1)))
def p_X1_tollsToRoot (a1 : Int32) (σ : Sg) : Option Int32 :=
  p_X1_tollsToRoot_L7 σ 400 0 a1 0
set_option maxRecDepth 20000 in
set_option maxHeartbeats 1000000 in
theorem s_X1_tollsToRoot_L7 {l : Launch} {D : va_G} {ty : Nat → ClassId} {ρ : Nat → Nat → Nat} {N0 : Nat} (S : St l ty ρ N0)   (σ : Sg) : ∀ (n : Nat) (v2 : Int32) (v3 : Int32) (v4 : Int32) (r : Int32) (h : p_X1_tollsToRoot_L7  σ n v2 v3 v4 = some r) {p : Program} {e : Env} {s : State} {m : MethodId} {args : Array Value} {below : List Frame} {meth : Method} {c : Code} (K : Cx p l s m args meth c cX1_tollsToRoot 5 RX1 (some .int) D ty ρ N0) (hX : ∀ x ∈ c.exceptionTable.toList, False), WA p l e (rmk 2 0 0) s m args below meth c D ty ρ N0 5 (vx_MQ below (oQ D ty ρ N0 (oI r) σ) (oX D ty ρ N0 (oI r) σ) args s 0 0 (fun q => N0 ≤ q)) 7 [some (.ref (ρ 1 0)), none, some (.int v2), some (.int v3), some (.int v4)] [] σ 0 0 := by
  intro n
  induction n with
  | zero =>
    intro v2 v3 v4 r h
    simp only [p_X1_tollsToRoot_L7] at h
    cases h
  | succ n ih =>
    intro v2 v3 v4 r h p e s m args below meth c K hX
    have dq := @tat _ _ dt_X1_tollsToRoot
    rw [p_X1_tollsToRoot_L7] at h
    refine a_iload K (dq 6 rfl) rfl ?_
    refine a_bipush K (dq 7 rfl) (v := 12) rfl ?_
    refine a_icmp_ge K (tgt := 39) (dq 8 rfl) rfl (fun c1 => ?_) (fun c1 => ?_)
    · have h := ite_t c1 h
      refine a_iload_n K (dq 24 rfl) rfl rfl ?_
      obtain rfl := Option.some.inj h
      exact a_iret K rfl rfl (dq 25 rfl) (Nat.le_of_ble_eq_true rfl) (Nat.le_of_ble_eq_true rfl) rfl rfl
    · have h := ite_f c1 h
      refine a_iload_n K (dq 9 rfl) rfl rfl ?_
      refine a_iconst K (dq 10 rfl) (v := (-1)) rfl ?_
      refine a_icmp_eq K (tgt := 39) (dq 11 rfl) rfl (fun c2 => ?_) (fun c2 => ?_)
      · have h := ite_t c2 h
        refine a_iload_n K (dq 24 rfl) rfl rfl ?_
        obtain rfl := Option.some.inj h
        exact a_iret K rfl rfl (dq 25 rfl) (Nat.le_of_ble_eq_true rfl) (Nat.le_of_ble_eq_true rfl) rfl rfl
      · have h := ite_f c2 h
        refine a_iload_n K (dq 12 rfl) rfl rfl ?_
        refine a_aload_n K (dq 13 rfl) rfl rfl ?_
        refine a_iload_n K (dq 14 rfl) rfl rfl ?_
        obtain ⟨r3, h3, h⟩ := bnd h
        refine a_callVi K (s_X1_tollOf S v3  σ r3 h3) v_1 rfl rfl cw_X1_tollOf ml_X1_73 (by decide) rfl (rest := [.int v2]) rfl (Nat.le_of_ble_eq_true rfl) (dq 15 rfl) (by decide) ?_
        refine a_iadd K (dq 16 rfl) ?_
        refine a_istore_n K (dq 17 rfl) rfl (Nat.le_of_ble_eq_true rfl) (ls' := [some (.ref (ρ 1 0)), none, some (.int (v2 + r3)), some (.int v3), some (.int v4)]) rfl ?_
        refine a_aload_n K (dq 18 rfl) rfl rfl ?_
        refine a_iload_n K (dq 19 rfl) rfl rfl ?_
        obtain ⟨r4, h4, h⟩ := bnd h
        refine a_callVi K (s_X1_parentOf S v3  σ r4 h4) v_1 rfl rfl cw_X1_parentOf ml_X1_62 (by decide) rfl (rest := []) rfl (Nat.le_of_ble_eq_true rfl) (dq 20 rfl) (by decide) ?_
        refine a_istore_n K (dq 21 rfl) rfl (Nat.le_of_ble_eq_true rfl) (ls' := [some (.ref (ρ 1 0)), none, some (.int (v2 + r3)), some (.int r4), some (.int v4)]) rfl ?_
        refine a_iinc K (dq 22 rfl) rfl (v := (v4 + 1)) rfl (Nat.le_of_ble_eq_true rfl) (ls' := [some (.ref (ρ 1 0)), none, some (.int (v2 + r3)), some (.int r4), some (.int (v4 + 1))]) rfl ?_
        refine a_goto K (tgt := 7) (dq 23 rfl) rfl ?_
        exact ih (v2 + r3) r4 (v4 + 1) r h K hX
set_option maxRecDepth 20000 in
set_option maxHeartbeats 1000000 in
theorem s_X1_tollsToRoot {l : Launch} {D : va_G} {ty : Nat → ClassId} {ρ : Nat → Nat → Nat} {N0 : Nat} (S : St l ty ρ N0) (a1 : Int32)  (σ : Sg) (r : Int32) (h : p_X1_tollsToRoot a1 σ = some r) : AMet l D ty ρ N0 yX1_tollsToRoot (Cond.code yX1_tollsToRoot cX1_tollsToRoot 5 (some .int) :: GW) (rmk 2 0 0) [.ref (ρ 1 0), .int a1] σ (oI r) σ := by
  refine am_enter S (by decide) rfl rfl (Nat.le_of_ble_eq_true rfl) ?_
  intro p e s m args below meth c K hX
  have dq := @tat _ _ dt_X1_tollsToRoot
  unfold p_X1_tollsToRoot at h
  show WA p l e _ s m args below meth c D ty ρ N0 5 _ 0 [some (.ref (ρ 1 0)), some (.int a1), none, none, none] [] σ 0 0
  refine a_iconst K (dq 0 rfl) (v := 0) rfl ?_
  refine a_istore_n K (dq 1 rfl) rfl (Nat.le_of_ble_eq_true rfl) (ls' := [some (.ref (ρ 1 0)), some (.int a1), some (.int 0), none, none]) rfl ?_
  refine a_iload_n K (dq 2 rfl) rfl rfl ?_
  refine a_istore_n K (dq 3 rfl) rfl (Nat.le_of_ble_eq_true rfl) (ls' := [some (.ref (ρ 1 0)), some (.int a1), some (.int 0), some (.int a1), none]) rfl ?_
  refine a_iconst K (dq 4 rfl) (v := 0) rfl ?_
  refine a_istore K (dq 5 rfl) (Nat.le_of_ble_eq_true rfl) (ls' := [some (.ref (ρ 1 0)), some (.int a1), some (.int 0), some (.int a1), some (.int 0)]) rfl ?_
  refine a_le2 (ls' := [some (.ref (ρ 1 0)), none, some (.int 0), some (.int a1), some (.int 0)]) ⟨rfl, rfl, rfl, rfl, trivial⟩ ?_
  exact s_X1_tollsToRoot_L7 S   σ 400 0 a1 0 r h K hX
def t_X4_isFull : List (Nat × Instr × Nat) := [(0, .aload_n 0, 1), (1, .getfield 19, 3), (4, .aload_n 0, 1), (5, .getfield 9, 3), (8, .arraylength, 1), (9, .if_icmp .lt 7, 3), (12, .iconst 1, 1), (13, .goto 4, 3), (16, .iconst 0, 1), (17, .ireturn, 1)]
theorem dt_X4_isFull : tblOK cX4_isFull t_X4_isFull = true := by decide +kernel
def p_X4_isFull  (σ : Sg) : Option Int32 :=
  if (gI σ 9 0 1) < 60 then (some 0) else (some 1)
set_option maxRecDepth 20000 in
set_option maxHeartbeats 1000000 in
theorem s_X4_isFull {l : Launch} {D : va_G} {ty : Nat → ClassId} {ρ : Nat → Nat → Nat} {N0 : Nat} (S : St l ty ρ N0)   (σ : Sg) (r : Int32) (h : p_X4_isFull  σ = some r) : AMet l D ty ρ N0 yX4_isFull (Cond.code yX4_isFull cX4_isFull 1 (some .boolean) :: GW) (rmk 1 0 0) [.ref (ρ 9 0)] σ (oI r) σ := by
  refine am_enter S (by decide) rfl rfl (Nat.le_of_ble_eq_true rfl) ?_
  intro p e s m args below meth c K hX
  have dq := @tat _ _ dt_X4_isFull
  unfold p_X4_isFull at h
  show WA p l e _ s m args below meth c D ty ρ N0 1 _ 0 [some (.ref (ρ 9 0))] [] σ 0 0
  refine a_aload_n K (dq 0 rfl) rfl rfl ?_
  refine a_get K (T := 9) (i := 0) (k := 1) (v := .int (gI σ 9 0 1)) v_9 rfl rfl in_X4 (Nat.le_of_ble_eq_true rfl) fl_X4_19 rfl (dq 1 rfl) ?_
  refine a_aload_n K (dq 2 rfl) rfl rfl ?_
  refine a_get K (T := 9) (i := 0) (k := 0) (v := .ref (ρ 10 0)) v_9 rfl rfl in_X4 (Nat.le_of_ble_eq_true rfl) fl_X4_9 rfl (dq 3 rfl) ?_
  refine a_clen K (T := 10) (i := 0) (v := 60) v_10 rfl rfl rfl (dq 4 rfl) ?_
  refine a_icmp_lt K (tgt := 16) (dq 5 rfl) rfl (fun c1 => ?_) (fun c1 => ?_)
  · have h := ite_t c1 h
    refine a_iconst K (dq 8 rfl) (v := 0) rfl ?_
    obtain rfl := Option.some.inj h
    exact a_iret K rfl rfl (dq 9 rfl) (Nat.le_of_ble_eq_true rfl) (Nat.le_of_ble_eq_true rfl) rfl rfl
  · have h := ite_f c1 h
    refine a_iconst K (dq 6 rfl) (v := 1) rfl ?_
    refine a_goto K (tgt := 17) (dq 7 rfl) rfl ?_
    obtain rfl := Option.some.inj h
    exact a_iret K rfl rfl (dq 9 rfl) (Nat.le_of_ble_eq_true rfl) (Nat.le_of_ble_eq_true rfl) rfl rfl
def t_X4_add : List (Nat × Instr × Nat) := [(0, .aload_n 0, 1), (1, .getfield 19, 3), (4, .ifCond .lt 35, 3), (7, .aload_n 0, 1), (8, .getfield 19, 3), (11, .aload_n 0, 1), (12, .getfield 9, 3), (15, .arraylength, 1), (16, .if_icmp .ge 23, 3), (19, .aload_n 0, 1), (20, .getfield 9, 3), (23, .aload_n 0, 1), (24, .getfield 19, 3), (27, .iload_n 1, 1), (28, .castore, 1), (29, .aload_n 0, 1), (30, .dup, 1), (31, .getfield 19, 3), (34, .iconst 1, 1), (35, .iadd, 1), (36, .putfield 19, 3), (39, .return_, 1)]
theorem dt_X4_add : tblOK cX4_add t_X4_add = true := by decide +kernel
def p_X4_add (a1 : Int32) (σ : Sg) : Option Sg :=
  if (gI σ 9 0 1) < 0 then (some σ) else (if 60 ≤ (gI σ 9 0 1) then (some σ) else (if ib (gI σ 9 0 1) 60 then (some (sI (sA σ 10 0 (gI σ 9 0 1).toNatClampNeg (nch a1)) 9 0 1 ((gI (sA σ 10 0 (gI σ 9 0 1).toNatClampNeg (nch a1)) 9 0 1) + 1))) else none))
set_option maxRecDepth 20000 in
set_option maxHeartbeats 1000000 in
theorem s_X4_add {l : Launch} {D : va_G} {ty : Nat → ClassId} {ρ : Nat → Nat → Nat} {N0 : Nat} (S : St l ty ρ N0) (a1 : Int32)  (σ : Sg) (r : Sg) (h : p_X4_add a1 σ = some r) : AMet l D ty ρ N0 yX4_add (Cond.code yX4_add cX4_add 2 none :: GW) (rmk 1 0 0) [.ref (ρ 9 0), .int a1] σ (.inl none) r := by
  refine am_enter S (by decide) rfl rfl (Nat.le_of_ble_eq_true rfl) ?_
  intro p e s m args below meth c K hX
  have dq := @tat _ _ dt_X4_add
  unfold p_X4_add at h
  show WA p l e _ s m args below meth c D ty ρ N0 2 _ 0 [some (.ref (ρ 9 0)), some (.int a1)] [] σ 0 0
  refine a_aload_n K (dq 0 rfl) rfl rfl ?_
  refine a_get K (T := 9) (i := 0) (k := 1) (v := .int (gI σ 9 0 1)) v_9 rfl rfl in_X4 (Nat.le_of_ble_eq_true rfl) fl_X4_19 rfl (dq 1 rfl) ?_
  refine a_if_lt K (tgt := 39) (dq 2 rfl) rfl (fun c1 => ?_) (fun c1 => ?_)
  · have h := ite_t c1 h
    obtain rfl := Option.some.inj h
    exact a_vret K rfl (dq 21 rfl) (Nat.le_of_ble_eq_true rfl) (Nat.le_of_ble_eq_true rfl) rfl rfl
  · have h := ite_f c1 h
    refine a_aload_n K (dq 3 rfl) rfl rfl ?_
    refine a_get K (T := 9) (i := 0) (k := 1) (v := .int (gI σ 9 0 1)) v_9 rfl rfl in_X4 (Nat.le_of_ble_eq_true rfl) fl_X4_19 rfl (dq 4 rfl) ?_
    refine a_aload_n K (dq 5 rfl) rfl rfl ?_
    refine a_get K (T := 9) (i := 0) (k := 0) (v := .ref (ρ 10 0)) v_9 rfl rfl in_X4 (Nat.le_of_ble_eq_true rfl) fl_X4_9 rfl (dq 6 rfl) ?_
    refine a_clen K (T := 10) (i := 0) (v := 60) v_10 rfl rfl rfl (dq 7 rfl) ?_
    refine a_icmp_ge K (tgt := 39) (dq 8 rfl) rfl (fun c2 => ?_) (fun c2 => ?_)
    · have h := ite_t c2 h
      obtain rfl := Option.some.inj h
      exact a_vret K rfl (dq 21 rfl) (Nat.le_of_ble_eq_true rfl) (Nat.le_of_ble_eq_true rfl) rfl rfl
    · have h := ite_f c2 h
      refine a_aload_n K (dq 9 rfl) rfl rfl ?_
      refine a_get K (T := 9) (i := 0) (k := 0) (v := .ref (ρ 10 0)) v_9 rfl rfl in_X4 (Nat.le_of_ble_eq_true rfl) fl_X4_9 rfl (dq 10 rfl) ?_
      refine a_aload_n K (dq 11 rfl) rfl rfl ?_
      refine a_get K (T := 9) (i := 0) (k := 1) (v := .int (gI σ 9 0 1)) v_9 rfl rfl in_X4 (Nat.le_of_ble_eq_true rfl) fl_X4_19 rfl (dq 12 rfl) ?_
      refine a_iload_n K (dq 13 rfl) rfl rfl ?_
      obtain ⟨c3, h⟩ := ib_some h
      refine a_cast K (T := 10) (i := 0) v_10 rfl rfl c3 (dq 14 rfl) ?_
      refine a_aload_n K (dq 15 rfl) rfl rfl ?_
      refine a_dup K (dq 16 rfl) rfl ?_
      refine a_get K (T := 9) (i := 0) (k := 1) (v := .int (gI (sA σ 10 0 (gI σ 9 0 1).toNatClampNeg (nch a1)) 9 0 1)) v_9 rfl rfl in_X4 (Nat.le_of_ble_eq_true rfl) fl_X4_19 rfl (dq 17 rfl) ?_
      refine a_iconst K (dq 18 rfl) (v := 1) rfl ?_
      refine a_iadd K (dq 19 rfl) ?_
      refine a_put K (T := 9) (i := 0) (k := 1) v_9 rfl rfl in_X4 tyX4 tyX4_ok nmX4 (Nat.le_of_ble_eq_true rfl) fl_X4_19 rfl rfl (tyX4_ok 1 (by decide)) rfl rfl (dq 20 rfl) ?_
      obtain rfl := Option.some.inj h
      exact a_vret K rfl (dq 21 rfl) (Nat.le_of_ble_eq_true rfl) (Nat.le_of_ble_eq_true rfl) rfl rfl
def t_X4_length : List (Nat × Instr × Nat) := [(0, .aload_n 0, 1), (1, .getfield 19, 3), (4, .ireturn, 1)]
theorem dt_X4_length : tblOK cX4_length t_X4_length = true := by decide +kernel
def p_X4_length  (σ : Sg) : Option Int32 :=
  some (gI σ 9 0 1)
set_option maxRecDepth 20000 in
set_option maxHeartbeats 1000000 in
theorem s_X4_length {l : Launch} {D : va_G} {ty : Nat → ClassId} {ρ : Nat → Nat → Nat} {N0 : Nat} (S : St l ty ρ N0)   (σ : Sg) (r : Int32) (h : p_X4_length  σ = some r) : AMet l D ty ρ N0 yX4_length (Cond.code yX4_length cX4_length 1 (some .int) :: GW) (rmk 1 0 0) [.ref (ρ 9 0)] σ (oI r) σ := by
  refine am_enter S (by decide) rfl rfl (Nat.le_of_ble_eq_true rfl) ?_
  intro p e s m args below meth c K hX
  have dq := @tat _ _ dt_X4_length
  unfold p_X4_length at h
  show WA p l e _ s m args below meth c D ty ρ N0 1 _ 0 [some (.ref (ρ 9 0))] [] σ 0 0
  refine a_aload_n K (dq 0 rfl) rfl rfl ?_
  refine a_get K (T := 9) (i := 0) (k := 1) (v := .int (gI σ 9 0 1)) v_9 rfl rfl in_X4 (Nat.le_of_ble_eq_true rfl) fl_X4_19 rfl (dq 1 rfl) ?_
  obtain rfl := Option.some.inj h
  exact a_iret K rfl rfl (dq 2 rfl) (Nat.le_of_ble_eq_true rfl) (Nat.le_of_ble_eq_true rfl) rfl rfl
def t_X4_startReading : List (Nat × Instr × Nat) := [(0, .aload_n 0, 1), (1, .iconst 0, 1), (2, .putfield 23, 3), (5, .return_, 1)]
theorem dt_X4_startReading : tblOK cX4_startReading t_X4_startReading = true := by decide +kernel
def p_X4_startReading  (σ : Sg) : Option Sg :=
  some (sI σ 9 0 2 0)
set_option maxRecDepth 20000 in
set_option maxHeartbeats 1000000 in
theorem s_X4_startReading {l : Launch} {D : va_G} {ty : Nat → ClassId} {ρ : Nat → Nat → Nat} {N0 : Nat} (S : St l ty ρ N0)   (σ : Sg) (r : Sg) (h : p_X4_startReading  σ = some r) : AMet l D ty ρ N0 yX4_startReading (Cond.code yX4_startReading cX4_startReading 1 none :: GW) (rmk 1 0 0) [.ref (ρ 9 0)] σ (.inl none) r := by
  refine am_enter S (by decide) rfl rfl (Nat.le_of_ble_eq_true rfl) ?_
  intro p e s m args below meth c K hX
  have dq := @tat _ _ dt_X4_startReading
  unfold p_X4_startReading at h
  show WA p l e _ s m args below meth c D ty ρ N0 1 _ 0 [some (.ref (ρ 9 0))] [] σ 0 0
  refine a_aload_n K (dq 0 rfl) rfl rfl ?_
  refine a_iconst K (dq 1 rfl) (v := 0) rfl ?_
  refine a_put K (T := 9) (i := 0) (k := 2) v_9 rfl rfl in_X4 tyX4 tyX4_ok nmX4 (Nat.le_of_ble_eq_true rfl) fl_X4_23 rfl rfl (tyX4_ok 2 (by decide)) rfl rfl (dq 2 rfl) ?_
  obtain rfl := Option.some.inj h
  exact a_vret K rfl (dq 3 rfl) (Nat.le_of_ble_eq_true rfl) (Nat.le_of_ble_eq_true rfl) rfl rfl
def t_X4_current : List (Nat × Instr × Nat) := [(0, .aload_n 0, 1), (1, .getfield 23, 3), (4, .ifCond .lt 30, 3), (7, .aload_n 0, 1), (8, .getfield 23, 3), (11, .aload_n 0, 1), (12, .getfield 19, 3), (15, .if_icmp .ge 19, 3), (18, .aload_n 0, 1), (19, .getfield 23, 3), (22, .aload_n 0, 1), (23, .getfield 9, 3), (26, .arraylength, 1), (27, .if_icmp .ge 7, 3), (30, .iconst 1, 1), (31, .goto 4, 3), (34, .iconst 0, 1), (35, .istore_n 1, 1), (36, .iload_n 1, 1), (37, .ifCond .eq 15, 3), (40, .aload_n 0, 1), (41, .getfield 9, 3), (44, .aload_n 0, 1), (45, .getfield 23, 3), (48, .caload, 1), (49, .goto 4, 3), (52, .iconst 0, 1), (53, .ireturn, 1)]
theorem dt_X4_current : tblOK cX4_current t_X4_current = true := by decide +kernel
def p_X4_current  (σ : Sg) : Option Int32 :=
  if (gI σ 9 0 2) < 0 then (some (nch 0)) else (if (gI σ 9 0 1) ≤ (gI σ 9 0 2) then (some (nch 0)) else (if 60 ≤ (gI σ 9 0 2) then (some (nch 0)) else (if ib (gI σ 9 0 2) 60 then (some (nch (gA σ 10 0 (gI σ 9 0 2).toNatClampNeg))) else none)))
set_option maxRecDepth 20000 in
set_option maxHeartbeats 1000000 in
theorem s_X4_current {l : Launch} {D : va_G} {ty : Nat → ClassId} {ρ : Nat → Nat → Nat} {N0 : Nat} (S : St l ty ρ N0)   (σ : Sg) (r : Int32) (h : p_X4_current  σ = some r) : AMet l D ty ρ N0 yX4_current (Cond.code yX4_current cX4_current 2 (some .char) :: GW) (rmk 1 0 0) [.ref (ρ 9 0)] σ (oI r) σ := by
  refine am_enter S (by decide) rfl rfl (Nat.le_of_ble_eq_true rfl) ?_
  intro p e s m args below meth c K hX
  have dq := @tat _ _ dt_X4_current
  unfold p_X4_current at h
  show WA p l e _ s m args below meth c D ty ρ N0 2 _ 0 [some (.ref (ρ 9 0)), none] [] σ 0 0
  refine a_aload_n K (dq 0 rfl) rfl rfl ?_
  refine a_get K (T := 9) (i := 0) (k := 2) (v := .int (gI σ 9 0 2)) v_9 rfl rfl in_X4 (Nat.le_of_ble_eq_true rfl) fl_X4_23 rfl (dq 1 rfl) ?_
  refine a_if_lt K (tgt := 34) (dq 2 rfl) rfl (fun c1 => ?_) (fun c1 => ?_)
  · have h := ite_t c1 h
    refine a_iconst K (dq 16 rfl) (v := 0) rfl ?_
    refine a_istore_n K (dq 17 rfl) rfl (Nat.le_of_ble_eq_true rfl) (ls' := [some (.ref (ρ 9 0)), some (.int 0)]) rfl ?_
    refine a_iload_n K (dq 18 rfl) rfl rfl ?_
    refine a_if_eq K (tgt := 52) (dq 19 rfl) rfl (fun c2 => ?_) (fun c2 => ?_)
    · refine a_iconst K (dq 26 rfl) (v := 0) rfl ?_
      obtain rfl := Option.some.inj h
      exact a_iret K rfl rfl (dq 27 rfl) (Nat.le_of_ble_eq_true rfl) (Nat.le_of_ble_eq_true rfl) rfl rfl
    · exact absurd c2 (by decide)
  · have h := ite_f c1 h
    refine a_aload_n K (dq 3 rfl) rfl rfl ?_
    refine a_get K (T := 9) (i := 0) (k := 2) (v := .int (gI σ 9 0 2)) v_9 rfl rfl in_X4 (Nat.le_of_ble_eq_true rfl) fl_X4_23 rfl (dq 4 rfl) ?_
    refine a_aload_n K (dq 5 rfl) rfl rfl ?_
    refine a_get K (T := 9) (i := 0) (k := 1) (v := .int (gI σ 9 0 1)) v_9 rfl rfl in_X4 (Nat.le_of_ble_eq_true rfl) fl_X4_19 rfl (dq 6 rfl) ?_
    refine a_icmp_ge K (tgt := 34) (dq 7 rfl) rfl (fun c3 => ?_) (fun c3 => ?_)
    · have h := ite_t c3 h
      refine a_iconst K (dq 16 rfl) (v := 0) rfl ?_
      refine a_istore_n K (dq 17 rfl) rfl (Nat.le_of_ble_eq_true rfl) (ls' := [some (.ref (ρ 9 0)), some (.int 0)]) rfl ?_
      refine a_iload_n K (dq 18 rfl) rfl rfl ?_
      refine a_if_eq K (tgt := 52) (dq 19 rfl) rfl (fun c4 => ?_) (fun c4 => ?_)
      · refine a_iconst K (dq 26 rfl) (v := 0) rfl ?_
        obtain rfl := Option.some.inj h
        exact a_iret K rfl rfl (dq 27 rfl) (Nat.le_of_ble_eq_true rfl) (Nat.le_of_ble_eq_true rfl) rfl rfl
      · exact absurd c4 (by decide)
    · have h := ite_f c3 h
      refine a_aload_n K (dq 8 rfl) rfl rfl ?_
      refine a_get K (T := 9) (i := 0) (k := 2) (v := .int (gI σ 9 0 2)) v_9 rfl rfl in_X4 (Nat.le_of_ble_eq_true rfl) fl_X4_23 rfl (dq 9 rfl) ?_
      refine a_aload_n K (dq 10 rfl) rfl rfl ?_
      refine a_get K (T := 9) (i := 0) (k := 0) (v := .ref (ρ 10 0)) v_9 rfl rfl in_X4 (Nat.le_of_ble_eq_true rfl) fl_X4_9 rfl (dq 11 rfl) ?_
      refine a_clen K (T := 10) (i := 0) (v := 60) v_10 rfl rfl rfl (dq 12 rfl) ?_
      refine a_icmp_ge K (tgt := 34) (dq 13 rfl) rfl (fun c5 => ?_) (fun c5 => ?_)
      · have h := ite_t c5 h
        refine a_iconst K (dq 16 rfl) (v := 0) rfl ?_
        refine a_istore_n K (dq 17 rfl) rfl (Nat.le_of_ble_eq_true rfl) (ls' := [some (.ref (ρ 9 0)), some (.int 0)]) rfl ?_
        refine a_iload_n K (dq 18 rfl) rfl rfl ?_
        refine a_if_eq K (tgt := 52) (dq 19 rfl) rfl (fun c6 => ?_) (fun c6 => ?_)
        · refine a_iconst K (dq 26 rfl) (v := 0) rfl ?_
          obtain rfl := Option.some.inj h
          exact a_iret K rfl rfl (dq 27 rfl) (Nat.le_of_ble_eq_true rfl) (Nat.le_of_ble_eq_true rfl) rfl rfl
        · exact absurd c6 (by decide)
      · have h := ite_f c5 h
        refine a_iconst K (dq 14 rfl) (v := 1) rfl ?_
        refine a_goto K (tgt := 35) (dq 15 rfl) rfl ?_
        refine a_istore_n K (dq 17 rfl) rfl (Nat.le_of_ble_eq_true rfl) (ls' := [some (.ref (ρ 9 0)), some (.int 1)]) rfl ?_
        refine a_iload_n K (dq 18 rfl) rfl rfl ?_
        refine a_if_eq K (tgt := 52) (dq 19 rfl) rfl (fun c7 => ?_) (fun c7 => ?_)
        · exact absurd c7 (by decide)
        · refine a_aload_n K (dq 20 rfl) rfl rfl ?_
          refine a_get K (T := 9) (i := 0) (k := 0) (v := .ref (ρ 10 0)) v_9 rfl rfl in_X4 (Nat.le_of_ble_eq_true rfl) fl_X4_9 rfl (dq 21 rfl) ?_
          refine a_aload_n K (dq 22 rfl) rfl rfl ?_
          refine a_get K (T := 9) (i := 0) (k := 2) (v := .int (gI σ 9 0 2)) v_9 rfl rfl in_X4 (Nat.le_of_ble_eq_true rfl) fl_X4_23 rfl (dq 23 rfl) ?_
          obtain ⟨c8, h⟩ := ib_some h
          refine a_cald K (T := 10) (i := 0) v_10 rfl rfl c8 (dq 24 rfl) ?_
          refine a_goto K (tgt := 53) (dq 25 rfl) rfl ?_
          obtain rfl := Option.some.inj h
          exact a_iret K rfl rfl (dq 27 rfl) (Nat.le_of_ble_eq_true rfl) (Nat.le_of_ble_eq_true rfl) rfl rfl
def t_X4_isDigit : List (Nat × Instr × Nat) := [(0, .iload_n 0, 1), (1, .bipush 48, 2), (3, .if_icmp .lt 13, 3), (6, .iload_n 0, 1), (7, .bipush 57, 2), (9, .if_icmp .gt 7, 3), (12, .iconst 1, 1), (13, .goto 4, 3), (16, .iconst 0, 1), (17, .ireturn, 1)]
theorem dt_X4_isDigit : tblOK cX4_isDigit t_X4_isDigit = true := by decide +kernel
def p_X4_isDigit (a0 : Int32) (σ : Sg) : Option Int32 :=
  if a0 < 48 then (some 0) else (if 57 < a0 then (some 0) else (some 1))
set_option maxRecDepth 20000 in
set_option maxHeartbeats 1000000 in
theorem s_X4_isDigit {l : Launch} {D : va_G} {ty : Nat → ClassId} {ρ : Nat → Nat → Nat} {N0 : Nat} (S : St l ty ρ N0) (a0 : Int32)  (σ : Sg) (r : Int32) (h : p_X4_isDigit a0 σ = some r) : AMet l D ty ρ N0 yX4_isDigit (Cond.code yX4_isDigit cX4_isDigit 1 (some .boolean) :: GW) (rmk 1 0 0) [.int a0] σ (oI r) σ := by
  refine am_enter S (by decide) rfl rfl (Nat.le_of_ble_eq_true rfl) ?_
  intro p e s m args below meth c K hX
  have dq := @tat _ _ dt_X4_isDigit
  unfold p_X4_isDigit at h
  show WA p l e _ s m args below meth c D ty ρ N0 1 _ 0 [some (.int a0)] [] σ 0 0
  refine a_iload_n K (dq 0 rfl) rfl rfl ?_
  refine a_bipush K (dq 1 rfl) (v := 48) rfl ?_
  refine a_icmp_lt K (tgt := 16) (dq 2 rfl) rfl (fun c1 => ?_) (fun c1 => ?_)
  · have h := ite_t c1 h
    refine a_iconst K (dq 8 rfl) (v := 0) rfl ?_
    obtain rfl := Option.some.inj h
    exact a_iret K rfl rfl (dq 9 rfl) (Nat.le_of_ble_eq_true rfl) (Nat.le_of_ble_eq_true rfl) rfl rfl
  · have h := ite_f c1 h
    refine a_iload_n K (dq 3 rfl) rfl rfl ?_
    refine a_bipush K (dq 4 rfl) (v := 57) rfl ?_
    refine a_icmp_gt K (tgt := 16) (dq 5 rfl) rfl (fun c2 => ?_) (fun c2 => ?_)
    · have h := ite_t c2 h
      refine a_iconst K (dq 8 rfl) (v := 0) rfl ?_
      obtain rfl := Option.some.inj h
      exact a_iret K rfl rfl (dq 9 rfl) (Nat.le_of_ble_eq_true rfl) (Nat.le_of_ble_eq_true rfl) rfl rfl
    · have h := ite_f c2 h
      refine a_iconst K (dq 6 rfl) (v := 1) rfl ?_
      refine a_goto K (tgt := 17) (dq 7 rfl) rfl ?_
      obtain rfl := Option.some.inj h
      exact a_iret K rfl rfl (dq 9 rfl) (Nat.le_of_ble_eq_true rfl) (Nat.le_of_ble_eq_true rfl) rfl rfl
def t_X4_readNumber : List (Nat × Instr × Nat) := [(0, .iconst 0, 1), (1, .istore_n 2, 1), (2, .iconst 0, 1), (3, .istore_n 3, 1), (4, .iload_n 3, 1), (5, .iload_n 1, 1), (6, .if_icmp .ge 42, 3), (9, .aload_n 0, 1), (10, .invokevirtual 36, 3), (13, .invokestatic 81, 3), (16, .ifCond .eq 32, 3), (19, .iload_n 2, 1), (20, .bipush 10, 2), (22, .imul, 1), (23, .aload_n 0, 1), (24, .invokevirtual 36, 3), (27, .bipush 48, 2), (29, .isub, 1), (30, .iadd, 1), (31, .istore_n 2, 1), (32, .aload_n 0, 1), (33, .dup, 1), (34, .getfield 23, 3), (37, .iconst 1, 1), (38, .iadd, 1), (39, .putfield 23, 3), (42, .iinc 3 1, 3), (45, .goto (-41), 3), (48, .iload_n 3, 1), (49, .ifCond .le 47, 3), (52, .aload_n 0, 1), (53, .getfield 52, 3), (56, .ifCond .lt 40, 3), (59, .aload_n 0, 1), (60, .getfield 52, 3), (63, .aload_n 0, 1), (64, .getfield 15, 3), (67, .arraylength, 1), (68, .if_icmp .ge 28, 3), (71, .aload_n 0, 1), (72, .getfield 15, 3), (75, .aload_n 0, 1), (76, .getfield 52, 3), (79, .aload_n 0, 1), (80, .getfield 55, 3), (83, .iload_n 2, 1), (84, .imul, 1), (85, .iastore, 1), (86, .aload_n 0, 1), (87, .dup, 1), (88, .getfield 52, 3), (91, .iconst 1, 1), (92, .iadd, 1), (93, .putfield 52, 3), (96, .iload_n 3, 1), (97, .ifCond .le 7, 3), (100, .iconst 1, 1), (101, .goto 4, 3), (104, .iconst 0, 1), (105, .ireturn, 1)]
theorem dt_X4_readNumber : tblOK cX4_readNumber t_X4_readNumber = true := by decide +kernel
def p_X4_readNumber_L4  : Nat → Int32 → Int32 → Int32 → Sg → Option ((Int32 × Sg))
  | 0, _, _, _, _ => none
  | n + 1, v1, v2, v3, σ => if v1 ≤ v3 then (if v3 ≤ 0 then (if v3 ≤ 0 then (some (0, σ)) else (some (1, σ))) else (if (gI σ 9 0 5) < 0 then (if v3 ≤ 0 then (some (0, σ)) else (some (1, σ))) else (if 3 ≤ (gI σ 9 0 5) then (if v3 ≤ 0 then (some (0, σ)) else (some (1, σ))) else (if ib (gI σ 9 0 5) 3 then (if v3 ≤ 0 then (some (0, sI (sA σ 11 0 (gI σ 9 0 5).toNatClampNeg ((gI σ 9 0 6) * v2)) 9 0 5 ((gI (sA σ 11 0 (gI σ 9 0 5).toNatClampNeg ((gI σ 9 0 6) * v2)) 9 0 5) + 1))) else (some (1, sI (sA σ 11 0 (gI σ 9 0 5).toNatClampNeg ((gI σ 9 0 6) * v2)) 9 0 5 ((gI (sA σ 11 0 (gI σ 9 0 5).toNatClampNeg ((gI σ 9 0 6) * v2)) 9 0 5) + 1)))) else none)))) else ((p_X4_current  σ).bind fun r10 => (p_X4_isDigit r10 σ).bind fun r11 => if r11 = 0 then (if v3 ≤ 0 then (if v3 ≤ 0 then (some (0, σ)) else (some (1, σ))) else (if (gI σ 9 0 5) < 0 then (if v3 ≤ 0 then (some (0, σ)) else (some (1, σ))) else (if 3 ≤ (gI σ 9 0 5) then (if v3 ≤ 0 then (some (0, σ)) else (some (1, σ))) else (if ib (gI σ 9 0 5) 3 then (if v3 ≤ 0 then (some (0, sI (sA σ 11 0 (gI σ 9 0 5).toNatClampNeg ((gI σ 9 0 6) * v2)) 9 0 5 ((gI (sA σ 11 0 (gI σ 9 0 5).toNatClampNeg ((gI σ 9 0 6) * v2)) 9 0 5) + 1))) else (some (1, sI (sA σ 11 0 (gI σ 9 0 5).toNatClampNeg ((gI σ 9 0 6) * v2)) 9 0 5 ((gI (sA σ 11 0 (gI σ 9 0 5).toNatClampNeg ((gI σ 9 0 6) * v2)) 9 0 5) + 1)))) else none)))) else ((p_X4_current  σ).bind fun r21 => p_X4_readNumber_L4 n v1 ((v2 * 10) + (r21 - 48)) (v3 + 1) (sI σ 9 0 2 ((gI σ 9 0 2) + 1))))
def p_X4_readNumber (a1 : Int32) (σ : Sg) : Option (Int32 × Sg) :=
  p_X4_readNumber_L4 400 a1 0 0 σ
set_option maxRecDepth 20000 in
set_option maxHeartbeats 1000000 in
theorem s_X4_readNumber_L4 {l : Launch} {D : va_G} {ty : Nat → ClassId} {ρ : Nat → Nat → Nat} {N0 : Nat} (S : St l ty ρ N0)   : ∀ (n : Nat) (v1 : Int32) (v2 : Int32) (v3 : Int32) (σ : Sg) (r : (Int32 × Sg)) (h : p_X4_readNumber_L4  n v1 v2 v3 σ = some r) {p : Program} {e : Env} {s : State} {m : MethodId} {args : Array Value} {below : List Frame} {meth : Method} {c : Code} (K : Cx p l s m args meth c cX4_readNumber 4 RX4 (some .boolean) D ty ρ N0) (hX : ∀ x ∈ c.exceptionTable.toList, False), WA p l e (rmk 2 0 0) s m args below meth c D ty ρ N0 4 (vx_MQ below (oQ D ty ρ N0 (oI r.1) r.2) (oX D ty ρ N0 (oI r.1) r.2) args s 0 0 (fun q => N0 ≤ q)) 4 [some (.ref (ρ 9 0)), some (.int v1), some (.int v2), some (.int v3)] [] σ 0 0 := by
  intro n
  induction n with
  | zero =>
    intro v1 v2 v3 σ r h
    simp only [p_X4_readNumber_L4] at h
    cases h
  | succ n ih =>
    intro v1 v2 v3 σ r h p e s m args below meth c K hX
    have dq := @tat _ _ dt_X4_readNumber
    rw [p_X4_readNumber_L4] at h
    refine a_iload_n K (dq 4 rfl) rfl rfl ?_
    refine a_iload_n K (dq 5 rfl) rfl rfl ?_
    refine a_icmp_ge K (tgt := 48) (dq 6 rfl) rfl (fun c1 => ?_) (fun c1 => ?_)
    · have h := ite_t c1 h
      refine a_iload_n K (dq 28 rfl) rfl rfl ?_
      refine a_if_le K (tgt := 96) (dq 29 rfl) rfl (fun c2 => ?_) (fun c2 => ?_)
      · have h := ite_t c2 h
        refine a_iload_n K (dq 54 rfl) rfl rfl ?_
        refine a_if_le K (tgt := 104) (dq 55 rfl) rfl (fun c3 => ?_) (fun c3 => ?_)
        · have h := ite_t c3 h
          refine a_iconst K (dq 58 rfl) (v := 0) rfl ?_
          obtain rfl := Option.some.inj h
          exact a_iret K rfl rfl (dq 59 rfl) (Nat.le_of_ble_eq_true rfl) (Nat.le_of_ble_eq_true rfl) rfl rfl
        · have h := ite_f c3 h
          refine a_iconst K (dq 56 rfl) (v := 1) rfl ?_
          refine a_goto K (tgt := 105) (dq 57 rfl) rfl ?_
          obtain rfl := Option.some.inj h
          exact a_iret K rfl rfl (dq 59 rfl) (Nat.le_of_ble_eq_true rfl) (Nat.le_of_ble_eq_true rfl) rfl rfl
      · have h := ite_f c2 h
        refine a_aload_n K (dq 30 rfl) rfl rfl ?_
        refine a_get K (T := 9) (i := 0) (k := 5) (v := .int (gI σ 9 0 5)) v_9 rfl rfl in_X4 (Nat.le_of_ble_eq_true rfl) fl_X4_52 rfl (dq 31 rfl) ?_
        refine a_if_lt K (tgt := 96) (dq 32 rfl) rfl (fun c4 => ?_) (fun c4 => ?_)
        · have h := ite_t c4 h
          refine a_iload_n K (dq 54 rfl) rfl rfl ?_
          refine a_if_le K (tgt := 104) (dq 55 rfl) rfl (fun c5 => ?_) (fun c5 => ?_)
          · have h := ite_t c5 h
            refine a_iconst K (dq 58 rfl) (v := 0) rfl ?_
            obtain rfl := Option.some.inj h
            exact a_iret K rfl rfl (dq 59 rfl) (Nat.le_of_ble_eq_true rfl) (Nat.le_of_ble_eq_true rfl) rfl rfl
          · have h := ite_f c5 h
            refine a_iconst K (dq 56 rfl) (v := 1) rfl ?_
            refine a_goto K (tgt := 105) (dq 57 rfl) rfl ?_
            obtain rfl := Option.some.inj h
            exact a_iret K rfl rfl (dq 59 rfl) (Nat.le_of_ble_eq_true rfl) (Nat.le_of_ble_eq_true rfl) rfl rfl
        · have h := ite_f c4 h
          refine a_aload_n K (dq 33 rfl) rfl rfl ?_
          refine a_get K (T := 9) (i := 0) (k := 5) (v := .int (gI σ 9 0 5)) v_9 rfl rfl in_X4 (Nat.le_of_ble_eq_true rfl) fl_X4_52 rfl (dq 34 rfl) ?_
          refine a_aload_n K (dq 35 rfl) rfl rfl ?_
          refine a_get K (T := 9) (i := 0) (k := 4) (v := .ref (ρ 11 0)) v_9 rfl rfl in_X4 (Nat.le_of_ble_eq_true rfl) fl_X4_15 rfl (dq 36 rfl) ?_
          refine a_ilen K (T := 11) (i := 0) (v := 3) v_11 rfl rfl rfl (dq 37 rfl) ?_
          refine a_icmp_ge K (tgt := 96) (dq 38 rfl) rfl (fun c6 => ?_) (fun c6 => ?_)
          · have h := ite_t c6 h
            refine a_iload_n K (dq 54 rfl) rfl rfl ?_
            refine a_if_le K (tgt := 104) (dq 55 rfl) rfl (fun c7 => ?_) (fun c7 => ?_)
            · have h := ite_t c7 h
              refine a_iconst K (dq 58 rfl) (v := 0) rfl ?_
              obtain rfl := Option.some.inj h
              exact a_iret K rfl rfl (dq 59 rfl) (Nat.le_of_ble_eq_true rfl) (Nat.le_of_ble_eq_true rfl) rfl rfl
            · have h := ite_f c7 h
              refine a_iconst K (dq 56 rfl) (v := 1) rfl ?_
              refine a_goto K (tgt := 105) (dq 57 rfl) rfl ?_
              obtain rfl := Option.some.inj h
              exact a_iret K rfl rfl (dq 59 rfl) (Nat.le_of_ble_eq_true rfl) (Nat.le_of_ble_eq_true rfl) rfl rfl
          · have h := ite_f c6 h
            refine a_aload_n K (dq 39 rfl) rfl rfl ?_
            refine a_get K (T := 9) (i := 0) (k := 4) (v := .ref (ρ 11 0)) v_9 rfl rfl in_X4 (Nat.le_of_ble_eq_true rfl) fl_X4_15 rfl (dq 40 rfl) ?_
            refine a_aload_n K (dq 41 rfl) rfl rfl ?_
            refine a_get K (T := 9) (i := 0) (k := 5) (v := .int (gI σ 9 0 5)) v_9 rfl rfl in_X4 (Nat.le_of_ble_eq_true rfl) fl_X4_52 rfl (dq 42 rfl) ?_
            refine a_aload_n K (dq 43 rfl) rfl rfl ?_
            refine a_get K (T := 9) (i := 0) (k := 6) (v := .int (gI σ 9 0 6)) v_9 rfl rfl in_X4 (Nat.le_of_ble_eq_true rfl) fl_X4_55 rfl (dq 44 rfl) ?_
            refine a_iload_n K (dq 45 rfl) rfl rfl ?_
            refine a_imul K (dq 46 rfl) ?_
            obtain ⟨c8, h⟩ := ib_some h
            refine a_iast K (T := 11) (i := 0) v_11 rfl rfl c8 (dq 47 rfl) ?_
            refine a_aload_n K (dq 48 rfl) rfl rfl ?_
            refine a_dup K (dq 49 rfl) rfl ?_
            refine a_get K (T := 9) (i := 0) (k := 5) (v := .int (gI (sA σ 11 0 (gI σ 9 0 5).toNatClampNeg ((gI σ 9 0 6) * v2)) 9 0 5)) v_9 rfl rfl in_X4 (Nat.le_of_ble_eq_true rfl) fl_X4_52 rfl (dq 50 rfl) ?_
            refine a_iconst K (dq 51 rfl) (v := 1) rfl ?_
            refine a_iadd K (dq 52 rfl) ?_
            refine a_put K (T := 9) (i := 0) (k := 5) v_9 rfl rfl in_X4 tyX4 tyX4_ok nmX4 (Nat.le_of_ble_eq_true rfl) fl_X4_52 rfl rfl (tyX4_ok 5 (by decide)) rfl rfl (dq 53 rfl) ?_
            refine a_iload_n K (dq 54 rfl) rfl rfl ?_
            refine a_if_le K (tgt := 104) (dq 55 rfl) rfl (fun c9 => ?_) (fun c9 => ?_)
            · have h := ite_t c9 h
              refine a_iconst K (dq 58 rfl) (v := 0) rfl ?_
              obtain rfl := Option.some.inj h
              exact a_iret K rfl rfl (dq 59 rfl) (Nat.le_of_ble_eq_true rfl) (Nat.le_of_ble_eq_true rfl) rfl rfl
            · have h := ite_f c9 h
              refine a_iconst K (dq 56 rfl) (v := 1) rfl ?_
              refine a_goto K (tgt := 105) (dq 57 rfl) rfl ?_
              obtain rfl := Option.some.inj h
              exact a_iret K rfl rfl (dq 59 rfl) (Nat.le_of_ble_eq_true rfl) (Nat.le_of_ble_eq_true rfl) rfl rfl
    · have h := ite_f c1 h
      refine a_aload_n K (dq 7 rfl) rfl rfl ?_
      obtain ⟨r10, h10, h⟩ := bnd h
      refine a_callVi K (s_X4_current S   σ r10 h10) v_9 rfl rfl cw_X4_current ml_X4_36 (by decide) rfl (rest := []) rfl (Nat.le_of_ble_eq_true rfl) (dq 8 rfl) (by decide) ?_
      obtain ⟨r11, h11, h⟩ := bnd h
      refine a_callSi K (s_X4_isDigit S r10  σ r11 h11) cw_X4_isDigit ml_X4_81 (by decide) rfl (rest := []) rfl (Nat.le_of_ble_eq_true rfl) (dq 9 rfl) (by decide) ?_
      refine a_if_eq K (tgt := 48) (dq 10 rfl) rfl (fun c12 => ?_) (fun c12 => ?_)
      · have h := ite_t c12 h
        refine a_iload_n K (dq 28 rfl) rfl rfl ?_
        refine a_if_le K (tgt := 96) (dq 29 rfl) rfl (fun c13 => ?_) (fun c13 => ?_)
        · have h := ite_t c13 h
          refine a_iload_n K (dq 54 rfl) rfl rfl ?_
          refine a_if_le K (tgt := 104) (dq 55 rfl) rfl (fun c14 => ?_) (fun c14 => ?_)
          · have h := ite_t c14 h
            refine a_iconst K (dq 58 rfl) (v := 0) rfl ?_
            obtain rfl := Option.some.inj h
            exact a_iret K rfl rfl (dq 59 rfl) (Nat.le_of_ble_eq_true rfl) (Nat.le_of_ble_eq_true rfl) rfl rfl
          · have h := ite_f c14 h
            refine a_iconst K (dq 56 rfl) (v := 1) rfl ?_
            refine a_goto K (tgt := 105) (dq 57 rfl) rfl ?_
            obtain rfl := Option.some.inj h
            exact a_iret K rfl rfl (dq 59 rfl) (Nat.le_of_ble_eq_true rfl) (Nat.le_of_ble_eq_true rfl) rfl rfl
        · have h := ite_f c13 h
          refine a_aload_n K (dq 30 rfl) rfl rfl ?_
          refine a_get K (T := 9) (i := 0) (k := 5) (v := .int (gI σ 9 0 5)) v_9 rfl rfl in_X4 (Nat.le_of_ble_eq_true rfl) fl_X4_52 rfl (dq 31 rfl) ?_
          refine a_if_lt K (tgt := 96) (dq 32 rfl) rfl (fun c15 => ?_) (fun c15 => ?_)
          · have h := ite_t c15 h
            refine a_iload_n K (dq 54 rfl) rfl rfl ?_
            refine a_if_le K (tgt := 104) (dq 55 rfl) rfl (fun c16 => ?_) (fun c16 => ?_)
            · have h := ite_t c16 h
              refine a_iconst K (dq 58 rfl) (v := 0) rfl ?_
              obtain rfl := Option.some.inj h
              exact a_iret K rfl rfl (dq 59 rfl) (Nat.le_of_ble_eq_true rfl) (Nat.le_of_ble_eq_true rfl) rfl rfl
            · have h := ite_f c16 h
              refine a_iconst K (dq 56 rfl) (v := 1) rfl ?_
              refine a_goto K (tgt := 105) (dq 57 rfl) rfl ?_
              obtain rfl := Option.some.inj h
              exact a_iret K rfl rfl (dq 59 rfl) (Nat.le_of_ble_eq_true rfl) (Nat.le_of_ble_eq_true rfl) rfl rfl
          · have h := ite_f c15 h
            refine a_aload_n K (dq 33 rfl) rfl rfl ?_
            refine a_get K (T := 9) (i := 0) (k := 5) (v := .int (gI σ 9 0 5)) v_9 rfl rfl in_X4 (Nat.le_of_ble_eq_true rfl) fl_X4_52 rfl (dq 34 rfl) ?_
            refine a_aload_n K (dq 35 rfl) rfl rfl ?_
            refine a_get K (T := 9) (i := 0) (k := 4) (v := .ref (ρ 11 0)) v_9 rfl rfl in_X4 (Nat.le_of_ble_eq_true rfl) fl_X4_15 rfl (dq 36 rfl) ?_
            refine a_ilen K (T := 11) (i := 0) (v := 3) v_11 rfl rfl rfl (dq 37 rfl) ?_
            refine a_icmp_ge K (tgt := 96) (dq 38 rfl) rfl (fun c17 => ?_) (fun c17 => ?_)
            · have h := ite_t c17 h
              refine a_iload_n K (dq 54 rfl) rfl rfl ?_
              refine a_if_le K (tgt := 104) (dq 55 rfl) rfl (fun c18 => ?_) (fun c18 => ?_)
              · have h := ite_t c18 h
                refine a_iconst K (dq 58 rfl) (v := 0) rfl ?_
                obtain rfl := Option.some.inj h
                exact a_iret K rfl rfl (dq 59 rfl) (Nat.le_of_ble_eq_true rfl) (Nat.le_of_ble_eq_true rfl) rfl rfl
              · have h := ite_f c18 h
                refine a_iconst K (dq 56 rfl) (v := 1) rfl ?_
                refine a_goto K (tgt := 105) (dq 57 rfl) rfl ?_
                obtain rfl := Option.some.inj h
                exact a_iret K rfl rfl (dq 59 rfl) (Nat.le_of_ble_eq_true rfl) (Nat.le_of_ble_eq_true rfl) rfl rfl
            · have h := ite_f c17 h
              refine a_aload_n K (dq 39 rfl) rfl rfl ?_
              refine a_get K (T := 9) (i := 0) (k := 4) (v := .ref (ρ 11 0)) v_9 rfl rfl in_X4 (Nat.le_of_ble_eq_true rfl) fl_X4_15 rfl (dq 40 rfl) ?_
              refine a_aload_n K (dq 41 rfl) rfl rfl ?_
              refine a_get K (T := 9) (i := 0) (k := 5) (v := .int (gI σ 9 0 5)) v_9 rfl rfl in_X4 (Nat.le_of_ble_eq_true rfl) fl_X4_52 rfl (dq 42 rfl) ?_
              refine a_aload_n K (dq 43 rfl) rfl rfl ?_
              refine a_get K (T := 9) (i := 0) (k := 6) (v := .int (gI σ 9 0 6)) v_9 rfl rfl in_X4 (Nat.le_of_ble_eq_true rfl) fl_X4_55 rfl (dq 44 rfl) ?_
              refine a_iload_n K (dq 45 rfl) rfl rfl ?_
              refine a_imul K (dq 46 rfl) ?_
              obtain ⟨c19, h⟩ := ib_some h
              refine a_iast K (T := 11) (i := 0) v_11 rfl rfl c19 (dq 47 rfl) ?_
              refine a_aload_n K (dq 48 rfl) rfl rfl ?_
              refine a_dup K (dq 49 rfl) rfl ?_
              refine a_get K (T := 9) (i := 0) (k := 5) (v := .int (gI (sA σ 11 0 (gI σ 9 0 5).toNatClampNeg ((gI σ 9 0 6) * v2)) 9 0 5)) v_9 rfl rfl in_X4 (Nat.le_of_ble_eq_true rfl) fl_X4_52 rfl (dq 50 rfl) ?_
              refine a_iconst K (dq 51 rfl) (v := 1) rfl ?_
              refine a_iadd K (dq 52 rfl) ?_
              refine a_put K (T := 9) (i := 0) (k := 5) v_9 rfl rfl in_X4 tyX4 tyX4_ok nmX4 (Nat.le_of_ble_eq_true rfl) fl_X4_52 rfl rfl (tyX4_ok 5 (by decide)) rfl rfl (dq 53 rfl) ?_
              refine a_iload_n K (dq 54 rfl) rfl rfl ?_
              refine a_if_le K (tgt := 104) (dq 55 rfl) rfl (fun c20 => ?_) (fun c20 => ?_)
              · have h := ite_t c20 h
                refine a_iconst K (dq 58 rfl) (v := 0) rfl ?_
                obtain rfl := Option.some.inj h
                exact a_iret K rfl rfl (dq 59 rfl) (Nat.le_of_ble_eq_true rfl) (Nat.le_of_ble_eq_true rfl) rfl rfl
              · have h := ite_f c20 h
                refine a_iconst K (dq 56 rfl) (v := 1) rfl ?_
                refine a_goto K (tgt := 105) (dq 57 rfl) rfl ?_
                obtain rfl := Option.some.inj h
                exact a_iret K rfl rfl (dq 59 rfl) (Nat.le_of_ble_eq_true rfl) (Nat.le_of_ble_eq_true rfl) rfl rfl
      · have h := ite_f c12 h
        refine a_iload_n K (dq 11 rfl) rfl rfl ?_
        refine a_bipush K (dq 12 rfl) (v := 10) rfl ?_
        refine a_imul K (dq 13 rfl) ?_
        refine a_aload_n K (dq 14 rfl) rfl rfl ?_
        obtain ⟨r21, h21, h⟩ := bnd h
        refine a_callVi K (s_X4_current S   σ r21 h21) v_9 rfl rfl cw_X4_current ml_X4_36 (by decide) rfl (rest := [.int (v2 * 10)]) rfl (Nat.le_of_ble_eq_true rfl) (dq 15 rfl) (by decide) ?_
        refine a_bipush K (dq 16 rfl) (v := 48) rfl ?_
        refine a_isub K (dq 17 rfl) ?_
        refine a_iadd K (dq 18 rfl) ?_
        refine a_istore_n K (dq 19 rfl) rfl (Nat.le_of_ble_eq_true rfl) (ls' := [some (.ref (ρ 9 0)), some (.int v1), some (.int ((v2 * 10) + (r21 - 48))), some (.int v3)]) rfl ?_
        refine a_aload_n K (dq 20 rfl) rfl rfl ?_
        refine a_dup K (dq 21 rfl) rfl ?_
        refine a_get K (T := 9) (i := 0) (k := 2) (v := .int (gI σ 9 0 2)) v_9 rfl rfl in_X4 (Nat.le_of_ble_eq_true rfl) fl_X4_23 rfl (dq 22 rfl) ?_
        refine a_iconst K (dq 23 rfl) (v := 1) rfl ?_
        refine a_iadd K (dq 24 rfl) ?_
        refine a_put K (T := 9) (i := 0) (k := 2) v_9 rfl rfl in_X4 tyX4 tyX4_ok nmX4 (Nat.le_of_ble_eq_true rfl) fl_X4_23 rfl rfl (tyX4_ok 2 (by decide)) rfl rfl (dq 25 rfl) ?_
        refine a_iinc K (dq 26 rfl) rfl (v := (v3 + 1)) rfl (Nat.le_of_ble_eq_true rfl) (ls' := [some (.ref (ρ 9 0)), some (.int v1), some (.int ((v2 * 10) + (r21 - 48))), some (.int (v3 + 1))]) rfl ?_
        refine a_goto K (tgt := 4) (dq 27 rfl) rfl ?_
        exact ih v1 ((v2 * 10) + (r21 - 48)) (v3 + 1) (sI σ 9 0 2 ((gI σ 9 0 2) + 1)) r h K hX
set_option maxRecDepth 20000 in
set_option maxHeartbeats 1000000 in
theorem s_X4_readNumber {l : Launch} {D : va_G} {ty : Nat → ClassId} {ρ : Nat → Nat → Nat} {N0 : Nat} (S : St l ty ρ N0) (a1 : Int32)  (σ : Sg) (r : (Int32 × Sg)) (h : p_X4_readNumber a1 σ = some r) : AMet l D ty ρ N0 yX4_readNumber (Cond.code yX4_readNumber cX4_readNumber 4 (some .boolean) :: GW) (rmk 2 0 0) [.ref (ρ 9 0), .int a1] σ (oI r.1) r.2 := by
  refine am_enter S (by decide) rfl rfl (Nat.le_of_ble_eq_true rfl) ?_
  intro p e s m args below meth c K hX
  have dq := @tat _ _ dt_X4_readNumber
  unfold p_X4_readNumber at h
  show WA p l e _ s m args below meth c D ty ρ N0 4 _ 0 [some (.ref (ρ 9 0)), some (.int a1), none, none] [] σ 0 0
  refine a_iconst K (dq 0 rfl) (v := 0) rfl ?_
  refine a_istore_n K (dq 1 rfl) rfl (Nat.le_of_ble_eq_true rfl) (ls' := [some (.ref (ρ 9 0)), some (.int a1), some (.int 0), none]) rfl ?_
  refine a_iconst K (dq 2 rfl) (v := 0) rfl ?_
  refine a_istore_n K (dq 3 rfl) rfl (Nat.le_of_ble_eq_true rfl) (ls' := [some (.ref (ρ 9 0)), some (.int a1), some (.int 0), some (.int 0)]) rfl ?_
  exact s_X4_readNumber_L4 S    400 a1 0 0 σ r h K hX
def t_X4_passSeparator : List (Nat × Instr × Nat) := [(0, .aload_n 0, 1), (1, .dup, 1), (2, .getfield 23, 3), (5, .iconst 1, 1), (6, .iadd, 1), (7, .putfield 23, 3), (10, .return_, 1)]
theorem dt_X4_passSeparator : tblOK cX4_passSeparator t_X4_passSeparator = true := by decide +kernel
def p_X4_passSeparator  (σ : Sg) : Option Sg :=
  some (sI σ 9 0 2 ((gI σ 9 0 2) + 1))
set_option maxRecDepth 20000 in
set_option maxHeartbeats 1000000 in
theorem s_X4_passSeparator {l : Launch} {D : va_G} {ty : Nat → ClassId} {ρ : Nat → Nat → Nat} {N0 : Nat} (S : St l ty ρ N0)   (σ : Sg) (r : Sg) (h : p_X4_passSeparator  σ = some r) : AMet l D ty ρ N0 yX4_passSeparator (Cond.code yX4_passSeparator cX4_passSeparator 1 none :: GW) (rmk 1 0 0) [.ref (ρ 9 0)] σ (.inl none) r := by
  refine am_enter S (by decide) rfl rfl (Nat.le_of_ble_eq_true rfl) ?_
  intro p e s m args below meth c K hX
  have dq := @tat _ _ dt_X4_passSeparator
  unfold p_X4_passSeparator at h
  show WA p l e _ s m args below meth c D ty ρ N0 1 _ 0 [some (.ref (ρ 9 0))] [] σ 0 0
  refine a_aload_n K (dq 0 rfl) rfl rfl ?_
  refine a_dup K (dq 1 rfl) rfl ?_
  refine a_get K (T := 9) (i := 0) (k := 2) (v := .int (gI σ 9 0 2)) v_9 rfl rfl in_X4 (Nat.le_of_ble_eq_true rfl) fl_X4_23 rfl (dq 2 rfl) ?_
  refine a_iconst K (dq 3 rfl) (v := 1) rfl ?_
  refine a_iadd K (dq 4 rfl) ?_
  refine a_put K (T := 9) (i := 0) (k := 2) v_9 rfl rfl in_X4 tyX4 tyX4_ok nmX4 (Nat.le_of_ble_eq_true rfl) fl_X4_23 rfl rfl (tyX4_ok 2 (by decide)) rfl rfl (dq 5 rfl) ?_
  obtain rfl := Option.some.inj h
  exact a_vret K rfl (dq 6 rfl) (Nat.le_of_ble_eq_true rfl) (Nat.le_of_ble_eq_true rfl) rfl rfl
def t_X4_position : List (Nat × Instr × Nat) := [(0, .aload_n 0, 1), (1, .getfield 23, 3), (4, .ireturn, 1)]
theorem dt_X4_position : tblOK cX4_position t_X4_position = true := by decide +kernel
def p_X4_position  (σ : Sg) : Option Int32 :=
  some (gI σ 9 0 2)
set_option maxRecDepth 20000 in
set_option maxHeartbeats 1000000 in
theorem s_X4_position {l : Launch} {D : va_G} {ty : Nat → ClassId} {ρ : Nat → Nat → Nat} {N0 : Nat} (S : St l ty ρ N0)   (σ : Sg) (r : Int32) (h : p_X4_position  σ = some r) : AMet l D ty ρ N0 yX4_position (Cond.code yX4_position cX4_position 1 (some .int) :: GW) (rmk 1 0 0) [.ref (ρ 9 0)] σ (oI r) σ := by
  refine am_enter S (by decide) rfl rfl (Nat.le_of_ble_eq_true rfl) ?_
  intro p e s m args below meth c K hX
  have dq := @tat _ _ dt_X4_position
  unfold p_X4_position at h
  show WA p l e _ s m args below meth c D ty ρ N0 1 _ 0 [some (.ref (ρ 9 0))] [] σ 0 0
  refine a_aload_n K (dq 0 rfl) rfl rfl ?_
  refine a_get K (T := 9) (i := 0) (k := 2) (v := .int (gI σ 9 0 2)) v_9 rfl rfl in_X4 (Nat.le_of_ble_eq_true rfl) fl_X4_23 rfl (dq 1 rfl) ?_
  obtain rfl := Option.some.inj h
  exact a_iret K rfl rfl (dq 2 rfl) (Nat.le_of_ble_eq_true rfl) (Nat.le_of_ble_eq_true rfl) rfl rfl
def t_X4_kind : List (Nat × Instr × Nat) := [(0, .aload_n 0, 1), (1, .getfield 26, 3), (4, .ireturn, 1)]
theorem dt_X4_kind : tblOK cX4_kind t_X4_kind = true := by decide +kernel
def p_X4_kind  (σ : Sg) : Option Int32 :=
  some (gI σ 9 0 3)
set_option maxRecDepth 20000 in
set_option maxHeartbeats 1000000 in
theorem s_X4_kind {l : Launch} {D : va_G} {ty : Nat → ClassId} {ρ : Nat → Nat → Nat} {N0 : Nat} (S : St l ty ρ N0)   (σ : Sg) (r : Int32) (h : p_X4_kind  σ = some r) : AMet l D ty ρ N0 yX4_kind (Cond.code yX4_kind cX4_kind 1 (some .int) :: GW) (rmk 1 0 0) [.ref (ρ 9 0)] σ (oI r) σ := by
  refine am_enter S (by decide) rfl rfl (Nat.le_of_ble_eq_true rfl) ?_
  intro p e s m args below meth c K hX
  have dq := @tat _ _ dt_X4_kind
  unfold p_X4_kind at h
  show WA p l e _ s m args below meth c D ty ρ N0 1 _ 0 [some (.ref (ρ 9 0))] [] σ 0 0
  refine a_aload_n K (dq 0 rfl) rfl rfl ?_
  refine a_get K (T := 9) (i := 0) (k := 3) (v := .int (gI σ 9 0 3)) v_9 rfl rfl in_X4 (Nat.le_of_ble_eq_true rfl) fl_X4_26 rfl (dq 1 rfl) ?_
  obtain rfl := Option.some.inj h
  exact a_iret K rfl rfl (dq 2 rfl) (Nat.le_of_ble_eq_true rfl) (Nat.le_of_ble_eq_true rfl) rfl rfl
def t_X4_number : List (Nat × Instr × Nat) := [(0, .iload_n 1, 1), (1, .ifCond .lt 21, 3), (4, .iload_n 1, 1), (5, .aload_n 0, 1), (6, .getfield 15, 3), (9, .arraylength, 1), (10, .if_icmp .ge 12, 3), (13, .aload_n 0, 1), (14, .getfield 15, 3), (17, .iload_n 1, 1), (18, .iaload, 1), (19, .goto 4, 3), (22, .iconst 0, 1), (23, .ireturn, 1)]
theorem dt_X4_number : tblOK cX4_number t_X4_number = true := by decide +kernel
def p_X4_number (a1 : Int32) (σ : Sg) : Option Int32 :=
  if a1 < 0 then (some 0) else (if 3 ≤ a1 then (some 0) else (if ib a1 3 then (some (gA σ 11 0 a1.toNatClampNeg)) else none))
set_option maxRecDepth 20000 in
set_option maxHeartbeats 1000000 in
theorem s_X4_number {l : Launch} {D : va_G} {ty : Nat → ClassId} {ρ : Nat → Nat → Nat} {N0 : Nat} (S : St l ty ρ N0) (a1 : Int32)  (σ : Sg) (r : Int32) (h : p_X4_number a1 σ = some r) : AMet l D ty ρ N0 yX4_number (Cond.code yX4_number cX4_number 2 (some .int) :: GW) (rmk 1 0 0) [.ref (ρ 9 0), .int a1] σ (oI r) σ := by
  refine am_enter S (by decide) rfl rfl (Nat.le_of_ble_eq_true rfl) ?_
  intro p e s m args below meth c K hX
  have dq := @tat _ _ dt_X4_number
  unfold p_X4_number at h
  show WA p l e _ s m args below meth c D ty ρ N0 2 _ 0 [some (.ref (ρ 9 0)), some (.int a1)] [] σ 0 0
  refine a_iload_n K (dq 0 rfl) rfl rfl ?_
  refine a_if_lt K (tgt := 22) (dq 1 rfl) rfl (fun c1 => ?_) (fun c1 => ?_)
  · have h := ite_t c1 h
    refine a_iconst K (dq 12 rfl) (v := 0) rfl ?_
    obtain rfl := Option.some.inj h
    exact a_iret K rfl rfl (dq 13 rfl) (Nat.le_of_ble_eq_true rfl) (Nat.le_of_ble_eq_true rfl) rfl rfl
  · have h := ite_f c1 h
    refine a_iload_n K (dq 2 rfl) rfl rfl ?_
    refine a_aload_n K (dq 3 rfl) rfl rfl ?_
    refine a_get K (T := 9) (i := 0) (k := 4) (v := .ref (ρ 11 0)) v_9 rfl rfl in_X4 (Nat.le_of_ble_eq_true rfl) fl_X4_15 rfl (dq 4 rfl) ?_
    refine a_ilen K (T := 11) (i := 0) (v := 3) v_11 rfl rfl rfl (dq 5 rfl) ?_
    refine a_icmp_ge K (tgt := 22) (dq 6 rfl) rfl (fun c2 => ?_) (fun c2 => ?_)
    · have h := ite_t c2 h
      refine a_iconst K (dq 12 rfl) (v := 0) rfl ?_
      obtain rfl := Option.some.inj h
      exact a_iret K rfl rfl (dq 13 rfl) (Nat.le_of_ble_eq_true rfl) (Nat.le_of_ble_eq_true rfl) rfl rfl
    · have h := ite_f c2 h
      refine a_aload_n K (dq 7 rfl) rfl rfl ?_
      refine a_get K (T := 9) (i := 0) (k := 4) (v := .ref (ρ 11 0)) v_9 rfl rfl in_X4 (Nat.le_of_ble_eq_true rfl) fl_X4_15 rfl (dq 8 rfl) ?_
      refine a_iload_n K (dq 9 rfl) rfl rfl ?_
      obtain ⟨c3, h⟩ := ib_some h
      refine a_iald K (T := 11) (i := 0) v_11 rfl rfl c3 (dq 10 rfl) ?_
      refine a_goto K (tgt := 23) (dq 11 rfl) rfl ?_
      obtain rfl := Option.some.inj h
      exact a_iret K rfl rfl (dq 13 rfl) (Nat.le_of_ble_eq_true rfl) (Nat.le_of_ble_eq_true rfl) rfl rfl
def t_X4_clear : List (Nat × Instr × Nat) := [(0, .aload_n 0, 1), (1, .iconst 0, 1), (2, .putfield 19, 3), (5, .return_, 1)]
theorem dt_X4_clear : tblOK cX4_clear t_X4_clear = true := by decide +kernel
def p_X4_clear  (σ : Sg) : Option Sg :=
  some (sI σ 9 0 1 0)
set_option maxRecDepth 20000 in
set_option maxHeartbeats 1000000 in
theorem s_X4_clear {l : Launch} {D : va_G} {ty : Nat → ClassId} {ρ : Nat → Nat → Nat} {N0 : Nat} (S : St l ty ρ N0)   (σ : Sg) (r : Sg) (h : p_X4_clear  σ = some r) : AMet l D ty ρ N0 yX4_clear (Cond.code yX4_clear cX4_clear 1 none :: GW) (rmk 1 0 0) [.ref (ρ 9 0)] σ (.inl none) r := by
  refine am_enter S (by decide) rfl rfl (Nat.le_of_ble_eq_true rfl) ?_
  intro p e s m args below meth c K hX
  have dq := @tat _ _ dt_X4_clear
  unfold p_X4_clear at h
  show WA p l e _ s m args below meth c D ty ρ N0 1 _ 0 [some (.ref (ρ 9 0))] [] σ 0 0
  refine a_aload_n K (dq 0 rfl) rfl rfl ?_
  refine a_iconst K (dq 1 rfl) (v := 0) rfl ?_
  refine a_put K (T := 9) (i := 0) (k := 1) v_9 rfl rfl in_X4 tyX4 tyX4_ok nmX4 (Nat.le_of_ble_eq_true rfl) fl_X4_19 rfl rfl (tyX4_ok 1 (by decide)) rfl rfl (dq 2 rfl) ?_
  obtain rfl := Option.some.inj h
  exact a_vret K rfl (dq 3 rfl) (Nat.le_of_ble_eq_true rfl) (Nat.le_of_ble_eq_true rfl) rfl rfl
def t_X3_isKept : List (Nat × Instr × Nat) := [(0, .aload_n 0, 1), (1, .getfield 7, 3), (4, .ifCond .eq 7, 3), (7, .iconst 1, 1), (8, .goto 4, 3), (11, .iconst 0, 1), (12, .ireturn, 1)]
theorem dt_X3_isKept : tblOK cX3_isKept t_X3_isKept = true := by decide +kernel
def p_X3_isKept  (σ : Sg) : Option Int32 :=
  if (gI σ 8 0 0) = 0 then (some 0) else (some 1)
set_option maxRecDepth 20000 in
set_option maxHeartbeats 1000000 in
theorem s_X3_isKept {l : Launch} {D : va_G} {ty : Nat → ClassId} {ρ : Nat → Nat → Nat} {N0 : Nat} (S : St l ty ρ N0)   (σ : Sg) (r : Int32) (h : p_X3_isKept  σ = some r) : AMet l D ty ρ N0 yX3_isKept (Cond.code yX3_isKept cX3_isKept 1 (some .boolean) :: GW) (rmk 1 0 0) [.ref (ρ 8 0)] σ (oI r) σ := by
  refine am_enter S (by decide) rfl rfl (Nat.le_of_ble_eq_true rfl) ?_
  intro p e s m args below meth c K hX
  have dq := @tat _ _ dt_X3_isKept
  unfold p_X3_isKept at h
  show WA p l e _ s m args below meth c D ty ρ N0 1 _ 0 [some (.ref (ρ 8 0))] [] σ 0 0
  refine a_aload_n K (dq 0 rfl) rfl rfl ?_
  refine a_get K (T := 8) (i := 0) (k := 0) (v := .int (gI σ 8 0 0)) v_8 rfl rfl in_X3 (Nat.le_of_ble_eq_true rfl) fl_X3_7 rfl (dq 1 rfl) ?_
  refine a_if_eq K (tgt := 11) (dq 2 rfl) rfl (fun c1 => ?_) (fun c1 => ?_)
  · have h := ite_t c1 h
    refine a_iconst K (dq 5 rfl) (v := 0) rfl ?_
    obtain rfl := Option.some.inj h
    exact a_iret K rfl rfl (dq 6 rfl) (Nat.le_of_ble_eq_true rfl) (Nat.le_of_ble_eq_true rfl) rfl rfl
  · have h := ite_f c1 h
    refine a_iconst K (dq 3 rfl) (v := 1) rfl ?_
    refine a_goto K (tgt := 12) (dq 4 rfl) rfl ?_
    obtain rfl := Option.some.inj h
    exact a_iret K rfl rfl (dq 6 rfl) (Nat.le_of_ble_eq_true rfl) (Nat.le_of_ble_eq_true rfl) rfl rfl
def t_X3_number : List (Nat × Instr × Nat) := [(0, .aload_n 0, 1), (1, .getfield 7, 3), (4, .ireturn, 1)]
theorem dt_X3_number : tblOK cX3_number t_X3_number = true := by decide +kernel
def p_X3_number  (σ : Sg) : Option Int32 :=
  some (gI σ 8 0 0)
set_option maxRecDepth 20000 in
set_option maxHeartbeats 1000000 in
theorem s_X3_number {l : Launch} {D : va_G} {ty : Nat → ClassId} {ρ : Nat → Nat → Nat} {N0 : Nat} (S : St l ty ρ N0)   (σ : Sg) (r : Int32) (h : p_X3_number  σ = some r) : AMet l D ty ρ N0 yX3_number (Cond.code yX3_number cX3_number 1 (some .int) :: GW) (rmk 1 0 0) [.ref (ρ 8 0)] σ (oI r) σ := by
  refine am_enter S (by decide) rfl rfl (Nat.le_of_ble_eq_true rfl) ?_
  intro p e s m args below meth c K hX
  have dq := @tat _ _ dt_X3_number
  unfold p_X3_number at h
  show WA p l e _ s m args below meth c D ty ρ N0 1 _ 0 [some (.ref (ρ 8 0))] [] σ 0 0
  refine a_aload_n K (dq 0 rfl) rfl rfl ?_
  refine a_get K (T := 8) (i := 0) (k := 0) (v := .int (gI σ 8 0 0)) v_8 rfl rfl in_X3 (Nat.le_of_ble_eq_true rfl) fl_X3_7 rfl (dq 1 rfl) ?_
  obtain rfl := Option.some.inj h
  exact a_iret K rfl rfl (dq 2 rfl) (Nat.le_of_ble_eq_true rfl) (Nat.le_of_ble_eq_true rfl) rfl rfl
def t_X3_detail : List (Nat × Instr × Nat) := [(0, .aload_n 0, 1), (1, .getfield 13, 3), (4, .ireturn, 1)]
theorem dt_X3_detail : tblOK cX3_detail t_X3_detail = true := by decide +kernel
def p_X3_detail  (σ : Sg) : Option Int32 :=
  some (gI σ 8 0 1)
set_option maxRecDepth 20000 in
set_option maxHeartbeats 1000000 in
theorem s_X3_detail {l : Launch} {D : va_G} {ty : Nat → ClassId} {ρ : Nat → Nat → Nat} {N0 : Nat} (S : St l ty ρ N0)   (σ : Sg) (r : Int32) (h : p_X3_detail  σ = some r) : AMet l D ty ρ N0 yX3_detail (Cond.code yX3_detail cX3_detail 1 (some .int) :: GW) (rmk 1 0 0) [.ref (ρ 8 0)] σ (oI r) σ := by
  refine am_enter S (by decide) rfl rfl (Nat.le_of_ble_eq_true rfl) ?_
  intro p e s m args below meth c K hX
  have dq := @tat _ _ dt_X3_detail
  unfold p_X3_detail at h
  show WA p l e _ s m args below meth c D ty ρ N0 1 _ 0 [some (.ref (ρ 8 0))] [] σ 0 0
  refine a_aload_n K (dq 0 rfl) rfl rfl ?_
  refine a_get K (T := 8) (i := 0) (k := 1) (v := .int (gI σ 8 0 1)) v_8 rfl rfl in_X3 (Nat.le_of_ble_eq_true rfl) fl_X3_13 rfl (dq 1 rfl) ?_
  obtain rfl := Option.some.inj h
  exact a_iret K rfl rfl (dq 2 rfl) (Nat.le_of_ble_eq_true rfl) (Nat.le_of_ble_eq_true rfl) rfl rfl
def t_X3_command : List (Nat × Instr × Nat) := [(0, .aload_n 0, 1), (1, .getfield 16, 3), (4, .ireturn, 1)]
theorem dt_X3_command : tblOK cX3_command t_X3_command = true := by decide +kernel
def p_X3_command  (σ : Sg) : Option Int32 :=
  some (gI σ 8 0 2)
set_option maxRecDepth 20000 in
set_option maxHeartbeats 1000000 in
theorem s_X3_command {l : Launch} {D : va_G} {ty : Nat → ClassId} {ρ : Nat → Nat → Nat} {N0 : Nat} (S : St l ty ρ N0)   (σ : Sg) (r : Int32) (h : p_X3_command  σ = some r) : AMet l D ty ρ N0 yX3_command (Cond.code yX3_command cX3_command 1 (some .int) :: GW) (rmk 1 0 0) [.ref (ρ 8 0)] σ (oI r) σ := by
  refine am_enter S (by decide) rfl rfl (Nat.le_of_ble_eq_true rfl) ?_
  intro p e s m args below meth c K hX
  have dq := @tat _ _ dt_X3_command
  unfold p_X3_command at h
  show WA p l e _ s m args below meth c D ty ρ N0 1 _ 0 [some (.ref (ρ 8 0))] [] σ 0 0
  refine a_aload_n K (dq 0 rfl) rfl rfl ?_
  refine a_get K (T := 8) (i := 0) (k := 2) (v := .int (gI σ 8 0 2)) v_8 rfl rfl in_X3 (Nat.le_of_ble_eq_true rfl) fl_X3_16 rfl (dq 1 rfl) ?_
  obtain rfl := Option.some.inj h
  exact a_iret K rfl rfl (dq 2 rfl) (Nat.le_of_ble_eq_true rfl) (Nat.le_of_ble_eq_true rfl) rfl rfl
def t_X2_clear : List (Nat × Instr × Nat) := [(0, .aload_n 0, 1), (1, .iconst 0, 1), (2, .putfield 15, 3), (5, .return_, 1)]
theorem dt_X2_clear : tblOK cX2_clear t_X2_clear = true := by decide +kernel
def p_X2_clear  (σ : Sg) : Option Sg :=
  some (sI σ 12 0 1 0)
set_option maxRecDepth 20000 in
set_option maxHeartbeats 1000000 in
theorem s_X2_clear {l : Launch} {D : va_G} {ty : Nat → ClassId} {ρ : Nat → Nat → Nat} {N0 : Nat} (S : St l ty ρ N0)   (σ : Sg) (r : Sg) (h : p_X2_clear  σ = some r) : AMet l D ty ρ N0 yX2_clear (Cond.code yX2_clear cX2_clear 1 none :: GW) (rmk 1 0 0) [.ref (ρ 12 0)] σ (.inl none) r := by
  refine am_enter S (by decide) rfl rfl (Nat.le_of_ble_eq_true rfl) ?_
  intro p e s m args below meth c K hX
  have dq := @tat _ _ dt_X2_clear
  unfold p_X2_clear at h
  show WA p l e _ s m args below meth c D ty ρ N0 1 _ 0 [some (.ref (ρ 12 0))] [] σ 0 0
  refine a_aload_n K (dq 0 rfl) rfl rfl ?_
  refine a_iconst K (dq 1 rfl) (v := 0) rfl ?_
  refine a_put K (T := 12) (i := 0) (k := 1) v_12 rfl rfl in_X2 tyX2 tyX2_ok nmX2 (Nat.le_of_ble_eq_true rfl) fl_X2_15 rfl rfl (tyX2_ok 1 (by decide)) rfl rfl (dq 2 rfl) ?_
  obtain rfl := Option.some.inj h
  exact a_vret K rfl (dq 3 rfl) (Nat.le_of_ble_eq_true rfl) (Nat.le_of_ble_eq_true rfl) rfl rfl
def t_X2_write : List (Nat × Instr × Nat) := [(0, .aload_n 0, 1), (1, .getfield 15, 3), (4, .ifCond .lt 35, 3), (7, .aload_n 0, 1), (8, .getfield 15, 3), (11, .aload_n 0, 1), (12, .getfield 9, 3), (15, .arraylength, 1), (16, .if_icmp .ge 23, 3), (19, .aload_n 0, 1), (20, .getfield 9, 3), (23, .aload_n 0, 1), (24, .getfield 15, 3), (27, .iload_n 1, 1), (28, .castore, 1), (29, .aload_n 0, 1), (30, .dup, 1), (31, .getfield 15, 3), (34, .iconst 1, 1), (35, .iadd, 1), (36, .putfield 15, 3), (39, .return_, 1)]
theorem dt_X2_write : tblOK cX2_write t_X2_write = true := by decide +kernel
def p_X2_write (a1 : Int32) (σ : Sg) : Option Sg :=
  if (gI σ 12 0 1) < 0 then (some σ) else (if 80 ≤ (gI σ 12 0 1) then (some σ) else (if ib (gI σ 12 0 1) 80 then (some (sI (sA σ 13 0 (gI σ 12 0 1).toNatClampNeg (nch a1)) 12 0 1 ((gI (sA σ 13 0 (gI σ 12 0 1).toNatClampNeg (nch a1)) 12 0 1) + 1))) else none))
set_option maxRecDepth 20000 in
set_option maxHeartbeats 1000000 in
theorem s_X2_write {l : Launch} {D : va_G} {ty : Nat → ClassId} {ρ : Nat → Nat → Nat} {N0 : Nat} (S : St l ty ρ N0) (a1 : Int32)  (σ : Sg) (r : Sg) (h : p_X2_write a1 σ = some r) : AMet l D ty ρ N0 yX2_write (Cond.code yX2_write cX2_write 2 none :: GW) (rmk 1 0 0) [.ref (ρ 12 0), .int a1] σ (.inl none) r := by
  refine am_enter S (by decide) rfl rfl (Nat.le_of_ble_eq_true rfl) ?_
  intro p e s m args below meth c K hX
  have dq := @tat _ _ dt_X2_write
  unfold p_X2_write at h
  show WA p l e _ s m args below meth c D ty ρ N0 2 _ 0 [some (.ref (ρ 12 0)), some (.int a1)] [] σ 0 0
  refine a_aload_n K (dq 0 rfl) rfl rfl ?_
  refine a_get K (T := 12) (i := 0) (k := 1) (v := .int (gI σ 12 0 1)) v_12 rfl rfl in_X2 (Nat.le_of_ble_eq_true rfl) fl_X2_15 rfl (dq 1 rfl) ?_
  refine a_if_lt K (tgt := 39) (dq 2 rfl) rfl (fun c1 => ?_) (fun c1 => ?_)
  · have h := ite_t c1 h
    obtain rfl := Option.some.inj h
    exact a_vret K rfl (dq 21 rfl) (Nat.le_of_ble_eq_true rfl) (Nat.le_of_ble_eq_true rfl) rfl rfl
  · have h := ite_f c1 h
    refine a_aload_n K (dq 3 rfl) rfl rfl ?_
    refine a_get K (T := 12) (i := 0) (k := 1) (v := .int (gI σ 12 0 1)) v_12 rfl rfl in_X2 (Nat.le_of_ble_eq_true rfl) fl_X2_15 rfl (dq 4 rfl) ?_
    refine a_aload_n K (dq 5 rfl) rfl rfl ?_
    refine a_get K (T := 12) (i := 0) (k := 0) (v := .ref (ρ 13 0)) v_12 rfl rfl in_X2 (Nat.le_of_ble_eq_true rfl) fl_X2_9 rfl (dq 6 rfl) ?_
    refine a_clen K (T := 13) (i := 0) (v := 80) v_13 rfl rfl rfl (dq 7 rfl) ?_
    refine a_icmp_ge K (tgt := 39) (dq 8 rfl) rfl (fun c2 => ?_) (fun c2 => ?_)
    · have h := ite_t c2 h
      obtain rfl := Option.some.inj h
      exact a_vret K rfl (dq 21 rfl) (Nat.le_of_ble_eq_true rfl) (Nat.le_of_ble_eq_true rfl) rfl rfl
    · have h := ite_f c2 h
      refine a_aload_n K (dq 9 rfl) rfl rfl ?_
      refine a_get K (T := 12) (i := 0) (k := 0) (v := .ref (ρ 13 0)) v_12 rfl rfl in_X2 (Nat.le_of_ble_eq_true rfl) fl_X2_9 rfl (dq 10 rfl) ?_
      refine a_aload_n K (dq 11 rfl) rfl rfl ?_
      refine a_get K (T := 12) (i := 0) (k := 1) (v := .int (gI σ 12 0 1)) v_12 rfl rfl in_X2 (Nat.le_of_ble_eq_true rfl) fl_X2_15 rfl (dq 12 rfl) ?_
      refine a_iload_n K (dq 13 rfl) rfl rfl ?_
      obtain ⟨c3, h⟩ := ib_some h
      refine a_cast K (T := 13) (i := 0) v_13 rfl rfl c3 (dq 14 rfl) ?_
      refine a_aload_n K (dq 15 rfl) rfl rfl ?_
      refine a_dup K (dq 16 rfl) rfl ?_
      refine a_get K (T := 12) (i := 0) (k := 1) (v := .int (gI (sA σ 13 0 (gI σ 12 0 1).toNatClampNeg (nch a1)) 12 0 1)) v_12 rfl rfl in_X2 (Nat.le_of_ble_eq_true rfl) fl_X2_15 rfl (dq 17 rfl) ?_
      refine a_iconst K (dq 18 rfl) (v := 1) rfl ?_
      refine a_iadd K (dq 19 rfl) ?_
      refine a_put K (T := 12) (i := 0) (k := 1) v_12 rfl rfl in_X2 tyX2 tyX2_ok nmX2 (Nat.le_of_ble_eq_true rfl) fl_X2_15 rfl rfl (tyX2_ok 1 (by decide)) rfl rfl (dq 20 rfl) ?_
      obtain rfl := Option.some.inj h
      exact a_vret K rfl (dq 21 rfl) (Nat.le_of_ble_eq_true rfl) (Nat.le_of_ble_eq_true rfl) rfl rfl
def t_X2_writeNumber : List (Nat × Instr × Nat) := [(0, .iload_n 1, 1), (1, .bipush 100, 2), (3, .if_icmp .lt 18, 3), (6, .aload_n 0, 1), (7, .bipush 48, 2), (9, .iload_n 1, 1), (10, .bipush 100, 2), (12, .idiv, 1), (13, .bipush 10, 2), (15, .irem, 1), (16, .iadd, 1), (17, .i2c, 1), (18, .invokevirtual 19, 3), (21, .iload_n 1, 1), (22, .bipush 10, 2), (24, .if_icmp .lt 18, 3), (27, .aload_n 0, 1), (28, .bipush 48, 2), (30, .iload_n 1, 1), (31, .bipush 10, 2), (33, .idiv, 1), (34, .bipush 10, 2), (36, .irem, 1), (37, .iadd, 1), (38, .i2c, 1), (39, .invokevirtual 19, 3), (42, .aload_n 0, 1), (43, .bipush 48, 2), (45, .iload_n 1, 1), (46, .bipush 10, 2), (48, .irem, 1), (49, .iadd, 1), (50, .i2c, 1), (51, .invokevirtual 19, 3), (54, .return_, 1)]
theorem dt_X2_writeNumber : tblOK cX2_writeNumber t_X2_writeNumber = true := by decide +kernel
def p_X2_writeNumber (a1 : Int32) (σ : Sg) : Option Sg :=
  if a1 < 100 then (if a1 < 10 then ((p_X2_write (((48 + (a1 - a1 / 10 * 10)).toUInt32 % 65536).toInt32) σ).bind fun r3 => some r3) else ((p_X2_write (((48 + ((a1 / 10) - (a1 / 10) / 10 * 10)).toUInt32 % 65536).toInt32) σ).bind fun r4 => (p_X2_write (((48 + (a1 - a1 / 10 * 10)).toUInt32 % 65536).toInt32) r4).bind fun r5 => some r5)) else ((p_X2_write (((48 + ((a1 / 100) - (a1 / 100) / 10 * 10)).toUInt32 % 65536).toInt32) σ).bind fun r6 => if a1 < 10 then ((p_X2_write (((48 + (a1 - a1 / 10 * 10)).toUInt32 % 65536).toInt32) r6).bind fun r8 => some r8) else ((p_X2_write (((48 + ((a1 / 10) - (a1 / 10) / 10 * 10)).toUInt32 % 65536).toInt32) r6).bind fun r9 => (p_X2_write (((48 + (a1 - a1 / 10 * 10)).toUInt32 % 65536).toInt32) r9).bind fun r10 => some r10))
set_option maxRecDepth 20000 in
set_option maxHeartbeats 1000000 in
theorem s_X2_writeNumber {l : Launch} {D : va_G} {ty : Nat → ClassId} {ρ : Nat → Nat → Nat} {N0 : Nat} (S : St l ty ρ N0) (a1 : Int32)  (σ : Sg) (r : Sg) (h : p_X2_writeNumber a1 σ = some r) : AMet l D ty ρ N0 yX2_writeNumber (Cond.code yX2_writeNumber cX2_writeNumber 2 none :: GW) (rmk 2 0 0) [.ref (ρ 12 0), .int a1] σ (.inl none) r := by
  refine am_enter S (by decide) rfl rfl (Nat.le_of_ble_eq_true rfl) ?_
  intro p e s m args below meth c K hX
  have dq := @tat _ _ dt_X2_writeNumber
  unfold p_X2_writeNumber at h
  show WA p l e _ s m args below meth c D ty ρ N0 2 _ 0 [some (.ref (ρ 12 0)), some (.int a1)] [] σ 0 0
  refine a_iload_n K (dq 0 rfl) rfl rfl ?_
  refine a_bipush K (dq 1 rfl) (v := 100) rfl ?_
  refine a_icmp_lt K (tgt := 21) (dq 2 rfl) rfl (fun c1 => ?_) (fun c1 => ?_)
  · have h := ite_t c1 h
    refine a_iload_n K (dq 13 rfl) rfl rfl ?_
    refine a_bipush K (dq 14 rfl) (v := 10) rfl ?_
    refine a_icmp_lt K (tgt := 42) (dq 15 rfl) rfl (fun c2 => ?_) (fun c2 => ?_)
    · have h := ite_t c2 h
      refine a_aload_n K (dq 26 rfl) rfl rfl ?_
      refine a_bipush K (dq 27 rfl) (v := 48) rfl ?_
      refine a_iload_n K (dq 28 rfl) rfl rfl ?_
      refine a_bipush K (dq 29 rfl) (v := 10) rfl ?_
      refine a_irem K (dq 30 rfl) (by decide) ?_
      refine a_iadd K (dq 31 rfl) ?_
      refine a_i2c K (dq 32 rfl) ?_
      obtain ⟨r3, h3, h⟩ := bnd h
      refine a_callVv K (s_X2_write S (((48 + (a1 - a1 / 10 * 10)).toUInt32 % 65536).toInt32)  σ r3 h3) v_12 rfl rfl cw_X2_write ml_X2_19 (by decide) rfl (rest := []) rfl (Nat.le_of_ble_eq_true rfl) (dq 33 rfl) (by decide) ?_
      obtain rfl := Option.some.inj h
      exact a_vret K rfl (dq 34 rfl) (Nat.le_of_ble_eq_true rfl) (Nat.le_of_ble_eq_true rfl) rfl rfl
    · have h := ite_f c2 h
      refine a_aload_n K (dq 16 rfl) rfl rfl ?_
      refine a_bipush K (dq 17 rfl) (v := 48) rfl ?_
      refine a_iload_n K (dq 18 rfl) rfl rfl ?_
      refine a_bipush K (dq 19 rfl) (v := 10) rfl ?_
      refine a_idiv K (dq 20 rfl) (by decide) ?_
      refine a_bipush K (dq 21 rfl) (v := 10) rfl ?_
      refine a_irem K (dq 22 rfl) (by decide) ?_
      refine a_iadd K (dq 23 rfl) ?_
      refine a_i2c K (dq 24 rfl) ?_
      obtain ⟨r4, h4, h⟩ := bnd h
      refine a_callVv K (s_X2_write S (((48 + ((a1 / 10) - (a1 / 10) / 10 * 10)).toUInt32 % 65536).toInt32)  σ r4 h4) v_12 rfl rfl cw_X2_write ml_X2_19 (by decide) rfl (rest := []) rfl (Nat.le_of_ble_eq_true rfl) (dq 25 rfl) (by decide) ?_
      refine a_aload_n K (dq 26 rfl) rfl rfl ?_
      refine a_bipush K (dq 27 rfl) (v := 48) rfl ?_
      refine a_iload_n K (dq 28 rfl) rfl rfl ?_
      refine a_bipush K (dq 29 rfl) (v := 10) rfl ?_
      refine a_irem K (dq 30 rfl) (by decide) ?_
      refine a_iadd K (dq 31 rfl) ?_
      refine a_i2c K (dq 32 rfl) ?_
      obtain ⟨r5, h5, h⟩ := bnd h
      refine a_callVv K (s_X2_write S (((48 + (a1 - a1 / 10 * 10)).toUInt32 % 65536).toInt32)  r4 r5 h5) v_12 rfl rfl cw_X2_write ml_X2_19 (by decide) rfl (rest := []) rfl (Nat.le_of_ble_eq_true rfl) (dq 33 rfl) (by decide) ?_
      obtain rfl := Option.some.inj h
      exact a_vret K rfl (dq 34 rfl) (Nat.le_of_ble_eq_true rfl) (Nat.le_of_ble_eq_true rfl) rfl rfl
  · have h := ite_f c1 h
    refine a_aload_n K (dq 3 rfl) rfl rfl ?_
    refine a_bipush K (dq 4 rfl) (v := 48) rfl ?_
    refine a_iload_n K (dq 5 rfl) rfl rfl ?_
    refine a_bipush K (dq 6 rfl) (v := 100) rfl ?_
    refine a_idiv K (dq 7 rfl) (by decide) ?_
    refine a_bipush K (dq 8 rfl) (v := 10) rfl ?_
    refine a_irem K (dq 9 rfl) (by decide) ?_
    refine a_iadd K (dq 10 rfl) ?_
    refine a_i2c K (dq 11 rfl) ?_
    obtain ⟨r6, h6, h⟩ := bnd h
    refine a_callVv K (s_X2_write S (((48 + ((a1 / 100) - (a1 / 100) / 10 * 10)).toUInt32 % 65536).toInt32)  σ r6 h6) v_12 rfl rfl cw_X2_write ml_X2_19 (by decide) rfl (rest := []) rfl (Nat.le_of_ble_eq_true rfl) (dq 12 rfl) (by decide) ?_
    refine a_iload_n K (dq 13 rfl) rfl rfl ?_
    refine a_bipush K (dq 14 rfl) (v := 10) rfl ?_
    refine a_icmp_lt K (tgt := 42) (dq 15 rfl) rfl (fun c7 => ?_) (fun c7 => ?_)
    · have h := ite_t c7 h
      refine a_aload_n K (dq 26 rfl) rfl rfl ?_
      refine a_bipush K (dq 27 rfl) (v := 48) rfl ?_
      refine a_iload_n K (dq 28 rfl) rfl rfl ?_
      refine a_bipush K (dq 29 rfl) (v := 10) rfl ?_
      refine a_irem K (dq 30 rfl) (by decide) ?_
      refine a_iadd K (dq 31 rfl) ?_
      refine a_i2c K (dq 32 rfl) ?_
      obtain ⟨r8, h8, h⟩ := bnd h
      refine a_callVv K (s_X2_write S (((48 + (a1 - a1 / 10 * 10)).toUInt32 % 65536).toInt32)  r6 r8 h8) v_12 rfl rfl cw_X2_write ml_X2_19 (by decide) rfl (rest := []) rfl (Nat.le_of_ble_eq_true rfl) (dq 33 rfl) (by decide) ?_
      obtain rfl := Option.some.inj h
      exact a_vret K rfl (dq 34 rfl) (Nat.le_of_ble_eq_true rfl) (Nat.le_of_ble_eq_true rfl) rfl rfl
    · have h := ite_f c7 h
      refine a_aload_n K (dq 16 rfl) rfl rfl ?_
      refine a_bipush K (dq 17 rfl) (v := 48) rfl ?_
      refine a_iload_n K (dq 18 rfl) rfl rfl ?_
      refine a_bipush K (dq 19 rfl) (v := 10) rfl ?_
      refine a_idiv K (dq 20 rfl) (by decide) ?_
      refine a_bipush K (dq 21 rfl) (v := 10) rfl ?_
      refine a_irem K (dq 22 rfl) (by decide) ?_
      refine a_iadd K (dq 23 rfl) ?_
      refine a_i2c K (dq 24 rfl) ?_
      obtain ⟨r9, h9, h⟩ := bnd h
      refine a_callVv K (s_X2_write S (((48 + ((a1 / 10) - (a1 / 10) / 10 * 10)).toUInt32 % 65536).toInt32)  r6 r9 h9) v_12 rfl rfl cw_X2_write ml_X2_19 (by decide) rfl (rest := []) rfl (Nat.le_of_ble_eq_true rfl) (dq 25 rfl) (by decide) ?_
      refine a_aload_n K (dq 26 rfl) rfl rfl ?_
      refine a_bipush K (dq 27 rfl) (v := 48) rfl ?_
      refine a_iload_n K (dq 28 rfl) rfl rfl ?_
      refine a_bipush K (dq 29 rfl) (v := 10) rfl ?_
      refine a_irem K (dq 30 rfl) (by decide) ?_
      refine a_iadd K (dq 31 rfl) ?_
      refine a_i2c K (dq 32 rfl) ?_
      obtain ⟨r10, h10, h⟩ := bnd h
      refine a_callVv K (s_X2_write S (((48 + (a1 - a1 / 10 * 10)).toUInt32 % 65536).toInt32)  r9 r10 h10) v_12 rfl rfl cw_X2_write ml_X2_19 (by decide) rfl (rest := []) rfl (Nat.le_of_ble_eq_true rfl) (dq 33 rfl) (by decide) ?_
      obtain rfl := Option.some.inj h
      exact a_vret K rfl (dq 34 rfl) (Nat.le_of_ble_eq_true rfl) (Nat.le_of_ble_eq_true rfl) rfl rfl
def t_X2_length : List (Nat × Instr × Nat) := [(0, .aload_n 0, 1), (1, .getfield 15, 3), (4, .ireturn, 1)]
theorem dt_X2_length : tblOK cX2_length t_X2_length = true := by decide +kernel
def p_X2_length  (σ : Sg) : Option Int32 :=
  some (gI σ 12 0 1)
set_option maxRecDepth 20000 in
set_option maxHeartbeats 1000000 in
theorem s_X2_length {l : Launch} {D : va_G} {ty : Nat → ClassId} {ρ : Nat → Nat → Nat} {N0 : Nat} (S : St l ty ρ N0)   (σ : Sg) (r : Int32) (h : p_X2_length  σ = some r) : AMet l D ty ρ N0 yX2_length (Cond.code yX2_length cX2_length 1 (some .int) :: GW) (rmk 1 0 0) [.ref (ρ 12 0)] σ (oI r) σ := by
  refine am_enter S (by decide) rfl rfl (Nat.le_of_ble_eq_true rfl) ?_
  intro p e s m args below meth c K hX
  have dq := @tat _ _ dt_X2_length
  unfold p_X2_length at h
  show WA p l e _ s m args below meth c D ty ρ N0 1 _ 0 [some (.ref (ρ 12 0))] [] σ 0 0
  refine a_aload_n K (dq 0 rfl) rfl rfl ?_
  refine a_get K (T := 12) (i := 0) (k := 1) (v := .int (gI σ 12 0 1)) v_12 rfl rfl in_X2 (Nat.le_of_ble_eq_true rfl) fl_X2_15 rfl (dq 1 rfl) ?_
  obtain rfl := Option.some.inj h
  exact a_iret K rfl rfl (dq 2 rfl) (Nat.le_of_ble_eq_true rfl) (Nat.le_of_ble_eq_true rfl) rfl rfl
def t_X2_at : List (Nat × Instr × Nat) := [(0, .iload_n 1, 1), (1, .ifCond .lt 29, 3), (4, .iload_n 1, 1), (5, .aload_n 0, 1), (6, .getfield 15, 3), (9, .if_icmp .ge 21, 3), (12, .iload_n 1, 1), (13, .aload_n 0, 1), (14, .getfield 9, 3), (17, .arraylength, 1), (18, .if_icmp .ge 12, 3), (21, .aload_n 0, 1), (22, .getfield 9, 3), (25, .iload_n 1, 1), (26, .caload, 1), (27, .goto 5, 3), (30, .bipush 32, 2), (32, .ireturn, 1)]
theorem dt_X2_at : tblOK cX2_at t_X2_at = true := by decide +kernel
def p_X2_at (a1 : Int32) (σ : Sg) : Option Int32 :=
  if a1 < 0 then (some (nch 32)) else (if (gI σ 12 0 1) ≤ a1 then (some (nch 32)) else (if 80 ≤ a1 then (some (nch 32)) else (if ib a1 80 then (some (nch (gA σ 13 0 a1.toNatClampNeg))) else none)))
set_option maxRecDepth 20000 in
set_option maxHeartbeats 1000000 in
theorem s_X2_at {l : Launch} {D : va_G} {ty : Nat → ClassId} {ρ : Nat → Nat → Nat} {N0 : Nat} (S : St l ty ρ N0) (a1 : Int32)  (σ : Sg) (r : Int32) (h : p_X2_at a1 σ = some r) : AMet l D ty ρ N0 yX2_at (Cond.code yX2_at cX2_at 2 (some .char) :: GW) (rmk 1 0 0) [.ref (ρ 12 0), .int a1] σ (oI r) σ := by
  refine am_enter S (by decide) rfl rfl (Nat.le_of_ble_eq_true rfl) ?_
  intro p e s m args below meth c K hX
  have dq := @tat _ _ dt_X2_at
  unfold p_X2_at at h
  show WA p l e _ s m args below meth c D ty ρ N0 2 _ 0 [some (.ref (ρ 12 0)), some (.int a1)] [] σ 0 0
  refine a_iload_n K (dq 0 rfl) rfl rfl ?_
  refine a_if_lt K (tgt := 30) (dq 1 rfl) rfl (fun c1 => ?_) (fun c1 => ?_)
  · have h := ite_t c1 h
    refine a_bipush K (dq 16 rfl) (v := 32) rfl ?_
    obtain rfl := Option.some.inj h
    exact a_iret K rfl rfl (dq 17 rfl) (Nat.le_of_ble_eq_true rfl) (Nat.le_of_ble_eq_true rfl) rfl rfl
  · have h := ite_f c1 h
    refine a_iload_n K (dq 2 rfl) rfl rfl ?_
    refine a_aload_n K (dq 3 rfl) rfl rfl ?_
    refine a_get K (T := 12) (i := 0) (k := 1) (v := .int (gI σ 12 0 1)) v_12 rfl rfl in_X2 (Nat.le_of_ble_eq_true rfl) fl_X2_15 rfl (dq 4 rfl) ?_
    refine a_icmp_ge K (tgt := 30) (dq 5 rfl) rfl (fun c2 => ?_) (fun c2 => ?_)
    · have h := ite_t c2 h
      refine a_bipush K (dq 16 rfl) (v := 32) rfl ?_
      obtain rfl := Option.some.inj h
      exact a_iret K rfl rfl (dq 17 rfl) (Nat.le_of_ble_eq_true rfl) (Nat.le_of_ble_eq_true rfl) rfl rfl
    · have h := ite_f c2 h
      refine a_iload_n K (dq 6 rfl) rfl rfl ?_
      refine a_aload_n K (dq 7 rfl) rfl rfl ?_
      refine a_get K (T := 12) (i := 0) (k := 0) (v := .ref (ρ 13 0)) v_12 rfl rfl in_X2 (Nat.le_of_ble_eq_true rfl) fl_X2_9 rfl (dq 8 rfl) ?_
      refine a_clen K (T := 13) (i := 0) (v := 80) v_13 rfl rfl rfl (dq 9 rfl) ?_
      refine a_icmp_ge K (tgt := 30) (dq 10 rfl) rfl (fun c3 => ?_) (fun c3 => ?_)
      · have h := ite_t c3 h
        refine a_bipush K (dq 16 rfl) (v := 32) rfl ?_
        obtain rfl := Option.some.inj h
        exact a_iret K rfl rfl (dq 17 rfl) (Nat.le_of_ble_eq_true rfl) (Nat.le_of_ble_eq_true rfl) rfl rfl
      · have h := ite_f c3 h
        refine a_aload_n K (dq 11 rfl) rfl rfl ?_
        refine a_get K (T := 12) (i := 0) (k := 0) (v := .ref (ρ 13 0)) v_12 rfl rfl in_X2 (Nat.le_of_ble_eq_true rfl) fl_X2_9 rfl (dq 12 rfl) ?_
        refine a_iload_n K (dq 13 rfl) rfl rfl ?_
        obtain ⟨c4, h⟩ := ib_some h
        refine a_cald K (T := 13) (i := 0) v_13 rfl rfl c4 (dq 14 rfl) ?_
        refine a_goto K (tgt := 32) (dq 15 rfl) rfl ?_
        obtain rfl := Option.some.inj h
        exact a_iret K rfl rfl (dq 17 rfl) (Nat.le_of_ble_eq_true rfl) (Nat.le_of_ble_eq_true rfl) rfl rfl
def t_X1_allTolls : List (Nat × Instr × Nat) := [(0, .iconst 0, 1), (1, .istore_n 1, 1), (2, .iconst 0, 1), (3, .istore_n 2, 1), (4, .iload_n 2, 1), (5, .aload_n 0, 1), (6, .getfield 30, 3), (9, .if_icmp .ge 17, 3), (12, .iload_n 1, 1), (13, .aload_n 0, 1), (14, .iload_n 2, 1), (15, .invokevirtual 73, 3), (18, .iadd, 1), (19, .istore_n 1, 1), (20, .iinc 2 1, 3), (23, .goto (-19), 3), (26, .iload_n 1, 1), (27, .ireturn, 1)]
theorem dt_X1_allTolls : tblOK cX1_allTolls t_X1_allTolls = true := by decide +kernel
def p_X1_allTolls_L4  (σ : Sg) : Nat → Int32 → Int32 → Option Int32
  | 0, _, _ => none
  | n + 1, v1, v2 => if (gI σ 1 0 0) ≤ v2 then (some v1) else ((p_X1_tollOf v2 σ).bind fun r2 => p_X1_allTolls_L4 σ n (v1 + r2) (v2 + 1))
def p_X1_allTolls  (σ : Sg) : Option Int32 :=
  p_X1_allTolls_L4 σ 400 0 0
set_option maxRecDepth 20000 in
set_option maxHeartbeats 1000000 in
theorem s_X1_allTolls_L4 {l : Launch} {D : va_G} {ty : Nat → ClassId} {ρ : Nat → Nat → Nat} {N0 : Nat} (S : St l ty ρ N0)   (σ : Sg) : ∀ (n : Nat) (v1 : Int32) (v2 : Int32) (r : Int32) (h : p_X1_allTolls_L4  σ n v1 v2 = some r) {p : Program} {e : Env} {s : State} {m : MethodId} {args : Array Value} {below : List Frame} {meth : Method} {c : Code} (K : Cx p l s m args meth c cX1_allTolls 3 RX1 (some .int) D ty ρ N0) (hX : ∀ x ∈ c.exceptionTable.toList, False), WA p l e (rmk 2 0 0) s m args below meth c D ty ρ N0 3 (vx_MQ below (oQ D ty ρ N0 (oI r) σ) (oX D ty ρ N0 (oI r) σ) args s 0 0 (fun q => N0 ≤ q)) 4 [some (.ref (ρ 1 0)), some (.int v1), some (.int v2)] [] σ 0 0 := by
  intro n
  induction n with
  | zero =>
    intro v1 v2 r h
    simp only [p_X1_allTolls_L4] at h
    cases h
  | succ n ih =>
    intro v1 v2 r h p e s m args below meth c K hX
    have dq := @tat _ _ dt_X1_allTolls
    rw [p_X1_allTolls_L4] at h
    refine a_iload_n K (dq 4 rfl) rfl rfl ?_
    refine a_aload_n K (dq 5 rfl) rfl rfl ?_
    refine a_get K (T := 1) (i := 0) (k := 0) (v := .int (gI σ 1 0 0)) v_1 rfl rfl in_X1 (Nat.le_of_ble_eq_true rfl) fl_X1_30 rfl (dq 6 rfl) ?_
    refine a_icmp_ge K (tgt := 26) (dq 7 rfl) rfl (fun c1 => ?_) (fun c1 => ?_)
    · have h := ite_t c1 h
      refine a_iload_n K (dq 16 rfl) rfl rfl ?_
      obtain rfl := Option.some.inj h
      exact a_iret K rfl rfl (dq 17 rfl) (Nat.le_of_ble_eq_true rfl) (Nat.le_of_ble_eq_true rfl) rfl rfl
    · have h := ite_f c1 h
      refine a_iload_n K (dq 8 rfl) rfl rfl ?_
      refine a_aload_n K (dq 9 rfl) rfl rfl ?_
      refine a_iload_n K (dq 10 rfl) rfl rfl ?_
      obtain ⟨r2, h2, h⟩ := bnd h
      refine a_callVi K (s_X1_tollOf S v2  σ r2 h2) v_1 rfl rfl cw_X1_tollOf ml_X1_73 (by decide) rfl (rest := [.int v1]) rfl (Nat.le_of_ble_eq_true rfl) (dq 11 rfl) (by decide) ?_
      refine a_iadd K (dq 12 rfl) ?_
      refine a_istore_n K (dq 13 rfl) rfl (Nat.le_of_ble_eq_true rfl) (ls' := [some (.ref (ρ 1 0)), some (.int (v1 + r2)), some (.int v2)]) rfl ?_
      refine a_iinc K (dq 14 rfl) rfl (v := (v2 + 1)) rfl (Nat.le_of_ble_eq_true rfl) (ls' := [some (.ref (ρ 1 0)), some (.int (v1 + r2)), some (.int (v2 + 1))]) rfl ?_
      refine a_goto K (tgt := 4) (dq 15 rfl) rfl ?_
      exact ih (v1 + r2) (v2 + 1) r h K hX
set_option maxRecDepth 20000 in
set_option maxHeartbeats 1000000 in
theorem s_X1_allTolls {l : Launch} {D : va_G} {ty : Nat → ClassId} {ρ : Nat → Nat → Nat} {N0 : Nat} (S : St l ty ρ N0)   (σ : Sg) (r : Int32) (h : p_X1_allTolls  σ = some r) : AMet l D ty ρ N0 yX1_allTolls (Cond.code yX1_allTolls cX1_allTolls 3 (some .int) :: GW) (rmk 2 0 0) [.ref (ρ 1 0)] σ (oI r) σ := by
  refine am_enter S (by decide) rfl rfl (Nat.le_of_ble_eq_true rfl) ?_
  intro p e s m args below meth c K hX
  have dq := @tat _ _ dt_X1_allTolls
  unfold p_X1_allTolls at h
  show WA p l e _ s m args below meth c D ty ρ N0 3 _ 0 [some (.ref (ρ 1 0)), none, none] [] σ 0 0
  refine a_iconst K (dq 0 rfl) (v := 0) rfl ?_
  refine a_istore_n K (dq 1 rfl) rfl (Nat.le_of_ble_eq_true rfl) (ls' := [some (.ref (ρ 1 0)), some (.int 0), none]) rfl ?_
  refine a_iconst K (dq 2 rfl) (v := 0) rfl ?_
  refine a_istore_n K (dq 3 rfl) rfl (Nat.le_of_ble_eq_true rfl) (ls' := [some (.ref (ρ 1 0)), some (.int 0), some (.int 0)]) rfl ?_
  exact s_X1_allTolls_L4 S   σ 400 0 0 r h K hX
def t_X1_drives : List (Nat × Instr × Nat) := [(0, .aload_n 0, 1), (1, .getfield 44, 3), (4, .ireturn, 1)]
theorem dt_X1_drives : tblOK cX1_drives t_X1_drives = true := by decide +kernel
def p_X1_drives  (σ : Sg) : Option Int32 :=
  some (gI σ 1 0 7)
set_option maxRecDepth 20000 in
set_option maxHeartbeats 1000000 in
theorem s_X1_drives {l : Launch} {D : va_G} {ty : Nat → ClassId} {ρ : Nat → Nat → Nat} {N0 : Nat} (S : St l ty ρ N0)   (σ : Sg) (r : Int32) (h : p_X1_drives  σ = some r) : AMet l D ty ρ N0 yX1_drives (Cond.code yX1_drives cX1_drives 1 (some .int) :: GW) (rmk 1 0 0) [.ref (ρ 1 0)] σ (oI r) σ := by
  refine am_enter S (by decide) rfl rfl (Nat.le_of_ble_eq_true rfl) ?_
  intro p e s m args below meth c K hX
  have dq := @tat _ _ dt_X1_drives
  unfold p_X1_drives at h
  show WA p l e _ s m args below meth c D ty ρ N0 1 _ 0 [some (.ref (ρ 1 0))] [] σ 0 0
  refine a_aload_n K (dq 0 rfl) rfl rfl ?_
  refine a_get K (T := 1) (i := 0) (k := 7) (v := .int (gI σ 1 0 7)) v_1 rfl rfl in_X1 (Nat.le_of_ble_eq_true rfl) fl_X1_44 rfl (dq 1 rfl) ?_
  obtain rfl := Option.some.inj h
  exact a_iret K rfl rfl (dq 2 rfl) (Nat.le_of_ble_eq_true rfl) (Nat.le_of_ble_eq_true rfl) rfl rfl
def t_X1_paid : List (Nat × Instr × Nat) := [(0, .aload_n 0, 1), (1, .getfield 47, 3), (4, .ireturn, 1)]
theorem dt_X1_paid : tblOK cX1_paid t_X1_paid = true := by decide +kernel
def p_X1_paid  (σ : Sg) : Option Int32 :=
  some (gI σ 1 0 8)
set_option maxRecDepth 20000 in
set_option maxHeartbeats 1000000 in
theorem s_X1_paid {l : Launch} {D : va_G} {ty : Nat → ClassId} {ρ : Nat → Nat → Nat} {N0 : Nat} (S : St l ty ρ N0)   (σ : Sg) (r : Int32) (h : p_X1_paid  σ = some r) : AMet l D ty ρ N0 yX1_paid (Cond.code yX1_paid cX1_paid 1 (some .int) :: GW) (rmk 1 0 0) [.ref (ρ 1 0)] σ (oI r) σ := by
  refine am_enter S (by decide) rfl rfl (Nat.le_of_ble_eq_true rfl) ?_
  intro p e s m args below meth c K hX
  have dq := @tat _ _ dt_X1_paid
  unfold p_X1_paid at h
  show WA p l e _ s m args below meth c D ty ρ N0 1 _ 0 [some (.ref (ρ 1 0))] [] σ 0 0
  refine a_aload_n K (dq 0 rfl) rfl rfl ?_
  refine a_get K (T := 1) (i := 0) (k := 8) (v := .int (gI σ 1 0 8)) v_1 rfl rfl in_X1 (Nat.le_of_ble_eq_true rfl) fl_X1_47 rfl (dq 1 rfl) ?_
  obtain rfl := Option.some.inj h
  exact a_iret K rfl rfl (dq 2 rfl) (Nat.le_of_ble_eq_true rfl) (Nat.le_of_ble_eq_true rfl) rfl rfl
def t_X1_preferring : List (Nat × Instr × Nat) := [(0, .iconst 0, 1), (1, .istore_n 1, 1), (2, .iconst 0, 1), (3, .istore_n 2, 1), (4, .iload_n 2, 1), (5, .aload_n 0, 1), (6, .getfield 30, 3), (9, .if_icmp .ge 21, 3), (12, .aload_n 0, 1), (13, .iload_n 2, 1), (14, .invokevirtual 76, 3), (17, .iconst (-1), 1), (18, .if_icmp .eq 6, 3), (21, .iinc 1 1, 3), (24, .iinc 2 1, 3), (27, .goto (-23), 3), (30, .iload_n 1, 1), (31, .ireturn, 1)]
theorem dt_X1_preferring : tblOK cX1_preferring t_X1_preferring = true := by decide +kernel
def p_X1_preferring_L4  (σ : Sg) : Nat → Int32 → Int32 → Option Int32
  | 0, _, _ => none
  | n + 1, v1, v2 => if (gI σ 1 0 0) ≤ v2 then (some v1) else ((p_X1_preferredOf v2 σ).bind fun r2 => if r2 = (-1) then (p_X1_preferring_L4 σ n v1 (v2 + 1)) else (p_X1_preferring_L4 σ n (v1 + 1) (v2 + 1)))
def p_X1_preferring  (σ : Sg) : Option Int32 :=
  p_X1_preferring_L4 σ 400 0 0
set_option maxRecDepth 20000 in
set_option maxHeartbeats 1000000 in
theorem s_X1_preferring_L4 {l : Launch} {D : va_G} {ty : Nat → ClassId} {ρ : Nat → Nat → Nat} {N0 : Nat} (S : St l ty ρ N0)   (σ : Sg) : ∀ (n : Nat) (v1 : Int32) (v2 : Int32) (r : Int32) (h : p_X1_preferring_L4  σ n v1 v2 = some r) {p : Program} {e : Env} {s : State} {m : MethodId} {args : Array Value} {below : List Frame} {meth : Method} {c : Code} (K : Cx p l s m args meth c cX1_preferring 3 RX1 (some .int) D ty ρ N0) (hX : ∀ x ∈ c.exceptionTable.toList, False), WA p l e (rmk 2 0 0) s m args below meth c D ty ρ N0 3 (vx_MQ below (oQ D ty ρ N0 (oI r) σ) (oX D ty ρ N0 (oI r) σ) args s 0 0 (fun q => N0 ≤ q)) 4 [some (.ref (ρ 1 0)), some (.int v1), some (.int v2)] [] σ 0 0 := by
  intro n
  induction n with
  | zero =>
    intro v1 v2 r h
    simp only [p_X1_preferring_L4] at h
    cases h
  | succ n ih =>
    intro v1 v2 r h p e s m args below meth c K hX
    have dq := @tat _ _ dt_X1_preferring
    rw [p_X1_preferring_L4] at h
    refine a_iload_n K (dq 4 rfl) rfl rfl ?_
    refine a_aload_n K (dq 5 rfl) rfl rfl ?_
    refine a_get K (T := 1) (i := 0) (k := 0) (v := .int (gI σ 1 0 0)) v_1 rfl rfl in_X1 (Nat.le_of_ble_eq_true rfl) fl_X1_30 rfl (dq 6 rfl) ?_
    refine a_icmp_ge K (tgt := 30) (dq 7 rfl) rfl (fun c1 => ?_) (fun c1 => ?_)
    · have h := ite_t c1 h
      refine a_iload_n K (dq 16 rfl) rfl rfl ?_
      obtain rfl := Option.some.inj h
      exact a_iret K rfl rfl (dq 17 rfl) (Nat.le_of_ble_eq_true rfl) (Nat.le_of_ble_eq_true rfl) rfl rfl
    · have h := ite_f c1 h
      refine a_aload_n K (dq 8 rfl) rfl rfl ?_
      refine a_iload_n K (dq 9 rfl) rfl rfl ?_
      obtain ⟨r2, h2, h⟩ := bnd h
      refine a_callVi K (s_X1_preferredOf S v2  σ r2 h2) v_1 rfl rfl cw_X1_preferredOf ml_X1_76 (by decide) rfl (rest := []) rfl (Nat.le_of_ble_eq_true rfl) (dq 10 rfl) (by decide) ?_
      refine a_iconst K (dq 11 rfl) (v := (-1)) rfl ?_
      refine a_icmp_eq K (tgt := 24) (dq 12 rfl) rfl (fun c3 => ?_) (fun c3 => ?_)
      · have h := ite_t c3 h
        refine a_iinc K (dq 14 rfl) rfl (v := (v2 + 1)) rfl (Nat.le_of_ble_eq_true rfl) (ls' := [some (.ref (ρ 1 0)), some (.int v1), some (.int (v2 + 1))]) rfl ?_
        refine a_goto K (tgt := 4) (dq 15 rfl) rfl ?_
        exact ih v1 (v2 + 1) r h K hX
      · have h := ite_f c3 h
        refine a_iinc K (dq 13 rfl) rfl (v := (v1 + 1)) rfl (Nat.le_of_ble_eq_true rfl) (ls' := [some (.ref (ρ 1 0)), some (.int (v1 + 1)), some (.int v2)]) rfl ?_
        refine a_iinc K (dq 14 rfl) rfl (v := (v2 + 1)) rfl (Nat.le_of_ble_eq_true rfl) (ls' := [some (.ref (ρ 1 0)), some (.int (v1 + 1)), some (.int (v2 + 1))]) rfl ?_
        refine a_goto K (tgt := 4) (dq 15 rfl) rfl ?_
        exact ih (v1 + 1) (v2 + 1) r h K hX
set_option maxRecDepth 20000 in
set_option maxHeartbeats 1000000 in
theorem s_X1_preferring {l : Launch} {D : va_G} {ty : Nat → ClassId} {ρ : Nat → Nat → Nat} {N0 : Nat} (S : St l ty ρ N0)   (σ : Sg) (r : Int32) (h : p_X1_preferring  σ = some r) : AMet l D ty ρ N0 yX1_preferring (Cond.code yX1_preferring cX1_preferring 3 (some .int) :: GW) (rmk 2 0 0) [.ref (ρ 1 0)] σ (oI r) σ := by
  refine am_enter S (by decide) rfl rfl (Nat.le_of_ble_eq_true rfl) ?_
  intro p e s m args below meth c K hX
  have dq := @tat _ _ dt_X1_preferring
  unfold p_X1_preferring at h
  show WA p l e _ s m args below meth c D ty ρ N0 3 _ 0 [some (.ref (ρ 1 0)), none, none] [] σ 0 0
  refine a_iconst K (dq 0 rfl) (v := 0) rfl ?_
  refine a_istore_n K (dq 1 rfl) rfl (Nat.le_of_ble_eq_true rfl) (ls' := [some (.ref (ρ 1 0)), some (.int 0), none]) rfl ?_
  refine a_iconst K (dq 2 rfl) (v := 0) rfl ?_
  refine a_istore_n K (dq 3 rfl) rfl (Nat.le_of_ble_eq_true rfl) (ls' := [some (.ref (ρ 1 0)), some (.int 0), some (.int 0)]) rfl ?_
  exact s_X1_preferring_L4 S   σ 400 0 0 r h K hX
def t_X1_changedByExposing : List (Nat × Instr × Nat) := [(0, .aload_n 0, 1), (1, .getfield 38, 3), (4, .ireturn, 1)]
theorem dt_X1_changedByExposing : tblOK cX1_changedByExposing t_X1_changedByExposing = true := by decide +kernel
def p_X1_changedByExposing  (σ : Sg) : Option Int32 :=
  some (gI σ 1 0 5)
set_option maxRecDepth 20000 in
set_option maxHeartbeats 1000000 in
theorem s_X1_changedByExposing {l : Launch} {D : va_G} {ty : Nat → ClassId} {ρ : Nat → Nat → Nat} {N0 : Nat} (S : St l ty ρ N0)   (σ : Sg) (r : Int32) (h : p_X1_changedByExposing  σ = some r) : AMet l D ty ρ N0 yX1_changedByExposing (Cond.code yX1_changedByExposing cX1_changedByExposing 1 (some .int) :: GW) (rmk 1 0 0) [.ref (ρ 1 0)] σ (oI r) σ := by
  refine am_enter S (by decide) rfl rfl (Nat.le_of_ble_eq_true rfl) ?_
  intro p e s m args below meth c K hX
  have dq := @tat _ _ dt_X1_changedByExposing
  unfold p_X1_changedByExposing at h
  show WA p l e _ s m args below meth c D ty ρ N0 1 _ 0 [some (.ref (ρ 1 0))] [] σ 0 0
  refine a_aload_n K (dq 0 rfl) rfl rfl ?_
  refine a_get K (T := 1) (i := 0) (k := 5) (v := .int (gI σ 1 0 5)) v_1 rfl rfl in_X1 (Nat.le_of_ble_eq_true rfl) fl_X1_38 rfl (dq 1 rfl) ?_
  obtain rfl := Option.some.inj h
  exact a_iret K rfl rfl (dq 2 rfl) (Nat.le_of_ble_eq_true rfl) (Nat.le_of_ble_eq_true rfl) rfl rfl
def t_X1_exposings : List (Nat × Instr × Nat) := [(0, .aload_n 0, 1), (1, .getfield 41, 3), (4, .ireturn, 1)]
theorem dt_X1_exposings : tblOK cX1_exposings t_X1_exposings = true := by decide +kernel
def p_X1_exposings  (σ : Sg) : Option Int32 :=
  some (gI σ 1 0 6)
set_option maxRecDepth 20000 in
set_option maxHeartbeats 1000000 in
theorem s_X1_exposings {l : Launch} {D : va_G} {ty : Nat → ClassId} {ρ : Nat → Nat → Nat} {N0 : Nat} (S : St l ty ρ N0)   (σ : Sg) (r : Int32) (h : p_X1_exposings  σ = some r) : AMet l D ty ρ N0 yX1_exposings (Cond.code yX1_exposings cX1_exposings 1 (some .int) :: GW) (rmk 1 0 0) [.ref (ρ 1 0)] σ (oI r) σ := by
  refine am_enter S (by decide) rfl rfl (Nat.le_of_ble_eq_true rfl) ?_
  intro p e s m args below meth c K hX
  have dq := @tat _ _ dt_X1_exposings
  unfold p_X1_exposings at h
  show WA p l e _ s m args below meth c D ty ρ N0 1 _ 0 [some (.ref (ρ 1 0))] [] σ 0 0
  refine a_aload_n K (dq 0 rfl) rfl rfl ?_
  refine a_get K (T := 1) (i := 0) (k := 6) (v := .int (gI σ 1 0 6)) v_1 rfl rfl in_X1 (Nat.le_of_ble_eq_true rfl) fl_X1_41 rfl (dq 1 rfl) ?_
  obtain rfl := Option.some.inj h
  exact a_iret K rfl rfl (dq 2 rfl) (Nat.le_of_ble_eq_true rfl) (Nat.le_of_ble_eq_true rfl) rfl rfl
def t_X0_count : List (Nat × Instr × Nat) := [(0, .aload_n 0, 1), (1, .getfield 30, 3), (4, .ireturn, 1)]
theorem dt_X0_count : tblOK cX0_count t_X0_count = true := by decide +kernel
def p_X0_count  (σ : Sg) : Option Int32 :=
  some (gI σ 6 0 2)
set_option maxRecDepth 20000 in
set_option maxHeartbeats 1000000 in
theorem s_X0_count {l : Launch} {D : va_G} {ty : Nat → ClassId} {ρ : Nat → Nat → Nat} {N0 : Nat} (S : St l ty ρ N0)   (σ : Sg) (r : Int32) (h : p_X0_count  σ = some r) : AMet l D ty ρ N0 yX0_count (Cond.code yX0_count cX0_count 1 (some .int) :: GW) (rmk 1 0 0) [.ref (ρ 6 0)] σ (oI r) σ := by
  refine am_enter S (by decide) rfl rfl (Nat.le_of_ble_eq_true rfl) ?_
  intro p e s m args below meth c K hX
  have dq := @tat _ _ dt_X0_count
  unfold p_X0_count at h
  show WA p l e _ s m args below meth c D ty ρ N0 1 _ 0 [some (.ref (ρ 6 0))] [] σ 0 0
  refine a_aload_n K (dq 0 rfl) rfl rfl ?_
  refine a_get K (T := 6) (i := 0) (k := 2) (v := .int (gI σ 6 0 2)) v_6 rfl rfl in_X0 (Nat.le_of_ble_eq_true rfl) fl_X0_30 rfl (dq 1 rfl) ?_
  obtain rfl := Option.some.inj h
  exact a_iret K rfl rfl (dq 2 rfl) (Nat.le_of_ble_eq_true rfl) (Nat.le_of_ble_eq_true rfl) rfl rfl
def t_X0_forget : List (Nat × Instr × Nat) := [(0, .aload_n 0, 1), (1, .iconst 0, 1), (2, .putfield 30, 3), (5, .return_, 1)]
theorem dt_X0_forget : tblOK cX0_forget t_X0_forget = true := by decide +kernel
def p_X0_forget  (σ : Sg) : Option Sg :=
  some (sI σ 6 0 2 0)
set_option maxRecDepth 20000 in
set_option maxHeartbeats 1000000 in
theorem s_X0_forget {l : Launch} {D : va_G} {ty : Nat → ClassId} {ρ : Nat → Nat → Nat} {N0 : Nat} (S : St l ty ρ N0)   (σ : Sg) (r : Sg) (h : p_X0_forget  σ = some r) : AMet l D ty ρ N0 yX0_forget (Cond.code yX0_forget cX0_forget 1 none :: GW) (rmk 1 0 0) [.ref (ρ 6 0)] σ (.inl none) r := by
  refine am_enter S (by decide) rfl rfl (Nat.le_of_ble_eq_true rfl) ?_
  intro p e s m args below meth c K hX
  have dq := @tat _ _ dt_X0_forget
  unfold p_X0_forget at h
  show WA p l e _ s m args below meth c D ty ρ N0 1 _ 0 [some (.ref (ρ 6 0))] [] σ 0 0
  refine a_aload_n K (dq 0 rfl) rfl rfl ?_
  refine a_iconst K (dq 1 rfl) (v := 0) rfl ?_
  refine a_put K (T := 6) (i := 0) (k := 2) v_6 rfl rfl in_X0 tyX0 tyX0_ok nmX0 (Nat.le_of_ble_eq_true rfl) fl_X0_30 rfl rfl (tyX0_ok 2 (by decide)) rfl rfl (dq 2 rfl) ?_
  obtain rfl := Option.some.inj h
  exact a_vret K rfl (dq 3 rfl) (Nat.le_of_ble_eq_true rfl) (Nat.le_of_ble_eq_true rfl) rfl rfl
def t_X5_follow : List (Nat × Instr × Nat) := [(0, .aload_n 0, 1), (1, .iconst 0, 1), (2, .putfield 19, 3), (5, .iload_n 2, 1), (6, .istore 4, 2), (8, .aload_n 0, 1), (9, .getfield 19, 3), (12, .aload_n 0, 1), (13, .getfield 9, 3), (16, .arraylength, 1), (17, .if_icmp .ge 41, 3), (20, .iload 4, 2), (22, .iconst (-1), 1), (23, .if_icmp .eq 35, 3), (26, .aload_n 0, 1), (27, .getfield 9, 3), (30, .aload_n 0, 1), (31, .getfield 19, 3), (34, .iload 4, 2), (36, .iastore, 1), (37, .aload_n 0, 1), (38, .dup, 1), (39, .getfield 19, 3), (42, .iconst 1, 1), (43, .iadd, 1), (44, .putfield 19, 3), (47, .aload_n 1, 1), (48, .iload 4, 2), (50, .invokevirtual 22, 3), (53, .istore 4, 2), (55, .goto (-47), 3), (58, .iload_n 3, 1), (59, .istore 4, 2), (61, .iconst 0, 1), (62, .istore 5, 2), (64, .iload 5, 2), (66, .bipush 12, 2), (68, .if_icmp .ge 33, 3), (71, .iload 4, 2), (73, .iconst (-1), 1), (74, .if_icmp .eq 27, 3), (77, .aload_n 0, 1), (78, .iload 4, 2), (80, .invokevirtual 28, 3), (83, .iconst (-1), 1), (84, .if_icmp .ne 17, 3), (87, .aload_n 1, 1), (88, .iload 4, 2), (90, .invokevirtual 22, 3), (93, .istore 4, 2), (95, .iinc 5 1, 3), (98, .goto (-34), 3), (101, .aload_n 0, 1), (102, .aload_n 0, 1), (103, .iload 4, 2), (105, .invokevirtual 28, 3), (108, .putfield 15, 3), (111, .aload_n 0, 1), (112, .aload_n 0, 1), (113, .getfield 15, 3), (116, .iconst (-1), 1), (117, .if_icmp .ne 7, 3), (120, .iconst 0, 1), (121, .goto 12, 3), (124, .aload_n 0, 1), (125, .getfield 15, 3), (128, .iconst 1, 1), (129, .iadd, 1), (130, .iload 5, 2), (132, .iadd, 1), (133, .putfield 19, 3), (136, .iload_n 3, 1), (137, .istore 6, 2), (139, .aload_n 0, 1), (140, .getfield 19, 3), (143, .iconst 1, 1), (144, .isub, 1), (145, .istore 7, 2), (147, .iload 7, 2), (149, .aload_n 0, 1), (150, .getfield 15, 3), (153, .if_icmp .le 36, 3), (156, .iload 7, 2), (158, .aload_n 0, 1), (159, .getfield 9, 3), (162, .arraylength, 1), (163, .if_icmp .ge 26, 3), (166, .aload_n 0, 1), (167, .getfield 9, 3), (170, .iload 7, 2), (172, .iload 6, 2), (174, .iastore, 1), (175, .aload_n 1, 1), (176, .iload 6, 2), (178, .invokevirtual 22, 3), (181, .istore 6, 2), (183, .iinc 7 (-1), 3), (186, .goto (-39), 3), (189, .return_, 1)]
theorem dt_X5_follow : tblOK cX5_follow t_X5_follow = true := by decide +kernel
def p_X5_follow_L147  : Nat → Int32 → Int32 → Sg → Option Sg
  | 0, _, _, _ => none
  | n + 1, v6, v7, σ => if v7 ≤ (gI σ 14 0 2) then (some σ) else (if 12 ≤ v7 then (some σ) else (if ib v7 12 then ((p_X1_parentOf v6 (sA σ 15 0 v7.toNatClampNeg v6)).bind fun r8 => p_X5_follow_L147 n r8 (v7 + (-1)) (sA σ 15 0 v7.toNatClampNeg v6)) else none))
def p_X5_follow_L64  : Nat → Int32 → Int32 → Int32 → Sg → Option Sg
  | 0, _, _, _, _ => none
  | n + 1, v3, v4, v5, σ => if 12 ≤ v5 then ((p_X5_placeOf v4 σ).bind fun r3 => if (gI (sI σ 14 0 2 r3) 14 0 2) = (-1) then (p_X5_follow_L147 400 v3 ((gI (sI (sI σ 14 0 2 r3) 14 0 1 0) 14 0 1) - 1) (sI (sI σ 14 0 2 r3) 14 0 1 0)) else (p_X5_follow_L147 400 v3 ((gI (sI (sI σ 14 0 2 r3) 14 0 1 (((gI (sI σ 14 0 2 r3) 14 0 2) + 1) + v5)) 14 0 1) - 1) (sI (sI σ 14 0 2 r3) 14 0 1 (((gI (sI σ 14 0 2 r3) 14 0 2) + 1) + v5)))) else (if v4 = (-1) then ((p_X5_placeOf v4 σ).bind fun r10 => if (gI (sI σ 14 0 2 r10) 14 0 2) = (-1) then (p_X5_follow_L147 400 v3 ((gI (sI (sI σ 14 0 2 r10) 14 0 1 0) 14 0 1) - 1) (sI (sI σ 14 0 2 r10) 14 0 1 0)) else (p_X5_follow_L147 400 v3 ((gI (sI (sI σ 14 0 2 r10) 14 0 1 (((gI (sI σ 14 0 2 r10) 14 0 2) + 1) + v5)) 14 0 1) - 1) (sI (sI σ 14 0 2 r10) 14 0 1 (((gI (sI σ 14 0 2 r10) 14 0 2) + 1) + v5)))) else ((p_X5_placeOf v4 σ).bind fun r12 => if r12 = (-1) then ((p_X1_parentOf v4 σ).bind fun r16 => p_X5_follow_L64 n v3 r16 (v5 + 1) σ) else ((p_X5_placeOf v4 σ).bind fun r14 => if (gI (sI σ 14 0 2 r14) 14 0 2) = (-1) then (p_X5_follow_L147 400 v3 ((gI (sI (sI σ 14 0 2 r14) 14 0 1 0) 14 0 1) - 1) (sI (sI σ 14 0 2 r14) 14 0 1 0)) else (p_X5_follow_L147 400 v3 ((gI (sI (sI σ 14 0 2 r14) 14 0 1 (((gI (sI σ 14 0 2 r14) 14 0 2) + 1) + v5)) 14 0 1) - 1) (sI (sI σ 14 0 2 r14) 14 0 1 (((gI (sI σ 14 0 2 r14) 14 0 2) + 1) + v5))))))
def p_X5_follow_L8  : Nat → Int32 → Int32 → Sg → Option Sg
  | 0, _, _, _ => none
  | n + 1, v3, v4, σ => if 12 ≤ (gI σ 14 0 1) then (p_X5_follow_L64 400 v3 v3 0 σ) else (if v4 = (-1) then (p_X5_follow_L64 400 v3 v3 0 σ) else (if ib (gI σ 14 0 1) 12 then ((p_X1_parentOf v4 (sI (sA σ 15 0 (gI σ 14 0 1).toNatClampNeg v4) 14 0 1 ((gI (sA σ 15 0 (gI σ 14 0 1).toNatClampNeg v4) 14 0 1) + 1))).bind fun r19 => p_X5_follow_L8 n v3 r19 (sI (sA σ 15 0 (gI σ 14 0 1).toNatClampNeg v4) 14 0 1 ((gI (sA σ 15 0 (gI σ 14 0 1).toNatClampNeg v4) 14 0 1) + 1))) else none))
def p_X5_follow (a2 : Int32) (a3 : Int32) (σ : Sg) : Option Sg :=
  p_X5_follow_L8 400 a3 a2 (sI σ 14 0 1 0)
set_option maxRecDepth 20000 in
set_option maxHeartbeats 1000000 in
theorem s_X5_follow_L147 {l : Launch} {D : va_G} {ty : Nat → ClassId} {ρ : Nat → Nat → Nat} {N0 : Nat} (S : St l ty ρ N0)   : ∀ (n : Nat) (v6 : Int32) (v7 : Int32) (σ : Sg) (r : Sg) (h : p_X5_follow_L147  n v6 v7 σ = some r) {p : Program} {e : Env} {s : State} {m : MethodId} {args : Array Value} {below : List Frame} {meth : Method} {c : Code} (K : Cx p l s m args meth c cX5_follow 8 RX5 none D ty ρ N0) (hX : ∀ x ∈ c.exceptionTable.toList, False), WA p l e (rmk 2 0 0) s m args below meth c D ty ρ N0 8 (vx_MQ below (oQ D ty ρ N0 (.inl none) r) (oX D ty ρ N0 (.inl none) r) args s 0 0 (fun q => N0 ≤ q)) 147 [some (.ref (ρ 14 0)), some (.ref (ρ 1 0)), none, none, none, none, some (.int v6), some (.int v7)] [] σ 0 0 := by
  intro n
  induction n with
  | zero =>
    intro v6 v7 σ r h
    simp only [p_X5_follow_L147] at h
    cases h
  | succ n ih =>
    intro v6 v7 σ r h p e s m args below meth c K hX
    have dq := @tat _ _ dt_X5_follow
    rw [p_X5_follow_L147] at h
    refine a_iload K (dq 78 rfl) rfl ?_
    refine a_aload_n K (dq 79 rfl) rfl rfl ?_
    refine a_get K (T := 14) (i := 0) (k := 2) (v := .int (gI σ 14 0 2)) v_14 rfl rfl in_X5 (Nat.le_of_ble_eq_true rfl) fl_X5_15 rfl (dq 80 rfl) ?_
    refine a_icmp_le K (tgt := 189) (dq 81 rfl) rfl (fun c5 => ?_) (fun c5 => ?_)
    · have h := ite_t c5 h
      obtain rfl := Option.some.inj h
      exact a_vret K rfl (dq 98 rfl) (Nat.le_of_ble_eq_true rfl) (Nat.le_of_ble_eq_true rfl) rfl rfl
    · have h := ite_f c5 h
      refine a_iload K (dq 82 rfl) rfl ?_
      refine a_aload_n K (dq 83 rfl) rfl rfl ?_
      refine a_get K (T := 14) (i := 0) (k := 0) (v := .ref (ρ 15 0)) v_14 rfl rfl in_X5 (Nat.le_of_ble_eq_true rfl) fl_X5_9 rfl (dq 84 rfl) ?_
      refine a_ilen K (T := 15) (i := 0) (v := 12) v_15 rfl rfl rfl (dq 85 rfl) ?_
      refine a_icmp_ge K (tgt := 189) (dq 86 rfl) rfl (fun c6 => ?_) (fun c6 => ?_)
      · have h := ite_t c6 h
        obtain rfl := Option.some.inj h
        exact a_vret K rfl (dq 98 rfl) (Nat.le_of_ble_eq_true rfl) (Nat.le_of_ble_eq_true rfl) rfl rfl
      · have h := ite_f c6 h
        refine a_aload_n K (dq 87 rfl) rfl rfl ?_
        refine a_get K (T := 14) (i := 0) (k := 0) (v := .ref (ρ 15 0)) v_14 rfl rfl in_X5 (Nat.le_of_ble_eq_true rfl) fl_X5_9 rfl (dq 88 rfl) ?_
        refine a_iload K (dq 89 rfl) rfl ?_
        refine a_iload K (dq 90 rfl) rfl ?_
        obtain ⟨c7, h⟩ := ib_some h
        refine a_iast K (T := 15) (i := 0) v_15 rfl rfl c7 (dq 91 rfl) ?_
        refine a_aload_n K (dq 92 rfl) rfl rfl ?_
        refine a_iload K (dq 93 rfl) rfl ?_
        obtain ⟨r8, h8, h⟩ := bnd h
        refine a_callVi K (s_X1_parentOf S v6  (sA σ 15 0 v7.toNatClampNeg v6) r8 h8) v_1 rfl rfl cw_X1_parentOf ml_X5_22 (by decide) rfl (rest := []) rfl (Nat.le_of_ble_eq_true rfl) (dq 94 rfl) (by decide) ?_
        refine a_istore K (dq 95 rfl) (Nat.le_of_ble_eq_true rfl) (ls' := [some (.ref (ρ 14 0)), some (.ref (ρ 1 0)), none, none, none, none, some (.int r8), some (.int v7)]) rfl ?_
        refine a_iinc K (dq 96 rfl) rfl (v := (v7 + (-1))) rfl (Nat.le_of_ble_eq_true rfl) (ls' := [some (.ref (ρ 14 0)), some (.ref (ρ 1 0)), none, none, none, none, some (.int r8), some (.int (v7 + (-1)))]) rfl ?_
        refine a_goto K (tgt := 147) (dq 97 rfl) rfl ?_
        exact ih r8 (v7 + (-1)) (sA σ 15 0 v7.toNatClampNeg v6) r h K hX
set_option maxRecDepth 20000 in
set_option maxHeartbeats 1000000 in
theorem s_X5_follow_L64 {l : Launch} {D : va_G} {ty : Nat → ClassId} {ρ : Nat → Nat → Nat} {N0 : Nat} (S : St l ty ρ N0)   : ∀ (n : Nat) (v3 : Int32) (v4 : Int32) (v5 : Int32) (σ : Sg) (r : Sg) (h : p_X5_follow_L64  n v3 v4 v5 σ = some r) {p : Program} {e : Env} {s : State} {m : MethodId} {args : Array Value} {below : List Frame} {meth : Method} {c : Code} (K : Cx p l s m args meth c cX5_follow 8 RX5 none D ty ρ N0) (hX : ∀ x ∈ c.exceptionTable.toList, False), WA p l e (rmk 2 0 0) s m args below meth c D ty ρ N0 8 (vx_MQ below (oQ D ty ρ N0 (.inl none) r) (oX D ty ρ N0 (.inl none) r) args s 0 0 (fun q => N0 ≤ q)) 64 [some (.ref (ρ 14 0)), some (.ref (ρ 1 0)), none, some (.int v3), some (.int v4), some (.int v5), none, none] [] σ 0 0 := by
  intro n
  induction n with
  | zero =>
    intro v3 v4 v5 σ r h
    simp only [p_X5_follow_L64] at h
    cases h
  | succ n ih =>
    intro v3 v4 v5 σ r h p e s m args below meth c K hX
    have dq := @tat _ _ dt_X5_follow
    rw [p_X5_follow_L64] at h
    refine a_iload K (dq 35 rfl) rfl ?_
    refine a_bipush K (dq 36 rfl) (v := 12) rfl ?_
    refine a_icmp_ge K (tgt := 101) (dq 37 rfl) rfl (fun c2 => ?_) (fun c2 => ?_)
    · have h := ite_t c2 h
      refine a_aload_n K (dq 52 rfl) rfl rfl ?_
      refine a_aload_n K (dq 53 rfl) rfl rfl ?_
      refine a_iload K (dq 54 rfl) rfl ?_
      obtain ⟨r3, h3, h⟩ := bnd h
      refine a_callVi K (s_X5_placeOf S v4  σ r3 h3) v_14 rfl rfl cw_X5_placeOf ml_X5_28 (by decide) rfl (rest := [.ref (ρ 14 0)]) rfl (Nat.le_of_ble_eq_true rfl) (dq 55 rfl) (by decide) ?_
      refine a_put K (T := 14) (i := 0) (k := 2) v_14 rfl rfl in_X5 tyX5 tyX5_ok nmX5 (Nat.le_of_ble_eq_true rfl) fl_X5_15 rfl rfl (tyX5_ok 2 (by decide)) rfl rfl (dq 56 rfl) ?_
      refine a_aload_n K (dq 57 rfl) rfl rfl ?_
      refine a_aload_n K (dq 58 rfl) rfl rfl ?_
      refine a_get K (T := 14) (i := 0) (k := 2) (v := .int (gI (sI σ 14 0 2 r3) 14 0 2)) v_14 rfl rfl in_X5 (Nat.le_of_ble_eq_true rfl) fl_X5_15 rfl (dq 59 rfl) ?_
      refine a_iconst K (dq 60 rfl) (v := (-1)) rfl ?_
      refine a_icmp_ne K (tgt := 124) (dq 61 rfl) rfl (fun c4 => ?_) (fun c4 => ?_)
      · have h := ite_f c4 h
        refine a_aload_n K (dq 64 rfl) rfl rfl ?_
        refine a_get K (T := 14) (i := 0) (k := 2) (v := .int (gI (sI σ 14 0 2 r3) 14 0 2)) v_14 rfl rfl in_X5 (Nat.le_of_ble_eq_true rfl) fl_X5_15 rfl (dq 65 rfl) ?_
        refine a_iconst K (dq 66 rfl) (v := 1) rfl ?_
        refine a_iadd K (dq 67 rfl) ?_
        refine a_iload K (dq 68 rfl) rfl ?_
        refine a_iadd K (dq 69 rfl) ?_
        refine a_put K (T := 14) (i := 0) (k := 1) v_14 rfl rfl in_X5 tyX5 tyX5_ok nmX5 (Nat.le_of_ble_eq_true rfl) fl_X5_19 rfl rfl (tyX5_ok 1 (by decide)) rfl rfl (dq 70 rfl) ?_
        refine a_iload_n K (dq 71 rfl) rfl rfl ?_
        refine a_istore K (dq 72 rfl) (Nat.le_of_ble_eq_true rfl) (ls' := [some (.ref (ρ 14 0)), some (.ref (ρ 1 0)), none, some (.int v3), some (.int v4), some (.int v5), some (.int v3), none]) rfl ?_
        refine a_aload_n K (dq 73 rfl) rfl rfl ?_
        refine a_get K (T := 14) (i := 0) (k := 1) (v := .int (gI (sI (sI σ 14 0 2 r3) 14 0 1 (((gI (sI σ 14 0 2 r3) 14 0 2) + 1) + v5)) 14 0 1)) v_14 rfl rfl in_X5 (Nat.le_of_ble_eq_true rfl) fl_X5_19 rfl (dq 74 rfl) ?_
        refine a_iconst K (dq 75 rfl) (v := 1) rfl ?_
        refine a_isub K (dq 76 rfl) ?_
        refine a_istore K (dq 77 rfl) (Nat.le_of_ble_eq_true rfl) (ls' := [some (.ref (ρ 14 0)), some (.ref (ρ 1 0)), none, some (.int v3), some (.int v4), some (.int v5), some (.int v3), some (.int ((gI (sI (sI σ 14 0 2 r3) 14 0 1 (((gI (sI σ 14 0 2 r3) 14 0 2) + 1) + v5)) 14 0 1) - 1))]) rfl ?_
        refine a_le2 (ls' := [some (.ref (ρ 14 0)), some (.ref (ρ 1 0)), none, none, none, none, some (.int v3), some (.int ((gI (sI (sI σ 14 0 2 r3) 14 0 1 (((gI (sI σ 14 0 2 r3) 14 0 2) + 1) + v5)) 14 0 1) - 1))]) ⟨rfl, rfl, rfl, rfl, trivial⟩ ?_
        exact s_X5_follow_L147 S    400 v3 ((gI (sI (sI σ 14 0 2 r3) 14 0 1 (((gI (sI σ 14 0 2 r3) 14 0 2) + 1) + v5)) 14 0 1) - 1) (sI (sI σ 14 0 2 r3) 14 0 1 (((gI (sI σ 14 0 2 r3) 14 0 2) + 1) + v5)) r h K hX
      · have h := ite_t c4 h
        refine a_iconst K (dq 62 rfl) (v := 0) rfl ?_
        refine a_goto K (tgt := 133) (dq 63 rfl) rfl ?_
        refine a_put K (T := 14) (i := 0) (k := 1) v_14 rfl rfl in_X5 tyX5 tyX5_ok nmX5 (Nat.le_of_ble_eq_true rfl) fl_X5_19 rfl rfl (tyX5_ok 1 (by decide)) rfl rfl (dq 70 rfl) ?_
        refine a_iload_n K (dq 71 rfl) rfl rfl ?_
        refine a_istore K (dq 72 rfl) (Nat.le_of_ble_eq_true rfl) (ls' := [some (.ref (ρ 14 0)), some (.ref (ρ 1 0)), none, some (.int v3), some (.int v4), some (.int v5), some (.int v3), none]) rfl ?_
        refine a_aload_n K (dq 73 rfl) rfl rfl ?_
        refine a_get K (T := 14) (i := 0) (k := 1) (v := .int (gI (sI (sI σ 14 0 2 r3) 14 0 1 0) 14 0 1)) v_14 rfl rfl in_X5 (Nat.le_of_ble_eq_true rfl) fl_X5_19 rfl (dq 74 rfl) ?_
        refine a_iconst K (dq 75 rfl) (v := 1) rfl ?_
        refine a_isub K (dq 76 rfl) ?_
        refine a_istore K (dq 77 rfl) (Nat.le_of_ble_eq_true rfl) (ls' := [some (.ref (ρ 14 0)), some (.ref (ρ 1 0)), none, some (.int v3), some (.int v4), some (.int v5), some (.int v3), some (.int ((gI (sI (sI σ 14 0 2 r3) 14 0 1 0) 14 0 1) - 1))]) rfl ?_
        refine a_le2 (ls' := [some (.ref (ρ 14 0)), some (.ref (ρ 1 0)), none, none, none, none, some (.int v3), some (.int ((gI (sI (sI σ 14 0 2 r3) 14 0 1 0) 14 0 1) - 1))]) ⟨rfl, rfl, rfl, rfl, trivial⟩ ?_
        exact s_X5_follow_L147 S    400 v3 ((gI (sI (sI σ 14 0 2 r3) 14 0 1 0) 14 0 1) - 1) (sI (sI σ 14 0 2 r3) 14 0 1 0) r h K hX
    · have h := ite_f c2 h
      refine a_iload K (dq 38 rfl) rfl ?_
      refine a_iconst K (dq 39 rfl) (v := (-1)) rfl ?_
      refine a_icmp_eq K (tgt := 101) (dq 40 rfl) rfl (fun c9 => ?_) (fun c9 => ?_)
      · have h := ite_t c9 h
        refine a_aload_n K (dq 52 rfl) rfl rfl ?_
        refine a_aload_n K (dq 53 rfl) rfl rfl ?_
        refine a_iload K (dq 54 rfl) rfl ?_
        obtain ⟨r10, h10, h⟩ := bnd h
        refine a_callVi K (s_X5_placeOf S v4  σ r10 h10) v_14 rfl rfl cw_X5_placeOf ml_X5_28 (by decide) rfl (rest := [.ref (ρ 14 0)]) rfl (Nat.le_of_ble_eq_true rfl) (dq 55 rfl) (by decide) ?_
        refine a_put K (T := 14) (i := 0) (k := 2) v_14 rfl rfl in_X5 tyX5 tyX5_ok nmX5 (Nat.le_of_ble_eq_true rfl) fl_X5_15 rfl rfl (tyX5_ok 2 (by decide)) rfl rfl (dq 56 rfl) ?_
        refine a_aload_n K (dq 57 rfl) rfl rfl ?_
        refine a_aload_n K (dq 58 rfl) rfl rfl ?_
        refine a_get K (T := 14) (i := 0) (k := 2) (v := .int (gI (sI σ 14 0 2 r10) 14 0 2)) v_14 rfl rfl in_X5 (Nat.le_of_ble_eq_true rfl) fl_X5_15 rfl (dq 59 rfl) ?_
        refine a_iconst K (dq 60 rfl) (v := (-1)) rfl ?_
        refine a_icmp_ne K (tgt := 124) (dq 61 rfl) rfl (fun c11 => ?_) (fun c11 => ?_)
        · have h := ite_f c11 h
          refine a_aload_n K (dq 64 rfl) rfl rfl ?_
          refine a_get K (T := 14) (i := 0) (k := 2) (v := .int (gI (sI σ 14 0 2 r10) 14 0 2)) v_14 rfl rfl in_X5 (Nat.le_of_ble_eq_true rfl) fl_X5_15 rfl (dq 65 rfl) ?_
          refine a_iconst K (dq 66 rfl) (v := 1) rfl ?_
          refine a_iadd K (dq 67 rfl) ?_
          refine a_iload K (dq 68 rfl) rfl ?_
          refine a_iadd K (dq 69 rfl) ?_
          refine a_put K (T := 14) (i := 0) (k := 1) v_14 rfl rfl in_X5 tyX5 tyX5_ok nmX5 (Nat.le_of_ble_eq_true rfl) fl_X5_19 rfl rfl (tyX5_ok 1 (by decide)) rfl rfl (dq 70 rfl) ?_
          refine a_iload_n K (dq 71 rfl) rfl rfl ?_
          refine a_istore K (dq 72 rfl) (Nat.le_of_ble_eq_true rfl) (ls' := [some (.ref (ρ 14 0)), some (.ref (ρ 1 0)), none, some (.int v3), some (.int v4), some (.int v5), some (.int v3), none]) rfl ?_
          refine a_aload_n K (dq 73 rfl) rfl rfl ?_
          refine a_get K (T := 14) (i := 0) (k := 1) (v := .int (gI (sI (sI σ 14 0 2 r10) 14 0 1 (((gI (sI σ 14 0 2 r10) 14 0 2) + 1) + v5)) 14 0 1)) v_14 rfl rfl in_X5 (Nat.le_of_ble_eq_true rfl) fl_X5_19 rfl (dq 74 rfl) ?_
          refine a_iconst K (dq 75 rfl) (v := 1) rfl ?_
          refine a_isub K (dq 76 rfl) ?_
          refine a_istore K (dq 77 rfl) (Nat.le_of_ble_eq_true rfl) (ls' := [some (.ref (ρ 14 0)), some (.ref (ρ 1 0)), none, some (.int v3), some (.int v4), some (.int v5), some (.int v3), some (.int ((gI (sI (sI σ 14 0 2 r10) 14 0 1 (((gI (sI σ 14 0 2 r10) 14 0 2) + 1) + v5)) 14 0 1) - 1))]) rfl ?_
          refine a_le2 (ls' := [some (.ref (ρ 14 0)), some (.ref (ρ 1 0)), none, none, none, none, some (.int v3), some (.int ((gI (sI (sI σ 14 0 2 r10) 14 0 1 (((gI (sI σ 14 0 2 r10) 14 0 2) + 1) + v5)) 14 0 1) - 1))]) ⟨rfl, rfl, rfl, rfl, trivial⟩ ?_
          exact s_X5_follow_L147 S    400 v3 ((gI (sI (sI σ 14 0 2 r10) 14 0 1 (((gI (sI σ 14 0 2 r10) 14 0 2) + 1) + v5)) 14 0 1) - 1) (sI (sI σ 14 0 2 r10) 14 0 1 (((gI (sI σ 14 0 2 r10) 14 0 2) + 1) + v5)) r h K hX
        · have h := ite_t c11 h
          refine a_iconst K (dq 62 rfl) (v := 0) rfl ?_
          refine a_goto K (tgt := 133) (dq 63 rfl) rfl ?_
          refine a_put K (T := 14) (i := 0) (k := 1) v_14 rfl rfl in_X5 tyX5 tyX5_ok nmX5 (Nat.le_of_ble_eq_true rfl) fl_X5_19 rfl rfl (tyX5_ok 1 (by decide)) rfl rfl (dq 70 rfl) ?_
          refine a_iload_n K (dq 71 rfl) rfl rfl ?_
          refine a_istore K (dq 72 rfl) (Nat.le_of_ble_eq_true rfl) (ls' := [some (.ref (ρ 14 0)), some (.ref (ρ 1 0)), none, some (.int v3), some (.int v4), some (.int v5), some (.int v3), none]) rfl ?_
          refine a_aload_n K (dq 73 rfl) rfl rfl ?_
          refine a_get K (T := 14) (i := 0) (k := 1) (v := .int (gI (sI (sI σ 14 0 2 r10) 14 0 1 0) 14 0 1)) v_14 rfl rfl in_X5 (Nat.le_of_ble_eq_true rfl) fl_X5_19 rfl (dq 74 rfl) ?_
          refine a_iconst K (dq 75 rfl) (v := 1) rfl ?_
          refine a_isub K (dq 76 rfl) ?_
          refine a_istore K (dq 77 rfl) (Nat.le_of_ble_eq_true rfl) (ls' := [some (.ref (ρ 14 0)), some (.ref (ρ 1 0)), none, some (.int v3), some (.int v4), some (.int v5), some (.int v3), some (.int ((gI (sI (sI σ 14 0 2 r10) 14 0 1 0) 14 0 1) - 1))]) rfl ?_
          refine a_le2 (ls' := [some (.ref (ρ 14 0)), some (.ref (ρ 1 0)), none, none, none, none, some (.int v3), some (.int ((gI (sI (sI σ 14 0 2 r10) 14 0 1 0) 14 0 1) - 1))]) ⟨rfl, rfl, rfl, rfl, trivial⟩ ?_
          exact s_X5_follow_L147 S    400 v3 ((gI (sI (sI σ 14 0 2 r10) 14 0 1 0) 14 0 1) - 1) (sI (sI σ 14 0 2 r10) 14 0 1 0) r h K hX
      · have h := ite_f c9 h
        refine a_aload_n K (dq 41 rfl) rfl rfl ?_
        refine a_iload K (dq 42 rfl) rfl ?_
        obtain ⟨r12, h12, h⟩ := bnd h
        refine a_callVi K (s_X5_placeOf S v4  σ r12 h12) v_14 rfl rfl cw_X5_placeOf ml_X5_28 (by decide) rfl (rest := []) rfl (Nat.le_of_ble_eq_true rfl) (dq 43 rfl) (by decide) ?_
        refine a_iconst K (dq 44 rfl) (v := (-1)) rfl ?_
        refine a_icmp_ne K (tgt := 101) (dq 45 rfl) rfl (fun c13 => ?_) (fun c13 => ?_)
        · have h := ite_f c13 h
          refine a_aload_n K (dq 52 rfl) rfl rfl ?_
          refine a_aload_n K (dq 53 rfl) rfl rfl ?_
          refine a_iload K (dq 54 rfl) rfl ?_
          obtain ⟨r14, h14, h⟩ := bnd h
          refine a_callVi K (s_X5_placeOf S v4  σ r14 h14) v_14 rfl rfl cw_X5_placeOf ml_X5_28 (by decide) rfl (rest := [.ref (ρ 14 0)]) rfl (Nat.le_of_ble_eq_true rfl) (dq 55 rfl) (by decide) ?_
          refine a_put K (T := 14) (i := 0) (k := 2) v_14 rfl rfl in_X5 tyX5 tyX5_ok nmX5 (Nat.le_of_ble_eq_true rfl) fl_X5_15 rfl rfl (tyX5_ok 2 (by decide)) rfl rfl (dq 56 rfl) ?_
          refine a_aload_n K (dq 57 rfl) rfl rfl ?_
          refine a_aload_n K (dq 58 rfl) rfl rfl ?_
          refine a_get K (T := 14) (i := 0) (k := 2) (v := .int (gI (sI σ 14 0 2 r14) 14 0 2)) v_14 rfl rfl in_X5 (Nat.le_of_ble_eq_true rfl) fl_X5_15 rfl (dq 59 rfl) ?_
          refine a_iconst K (dq 60 rfl) (v := (-1)) rfl ?_
          refine a_icmp_ne K (tgt := 124) (dq 61 rfl) rfl (fun c15 => ?_) (fun c15 => ?_)
          · have h := ite_f c15 h
            refine a_aload_n K (dq 64 rfl) rfl rfl ?_
            refine a_get K (T := 14) (i := 0) (k := 2) (v := .int (gI (sI σ 14 0 2 r14) 14 0 2)) v_14 rfl rfl in_X5 (Nat.le_of_ble_eq_true rfl) fl_X5_15 rfl (dq 65 rfl) ?_
            refine a_iconst K (dq 66 rfl) (v := 1) rfl ?_
            refine a_iadd K (dq 67 rfl) ?_
            refine a_iload K (dq 68 rfl) rfl ?_
            refine a_iadd K (dq 69 rfl) ?_
            refine a_put K (T := 14) (i := 0) (k := 1) v_14 rfl rfl in_X5 tyX5 tyX5_ok nmX5 (Nat.le_of_ble_eq_true rfl) fl_X5_19 rfl rfl (tyX5_ok 1 (by decide)) rfl rfl (dq 70 rfl) ?_
            refine a_iload_n K (dq 71 rfl) rfl rfl ?_
            refine a_istore K (dq 72 rfl) (Nat.le_of_ble_eq_true rfl) (ls' := [some (.ref (ρ 14 0)), some (.ref (ρ 1 0)), none, some (.int v3), some (.int v4), some (.int v5), some (.int v3), none]) rfl ?_
            refine a_aload_n K (dq 73 rfl) rfl rfl ?_
            refine a_get K (T := 14) (i := 0) (k := 1) (v := .int (gI (sI (sI σ 14 0 2 r14) 14 0 1 (((gI (sI σ 14 0 2 r14) 14 0 2) + 1) + v5)) 14 0 1)) v_14 rfl rfl in_X5 (Nat.le_of_ble_eq_true rfl) fl_X5_19 rfl (dq 74 rfl) ?_
            refine a_iconst K (dq 75 rfl) (v := 1) rfl ?_
            refine a_isub K (dq 76 rfl) ?_
            refine a_istore K (dq 77 rfl) (Nat.le_of_ble_eq_true rfl) (ls' := [some (.ref (ρ 14 0)), some (.ref (ρ 1 0)), none, some (.int v3), some (.int v4), some (.int v5), some (.int v3), some (.int ((gI (sI (sI σ 14 0 2 r14) 14 0 1 (((gI (sI σ 14 0 2 r14) 14 0 2) + 1) + v5)) 14 0 1) - 1))]) rfl ?_
            refine a_le2 (ls' := [some (.ref (ρ 14 0)), some (.ref (ρ 1 0)), none, none, none, none, some (.int v3), some (.int ((gI (sI (sI σ 14 0 2 r14) 14 0 1 (((gI (sI σ 14 0 2 r14) 14 0 2) + 1) + v5)) 14 0 1) - 1))]) ⟨rfl, rfl, rfl, rfl, trivial⟩ ?_
            exact s_X5_follow_L147 S    400 v3 ((gI (sI (sI σ 14 0 2 r14) 14 0 1 (((gI (sI σ 14 0 2 r14) 14 0 2) + 1) + v5)) 14 0 1) - 1) (sI (sI σ 14 0 2 r14) 14 0 1 (((gI (sI σ 14 0 2 r14) 14 0 2) + 1) + v5)) r h K hX
          · have h := ite_t c15 h
            refine a_iconst K (dq 62 rfl) (v := 0) rfl ?_
            refine a_goto K (tgt := 133) (dq 63 rfl) rfl ?_
            refine a_put K (T := 14) (i := 0) (k := 1) v_14 rfl rfl in_X5 tyX5 tyX5_ok nmX5 (Nat.le_of_ble_eq_true rfl) fl_X5_19 rfl rfl (tyX5_ok 1 (by decide)) rfl rfl (dq 70 rfl) ?_
            refine a_iload_n K (dq 71 rfl) rfl rfl ?_
            refine a_istore K (dq 72 rfl) (Nat.le_of_ble_eq_true rfl) (ls' := [some (.ref (ρ 14 0)), some (.ref (ρ 1 0)), none, some (.int v3), some (.int v4), some (.int v5), some (.int v3), none]) rfl ?_
            refine a_aload_n K (dq 73 rfl) rfl rfl ?_
            refine a_get K (T := 14) (i := 0) (k := 1) (v := .int (gI (sI (sI σ 14 0 2 r14) 14 0 1 0) 14 0 1)) v_14 rfl rfl in_X5 (Nat.le_of_ble_eq_true rfl) fl_X5_19 rfl (dq 74 rfl) ?_
            refine a_iconst K (dq 75 rfl) (v := 1) rfl ?_
            refine a_isub K (dq 76 rfl) ?_
            refine a_istore K (dq 77 rfl) (Nat.le_of_ble_eq_true rfl) (ls' := [some (.ref (ρ 14 0)), some (.ref (ρ 1 0)), none, some (.int v3), some (.int v4), some (.int v5), some (.int v3), some (.int ((gI (sI (sI σ 14 0 2 r14) 14 0 1 0) 14 0 1) - 1))]) rfl ?_
            refine a_le2 (ls' := [some (.ref (ρ 14 0)), some (.ref (ρ 1 0)), none, none, none, none, some (.int v3), some (.int ((gI (sI (sI σ 14 0 2 r14) 14 0 1 0) 14 0 1) - 1))]) ⟨rfl, rfl, rfl, rfl, trivial⟩ ?_
            exact s_X5_follow_L147 S    400 v3 ((gI (sI (sI σ 14 0 2 r14) 14 0 1 0) 14 0 1) - 1) (sI (sI σ 14 0 2 r14) 14 0 1 0) r h K hX
        · have h := ite_t c13 h
          refine a_aload_n K (dq 46 rfl) rfl rfl ?_
          refine a_iload K (dq 47 rfl) rfl ?_
          obtain ⟨r16, h16, h⟩ := bnd h
          refine a_callVi K (s_X1_parentOf S v4  σ r16 h16) v_1 rfl rfl cw_X1_parentOf ml_X5_22 (by decide) rfl (rest := []) rfl (Nat.le_of_ble_eq_true rfl) (dq 48 rfl) (by decide) ?_
          refine a_istore K (dq 49 rfl) (Nat.le_of_ble_eq_true rfl) (ls' := [some (.ref (ρ 14 0)), some (.ref (ρ 1 0)), none, some (.int v3), some (.int r16), some (.int v5), none, none]) rfl ?_
          refine a_iinc K (dq 50 rfl) rfl (v := (v5 + 1)) rfl (Nat.le_of_ble_eq_true rfl) (ls' := [some (.ref (ρ 14 0)), some (.ref (ρ 1 0)), none, some (.int v3), some (.int r16), some (.int (v5 + 1)), none, none]) rfl ?_
          refine a_goto K (tgt := 64) (dq 51 rfl) rfl ?_
          exact ih v3 r16 (v5 + 1) σ r h K hX
set_option maxRecDepth 20000 in
set_option maxHeartbeats 1000000 in
theorem s_X5_follow_L8 {l : Launch} {D : va_G} {ty : Nat → ClassId} {ρ : Nat → Nat → Nat} {N0 : Nat} (S : St l ty ρ N0)   : ∀ (n : Nat) (v3 : Int32) (v4 : Int32) (σ : Sg) (r : Sg) (h : p_X5_follow_L8  n v3 v4 σ = some r) {p : Program} {e : Env} {s : State} {m : MethodId} {args : Array Value} {below : List Frame} {meth : Method} {c : Code} (K : Cx p l s m args meth c cX5_follow 8 RX5 none D ty ρ N0) (hX : ∀ x ∈ c.exceptionTable.toList, False), WA p l e (rmk 2 0 0) s m args below meth c D ty ρ N0 8 (vx_MQ below (oQ D ty ρ N0 (.inl none) r) (oX D ty ρ N0 (.inl none) r) args s 0 0 (fun q => N0 ≤ q)) 8 [some (.ref (ρ 14 0)), some (.ref (ρ 1 0)), none, some (.int v3), some (.int v4), none, none, none] [] σ 0 0 := by
  intro n
  induction n with
  | zero =>
    intro v3 v4 σ r h
    simp only [p_X5_follow_L8] at h
    cases h
  | succ n ih =>
    intro v3 v4 σ r h p e s m args below meth c K hX
    have dq := @tat _ _ dt_X5_follow
    rw [p_X5_follow_L8] at h
    refine a_aload_n K (dq 5 rfl) rfl rfl ?_
    refine a_get K (T := 14) (i := 0) (k := 1) (v := .int (gI σ 14 0 1)) v_14 rfl rfl in_X5 (Nat.le_of_ble_eq_true rfl) fl_X5_19 rfl (dq 6 rfl) ?_
    refine a_aload_n K (dq 7 rfl) rfl rfl ?_
    refine a_get K (T := 14) (i := 0) (k := 0) (v := .ref (ρ 15 0)) v_14 rfl rfl in_X5 (Nat.le_of_ble_eq_true rfl) fl_X5_9 rfl (dq 8 rfl) ?_
    refine a_ilen K (T := 15) (i := 0) (v := 12) v_15 rfl rfl rfl (dq 9 rfl) ?_
    refine a_icmp_ge K (tgt := 58) (dq 10 rfl) rfl (fun c1 => ?_) (fun c1 => ?_)
    · have h := ite_t c1 h
      refine a_iload_n K (dq 31 rfl) rfl rfl ?_
      refine a_istore K (dq 32 rfl) (Nat.le_of_ble_eq_true rfl) (ls' := [some (.ref (ρ 14 0)), some (.ref (ρ 1 0)), none, some (.int v3), some (.int v3), none, none, none]) rfl ?_
      refine a_iconst K (dq 33 rfl) (v := 0) rfl ?_
      refine a_istore K (dq 34 rfl) (Nat.le_of_ble_eq_true rfl) (ls' := [some (.ref (ρ 14 0)), some (.ref (ρ 1 0)), none, some (.int v3), some (.int v3), some (.int 0), none, none]) rfl ?_
      exact s_X5_follow_L64 S    400 v3 v3 0 σ r h K hX
    · have h := ite_f c1 h
      refine a_iload K (dq 11 rfl) rfl ?_
      refine a_iconst K (dq 12 rfl) (v := (-1)) rfl ?_
      refine a_icmp_eq K (tgt := 58) (dq 13 rfl) rfl (fun c17 => ?_) (fun c17 => ?_)
      · have h := ite_t c17 h
        refine a_iload_n K (dq 31 rfl) rfl rfl ?_
        refine a_istore K (dq 32 rfl) (Nat.le_of_ble_eq_true rfl) (ls' := [some (.ref (ρ 14 0)), some (.ref (ρ 1 0)), none, some (.int v3), some (.int v3), none, none, none]) rfl ?_
        refine a_iconst K (dq 33 rfl) (v := 0) rfl ?_
        refine a_istore K (dq 34 rfl) (Nat.le_of_ble_eq_true rfl) (ls' := [some (.ref (ρ 14 0)), some (.ref (ρ 1 0)), none, some (.int v3), some (.int v3), some (.int 0), none, none]) rfl ?_
        exact s_X5_follow_L64 S    400 v3 v3 0 σ r h K hX
      · have h := ite_f c17 h
        refine a_aload_n K (dq 14 rfl) rfl rfl ?_
        refine a_get K (T := 14) (i := 0) (k := 0) (v := .ref (ρ 15 0)) v_14 rfl rfl in_X5 (Nat.le_of_ble_eq_true rfl) fl_X5_9 rfl (dq 15 rfl) ?_
        refine a_aload_n K (dq 16 rfl) rfl rfl ?_
        refine a_get K (T := 14) (i := 0) (k := 1) (v := .int (gI σ 14 0 1)) v_14 rfl rfl in_X5 (Nat.le_of_ble_eq_true rfl) fl_X5_19 rfl (dq 17 rfl) ?_
        refine a_iload K (dq 18 rfl) rfl ?_
        obtain ⟨c18, h⟩ := ib_some h
        refine a_iast K (T := 15) (i := 0) v_15 rfl rfl c18 (dq 19 rfl) ?_
        refine a_aload_n K (dq 20 rfl) rfl rfl ?_
        refine a_dup K (dq 21 rfl) rfl ?_
        refine a_get K (T := 14) (i := 0) (k := 1) (v := .int (gI (sA σ 15 0 (gI σ 14 0 1).toNatClampNeg v4) 14 0 1)) v_14 rfl rfl in_X5 (Nat.le_of_ble_eq_true rfl) fl_X5_19 rfl (dq 22 rfl) ?_
        refine a_iconst K (dq 23 rfl) (v := 1) rfl ?_
        refine a_iadd K (dq 24 rfl) ?_
        refine a_put K (T := 14) (i := 0) (k := 1) v_14 rfl rfl in_X5 tyX5 tyX5_ok nmX5 (Nat.le_of_ble_eq_true rfl) fl_X5_19 rfl rfl (tyX5_ok 1 (by decide)) rfl rfl (dq 25 rfl) ?_
        refine a_aload_n K (dq 26 rfl) rfl rfl ?_
        refine a_iload K (dq 27 rfl) rfl ?_
        obtain ⟨r19, h19, h⟩ := bnd h
        refine a_callVi K (s_X1_parentOf S v4  (sI (sA σ 15 0 (gI σ 14 0 1).toNatClampNeg v4) 14 0 1 ((gI (sA σ 15 0 (gI σ 14 0 1).toNatClampNeg v4) 14 0 1) + 1)) r19 h19) v_1 rfl rfl cw_X1_parentOf ml_X5_22 (by decide) rfl (rest := []) rfl (Nat.le_of_ble_eq_true rfl) (dq 28 rfl) (by decide) ?_
        refine a_istore K (dq 29 rfl) (Nat.le_of_ble_eq_true rfl) (ls' := [some (.ref (ρ 14 0)), some (.ref (ρ 1 0)), none, some (.int v3), some (.int r19), none, none, none]) rfl ?_
        refine a_goto K (tgt := 8) (dq 30 rfl) rfl ?_
        exact ih v3 r19 (sI (sA σ 15 0 (gI σ 14 0 1).toNatClampNeg v4) 14 0 1 ((gI (sA σ 15 0 (gI σ 14 0 1).toNatClampNeg v4) 14 0 1) + 1)) r h K hX
set_option maxRecDepth 20000 in
set_option maxHeartbeats 1000000 in
theorem s_X5_follow {l : Launch} {D : va_G} {ty : Nat → ClassId} {ρ : Nat → Nat → Nat} {N0 : Nat} (S : St l ty ρ N0) (a2 : Int32) (a3 : Int32)  (σ : Sg) (r : Sg) (h : p_X5_follow a2 a3 σ = some r) : AMet l D ty ρ N0 yX5_follow (Cond.code yX5_follow cX5_follow 8 none :: GW) (rmk 2 0 0) [.ref (ρ 14 0), .ref (ρ 1 0), .int a2, .int a3] σ (.inl none) r := by
  refine am_enter S (by decide) rfl rfl (Nat.le_of_ble_eq_true rfl) ?_
  intro p e s m args below meth c K hX
  have dq := @tat _ _ dt_X5_follow
  unfold p_X5_follow at h
  show WA p l e _ s m args below meth c D ty ρ N0 8 _ 0 [some (.ref (ρ 14 0)), some (.ref (ρ 1 0)), some (.int a2), some (.int a3), none, none, none, none] [] σ 0 0
  refine a_aload_n K (dq 0 rfl) rfl rfl ?_
  refine a_iconst K (dq 1 rfl) (v := 0) rfl ?_
  refine a_put K (T := 14) (i := 0) (k := 1) v_14 rfl rfl in_X5 tyX5 tyX5_ok nmX5 (Nat.le_of_ble_eq_true rfl) fl_X5_19 rfl rfl (tyX5_ok 1 (by decide)) rfl rfl (dq 2 rfl) ?_
  refine a_iload_n K (dq 3 rfl) rfl rfl ?_
  refine a_istore K (dq 4 rfl) (Nat.le_of_ble_eq_true rfl) (ls' := [some (.ref (ρ 14 0)), some (.ref (ρ 1 0)), some (.int a2), some (.int a3), some (.int a2), none, none, none]) rfl ?_
  refine a_le2 (ls' := [some (.ref (ρ 14 0)), some (.ref (ρ 1 0)), none, some (.int a3), some (.int a2), none, none, none]) ⟨rfl, rfl, rfl, rfl, trivial⟩ ?_
  exact s_X5_follow_L8 S    400 a3 a2 (sI σ 14 0 1 0) r h K hX
def t_X1_treeSizeOf : List (Nat × Instr × Nat) := [(0, .aload_n 0, 1), (1, .iload_n 1, 1), (2, .invokevirtual 70, 3), (5, .istore_n 2, 1), (6, .iconst 0, 1), (7, .istore_n 3, 1), (8, .iconst 0, 1), (9, .istore 4, 2), (11, .iload 4, 2), (13, .aload_n 0, 1), (14, .getfield 30, 3), (17, .if_icmp .ge 22, 3), (20, .aload_n 0, 1), (21, .iload 4, 2), (23, .invokevirtual 70, 3), (26, .iload_n 2, 1), (27, .if_icmp .ne 6, 3), (30, .iinc 3 1, 3), (33, .iinc 4 1, 3), (36, .goto (-25), 3), (39, .iload_n 3, 1), (40, .ireturn, 1)]
theorem dt_X1_treeSizeOf : tblOK cX1_treeSizeOf t_X1_treeSizeOf = true := by decide +kernel
def p_X1_treeSizeOf_L11  (σ : Sg) : Nat → Int32 → Int32 → Int32 → Option Int32
  | 0, _, _, _ => none
  | n + 1, v2, v3, v4 => if (gI σ 1 0 0) ≤ v4 then (some v3) else ((p_X1_rootOf v4 σ).bind fun r3 => if r3 = v2 then (p_X1_treeSizeOf_L11 σ n v2 (v3 + 1) (v4 + 1)) else (p_X1_treeSizeOf_L11 σ n v2 v3 (v4 + 1)))
def p_X1_treeSizeOf (a1 : Int32) (σ : Sg) : Option Int32 :=
  (p_X1_rootOf a1 σ).bind fun r1 => p_X1_treeSizeOf_L11 σ 400 r1 0 0
set_option maxRecDepth 20000 in
set_option maxHeartbeats 1000000 in
theorem s_X1_treeSizeOf_L11 {l : Launch} {D : va_G} {ty : Nat → ClassId} {ρ : Nat → Nat → Nat} {N0 : Nat} (S : St l ty ρ N0)   (σ : Sg) : ∀ (n : Nat) (v2 : Int32) (v3 : Int32) (v4 : Int32) (r : Int32) (h : p_X1_treeSizeOf_L11  σ n v2 v3 v4 = some r) {p : Program} {e : Env} {s : State} {m : MethodId} {args : Array Value} {below : List Frame} {meth : Method} {c : Code} (K : Cx p l s m args meth c cX1_treeSizeOf 5 RX1 (some .int) D ty ρ N0) (hX : ∀ x ∈ c.exceptionTable.toList, False), WA p l e (rmk 3 0 0) s m args below meth c D ty ρ N0 5 (vx_MQ below (oQ D ty ρ N0 (oI r) σ) (oX D ty ρ N0 (oI r) σ) args s 0 0 (fun q => N0 ≤ q)) 11 [some (.ref (ρ 1 0)), none, some (.int v2), some (.int v3), some (.int v4)] [] σ 0 0 := by
  intro n
  induction n with
  | zero =>
    intro v2 v3 v4 r h
    simp only [p_X1_treeSizeOf_L11] at h
    cases h
  | succ n ih =>
    intro v2 v3 v4 r h p e s m args below meth c K hX
    have dq := @tat _ _ dt_X1_treeSizeOf
    rw [p_X1_treeSizeOf_L11] at h
    refine a_iload K (dq 8 rfl) rfl ?_
    refine a_aload_n K (dq 9 rfl) rfl rfl ?_
    refine a_get K (T := 1) (i := 0) (k := 0) (v := .int (gI σ 1 0 0)) v_1 rfl rfl in_X1 (Nat.le_of_ble_eq_true rfl) fl_X1_30 rfl (dq 10 rfl) ?_
    refine a_icmp_ge K (tgt := 39) (dq 11 rfl) rfl (fun c2 => ?_) (fun c2 => ?_)
    · have h := ite_t c2 h
      refine a_iload_n K (dq 20 rfl) rfl rfl ?_
      obtain rfl := Option.some.inj h
      exact a_iret K rfl rfl (dq 21 rfl) (Nat.le_of_ble_eq_true rfl) (Nat.le_of_ble_eq_true rfl) rfl rfl
    · have h := ite_f c2 h
      refine a_aload_n K (dq 12 rfl) rfl rfl ?_
      refine a_iload K (dq 13 rfl) rfl ?_
      obtain ⟨r3, h3, h⟩ := bnd h
      refine a_callVi K (s_X1_rootOf S v4  σ r3 h3) v_1 rfl rfl cw_X1_rootOf ml_X1_70 (by decide) rfl (rest := []) rfl (Nat.le_of_ble_eq_true rfl) (dq 14 rfl) (by decide) ?_
      refine a_iload_n K (dq 15 rfl) rfl rfl ?_
      refine a_icmp_ne K (tgt := 33) (dq 16 rfl) rfl (fun c4 => ?_) (fun c4 => ?_)
      · have h := ite_f c4 h
        refine a_iinc K (dq 18 rfl) rfl (v := (v4 + 1)) rfl (Nat.le_of_ble_eq_true rfl) (ls' := [some (.ref (ρ 1 0)), none, some (.int v2), some (.int v3), some (.int (v4 + 1))]) rfl ?_
        refine a_goto K (tgt := 11) (dq 19 rfl) rfl ?_
        exact ih v2 v3 (v4 + 1) r h K hX
      · have h := ite_t c4 h
        refine a_iinc K (dq 17 rfl) rfl (v := (v3 + 1)) rfl (Nat.le_of_ble_eq_true rfl) (ls' := [some (.ref (ρ 1 0)), none, some (.int v2), some (.int (v3 + 1)), some (.int v4)]) rfl ?_
        refine a_iinc K (dq 18 rfl) rfl (v := (v4 + 1)) rfl (Nat.le_of_ble_eq_true rfl) (ls' := [some (.ref (ρ 1 0)), none, some (.int v2), some (.int (v3 + 1)), some (.int (v4 + 1))]) rfl ?_
        refine a_goto K (tgt := 11) (dq 19 rfl) rfl ?_
        exact ih v2 (v3 + 1) (v4 + 1) r h K hX
set_option maxRecDepth 20000 in
set_option maxHeartbeats 1000000 in
theorem s_X1_treeSizeOf {l : Launch} {D : va_G} {ty : Nat → ClassId} {ρ : Nat → Nat → Nat} {N0 : Nat} (S : St l ty ρ N0) (a1 : Int32)  (σ : Sg) (r : Int32) (h : p_X1_treeSizeOf a1 σ = some r) : AMet l D ty ρ N0 yX1_treeSizeOf (Cond.code yX1_treeSizeOf cX1_treeSizeOf 5 (some .int) :: GW) (rmk 3 0 0) [.ref (ρ 1 0), .int a1] σ (oI r) σ := by
  refine am_enter S (by decide) rfl rfl (Nat.le_of_ble_eq_true rfl) ?_
  intro p e s m args below meth c K hX
  have dq := @tat _ _ dt_X1_treeSizeOf
  unfold p_X1_treeSizeOf at h
  show WA p l e _ s m args below meth c D ty ρ N0 5 _ 0 [some (.ref (ρ 1 0)), some (.int a1), none, none, none] [] σ 0 0
  refine a_aload_n K (dq 0 rfl) rfl rfl ?_
  refine a_iload_n K (dq 1 rfl) rfl rfl ?_
  obtain ⟨r1, h1, h⟩ := bnd h
  refine a_callVi K (s_X1_rootOf S a1  σ r1 h1) v_1 rfl rfl cw_X1_rootOf ml_X1_70 (by decide) rfl (rest := []) rfl (Nat.le_of_ble_eq_true rfl) (dq 2 rfl) (by decide) ?_
  refine a_istore_n K (dq 3 rfl) rfl (Nat.le_of_ble_eq_true rfl) (ls' := [some (.ref (ρ 1 0)), some (.int a1), some (.int r1), none, none]) rfl ?_
  refine a_iconst K (dq 4 rfl) (v := 0) rfl ?_
  refine a_istore_n K (dq 5 rfl) rfl (Nat.le_of_ble_eq_true rfl) (ls' := [some (.ref (ρ 1 0)), some (.int a1), some (.int r1), some (.int 0), none]) rfl ?_
  refine a_iconst K (dq 6 rfl) (v := 0) rfl ?_
  refine a_istore K (dq 7 rfl) (Nat.le_of_ble_eq_true rfl) (ls' := [some (.ref (ρ 1 0)), some (.int a1), some (.int r1), some (.int 0), some (.int 0)]) rfl ?_
  refine a_le2 (ls' := [some (.ref (ρ 1 0)), none, some (.int r1), some (.int 0), some (.int 0)]) ⟨rfl, rfl, rfl, rfl, trivial⟩ ?_
  exact s_X1_treeSizeOf_L11 S   σ 400 r1 0 0 r h K hX
def t_X1_build : List (Nat × Instr × Nat) := [(0, .aload_n 0, 1), (1, .getfield 30, 3), (4, .istore_n 2, 1), (5, .iload_n 2, 1), (6, .ifCond .lt 41, 3), (9, .iload_n 2, 1), (10, .aload_n 0, 1), (11, .getfield 9, 3), (14, .arraylength, 1), (15, .if_icmp .ge 32, 3), (18, .aload_n 0, 1), (19, .getfield 9, 3), (22, .iload_n 2, 1), (23, .iload_n 1, 1), (24, .iastore, 1), (25, .aload_n 0, 1), (26, .iload_n 2, 1), (27, .iconst (-1), 1), (28, .invokevirtual 79, 3), (31, .aload_n 0, 1), (32, .iload_n 2, 1), (33, .iconst (-1), 1), (34, .invokevirtual 83, 3), (37, .aload_n 0, 1), (38, .dup, 1), (39, .getfield 30, 3), (42, .iconst 1, 1), (43, .iadd, 1), (44, .putfield 30, 3), (47, .iload_n 2, 1), (48, .ireturn, 1)]
theorem dt_X1_build : tblOK cX1_build t_X1_build = true := by decide +kernel
def p_X1_build (a1 : Int32) (σ : Sg) : Option (Int32 × Sg) :=
  if (gI σ 1 0 0) < 0 then (some ((gI σ 1 0 0), σ)) else (if 12 ≤ (gI σ 1 0 0) then (some ((gI σ 1 0 0), σ)) else (if ib (gI σ 1 0 0) 12 then ((p_X1_setParent (gI σ 1 0 0) (-1) (sA σ 2 0 (gI σ 1 0 0).toNatClampNeg a1)).bind fun r4 => (p_X1_prefer (gI σ 1 0 0) (-1) r4).bind fun r5 => some ((gI σ 1 0 0), sI r5 1 0 0 ((gI r5 1 0 0) + 1))) else none))
set_option maxRecDepth 20000 in
set_option maxHeartbeats 1000000 in
theorem s_X1_build {l : Launch} {D : va_G} {ty : Nat → ClassId} {ρ : Nat → Nat → Nat} {N0 : Nat} (S : St l ty ρ N0) (a1 : Int32)  (σ : Sg) (r : (Int32 × Sg)) (h : p_X1_build a1 σ = some r) : AMet l D ty ρ N0 yX1_build (Cond.code yX1_build cX1_build 3 (some .int) :: GW) (rmk 2 0 0) [.ref (ρ 1 0), .int a1] σ (oI r.1) r.2 := by
  refine am_enter S (by decide) rfl rfl (Nat.le_of_ble_eq_true rfl) ?_
  intro p e s m args below meth c K hX
  have dq := @tat _ _ dt_X1_build
  unfold p_X1_build at h
  show WA p l e _ s m args below meth c D ty ρ N0 3 _ 0 [some (.ref (ρ 1 0)), some (.int a1), none] [] σ 0 0
  refine a_aload_n K (dq 0 rfl) rfl rfl ?_
  refine a_get K (T := 1) (i := 0) (k := 0) (v := .int (gI σ 1 0 0)) v_1 rfl rfl in_X1 (Nat.le_of_ble_eq_true rfl) fl_X1_30 rfl (dq 1 rfl) ?_
  refine a_istore_n K (dq 2 rfl) rfl (Nat.le_of_ble_eq_true rfl) (ls' := [some (.ref (ρ 1 0)), some (.int a1), some (.int (gI σ 1 0 0))]) rfl ?_
  refine a_iload_n K (dq 3 rfl) rfl rfl ?_
  refine a_if_lt K (tgt := 47) (dq 4 rfl) rfl (fun c1 => ?_) (fun c1 => ?_)
  · have h := ite_t c1 h
    refine a_iload_n K (dq 29 rfl) rfl rfl ?_
    obtain rfl := Option.some.inj h
    exact a_iret K rfl rfl (dq 30 rfl) (Nat.le_of_ble_eq_true rfl) (Nat.le_of_ble_eq_true rfl) rfl rfl
  · have h := ite_f c1 h
    refine a_iload_n K (dq 5 rfl) rfl rfl ?_
    refine a_aload_n K (dq 6 rfl) rfl rfl ?_
    refine a_get K (T := 1) (i := 0) (k := 1) (v := .ref (ρ 2 0)) v_1 rfl rfl in_X1 (Nat.le_of_ble_eq_true rfl) fl_X1_9 rfl (dq 7 rfl) ?_
    refine a_ilen K (T := 2) (i := 0) (v := 12) v_2 rfl rfl rfl (dq 8 rfl) ?_
    refine a_icmp_ge K (tgt := 47) (dq 9 rfl) rfl (fun c2 => ?_) (fun c2 => ?_)
    · have h := ite_t c2 h
      refine a_iload_n K (dq 29 rfl) rfl rfl ?_
      obtain rfl := Option.some.inj h
      exact a_iret K rfl rfl (dq 30 rfl) (Nat.le_of_ble_eq_true rfl) (Nat.le_of_ble_eq_true rfl) rfl rfl
    · have h := ite_f c2 h
      refine a_aload_n K (dq 10 rfl) rfl rfl ?_
      refine a_get K (T := 1) (i := 0) (k := 1) (v := .ref (ρ 2 0)) v_1 rfl rfl in_X1 (Nat.le_of_ble_eq_true rfl) fl_X1_9 rfl (dq 11 rfl) ?_
      refine a_iload_n K (dq 12 rfl) rfl rfl ?_
      refine a_iload_n K (dq 13 rfl) rfl rfl ?_
      obtain ⟨c3, h⟩ := ib_some h
      refine a_iast K (T := 2) (i := 0) v_2 rfl rfl c3 (dq 14 rfl) ?_
      refine a_aload_n K (dq 15 rfl) rfl rfl ?_
      refine a_iload_n K (dq 16 rfl) rfl rfl ?_
      refine a_iconst K (dq 17 rfl) (v := (-1)) rfl ?_
      obtain ⟨r4, h4, h⟩ := bnd h
      refine a_callVv K (s_X1_setParent S (gI σ 1 0 0) (-1)  (sA σ 2 0 (gI σ 1 0 0).toNatClampNeg a1) r4 h4) v_1 rfl rfl cw_X1_setParent ml_X1_79 (by decide) rfl (rest := []) rfl (Nat.le_of_ble_eq_true rfl) (dq 18 rfl) (by decide) ?_
      refine a_aload_n K (dq 19 rfl) rfl rfl ?_
      refine a_iload_n K (dq 20 rfl) rfl rfl ?_
      refine a_iconst K (dq 21 rfl) (v := (-1)) rfl ?_
      obtain ⟨r5, h5, h⟩ := bnd h
      refine a_callVv K (s_X1_prefer S (gI σ 1 0 0) (-1)  r4 r5 h5) v_1 rfl rfl cw_X1_prefer ml_X1_83 (by decide) rfl (rest := []) rfl (Nat.le_of_ble_eq_true rfl) (dq 22 rfl) (by decide) ?_
      refine a_aload_n K (dq 23 rfl) rfl rfl ?_
      refine a_dup K (dq 24 rfl) rfl ?_
      refine a_get K (T := 1) (i := 0) (k := 0) (v := .int (gI r5 1 0 0)) v_1 rfl rfl in_X1 (Nat.le_of_ble_eq_true rfl) fl_X1_30 rfl (dq 25 rfl) ?_
      refine a_iconst K (dq 26 rfl) (v := 1) rfl ?_
      refine a_iadd K (dq 27 rfl) ?_
      refine a_put K (T := 1) (i := 0) (k := 0) v_1 rfl rfl in_X1 tyX1 tyX1_ok nmX1 (Nat.le_of_ble_eq_true rfl) fl_X1_30 rfl rfl (tyX1_ok 0 (by decide)) rfl rfl (dq 28 rfl) ?_
      refine a_iload_n K (dq 29 rfl) rfl rfl ?_
      obtain rfl := Option.some.inj h
      exact a_iret K rfl rfl (dq 30 rfl) (Nat.le_of_ble_eq_true rfl) (Nat.le_of_ble_eq_true rfl) rfl rfl
def t_X1_behindOf : List (Nat × Instr × Nat) := [(0, .iconst 0, 1), (1, .istore_n 2, 1), (2, .iconst 0, 1), (3, .istore_n 3, 1), (4, .iload_n 3, 1), (5, .aload_n 0, 1), (6, .getfield 30, 3), (9, .if_icmp .ge 21, 3), (12, .aload_n 0, 1), (13, .iload_n 1, 1), (14, .iload_n 3, 1), (15, .invokevirtual 66, 3), (18, .ifCond .eq 6, 3), (21, .iinc 2 1, 3), (24, .iinc 3 1, 3), (27, .goto (-23), 3), (30, .iload_n 2, 1), (31, .ireturn, 1)]
theorem dt_X1_behindOf : tblOK cX1_behindOf t_X1_behindOf = true := by decide +kernel
def p_X1_behindOf_L4  (σ : Sg) : Nat → Int32 → Int32 → Int32 → Option Int32
  | 0, _, _, _ => none
  | n + 1, v1, v2, v3 => if (gI σ 1 0 0) ≤ v3 then (some v2) else ((p_X1_isBehind v1 v3 σ).bind fun r2 => if r2 = 0 then (p_X1_behindOf_L4 σ n v1 v2 (v3 + 1)) else (p_X1_behindOf_L4 σ n v1 (v2 + 1) (v3 + 1)))
def p_X1_behindOf (a1 : Int32) (σ : Sg) : Option Int32 :=
  p_X1_behindOf_L4 σ 400 a1 0 0
set_option maxRecDepth 20000 in
set_option maxHeartbeats 1000000 in
theorem s_X1_behindOf_L4 {l : Launch} {D : va_G} {ty : Nat → ClassId} {ρ : Nat → Nat → Nat} {N0 : Nat} (S : St l ty ρ N0)   (σ : Sg) : ∀ (n : Nat) (v1 : Int32) (v2 : Int32) (v3 : Int32) (r : Int32) (h : p_X1_behindOf_L4  σ n v1 v2 v3 = some r) {p : Program} {e : Env} {s : State} {m : MethodId} {args : Array Value} {below : List Frame} {meth : Method} {c : Code} (K : Cx p l s m args meth c cX1_behindOf 4 RX1 (some .int) D ty ρ N0) (hX : ∀ x ∈ c.exceptionTable.toList, False), WA p l e (rmk 3 0 0) s m args below meth c D ty ρ N0 4 (vx_MQ below (oQ D ty ρ N0 (oI r) σ) (oX D ty ρ N0 (oI r) σ) args s 0 0 (fun q => N0 ≤ q)) 4 [some (.ref (ρ 1 0)), some (.int v1), some (.int v2), some (.int v3)] [] σ 0 0 := by
  intro n
  induction n with
  | zero =>
    intro v1 v2 v3 r h
    simp only [p_X1_behindOf_L4] at h
    cases h
  | succ n ih =>
    intro v1 v2 v3 r h p e s m args below meth c K hX
    have dq := @tat _ _ dt_X1_behindOf
    rw [p_X1_behindOf_L4] at h
    refine a_iload_n K (dq 4 rfl) rfl rfl ?_
    refine a_aload_n K (dq 5 rfl) rfl rfl ?_
    refine a_get K (T := 1) (i := 0) (k := 0) (v := .int (gI σ 1 0 0)) v_1 rfl rfl in_X1 (Nat.le_of_ble_eq_true rfl) fl_X1_30 rfl (dq 6 rfl) ?_
    refine a_icmp_ge K (tgt := 30) (dq 7 rfl) rfl (fun c1 => ?_) (fun c1 => ?_)
    · have h := ite_t c1 h
      refine a_iload_n K (dq 16 rfl) rfl rfl ?_
      obtain rfl := Option.some.inj h
      exact a_iret K rfl rfl (dq 17 rfl) (Nat.le_of_ble_eq_true rfl) (Nat.le_of_ble_eq_true rfl) rfl rfl
    · have h := ite_f c1 h
      refine a_aload_n K (dq 8 rfl) rfl rfl ?_
      refine a_iload_n K (dq 9 rfl) rfl rfl ?_
      refine a_iload_n K (dq 10 rfl) rfl rfl ?_
      obtain ⟨r2, h2, h⟩ := bnd h
      refine a_callVi K (s_X1_isBehind S v1 v3  σ r2 h2) v_1 rfl rfl cw_X1_isBehind ml_X1_66 (by decide) rfl (rest := []) rfl (Nat.le_of_ble_eq_true rfl) (dq 11 rfl) (by decide) ?_
      refine a_if_eq K (tgt := 24) (dq 12 rfl) rfl (fun c3 => ?_) (fun c3 => ?_)
      · have h := ite_t c3 h
        refine a_iinc K (dq 14 rfl) rfl (v := (v3 + 1)) rfl (Nat.le_of_ble_eq_true rfl) (ls' := [some (.ref (ρ 1 0)), some (.int v1), some (.int v2), some (.int (v3 + 1))]) rfl ?_
        refine a_goto K (tgt := 4) (dq 15 rfl) rfl ?_
        exact ih v1 v2 (v3 + 1) r h K hX
      · have h := ite_f c3 h
        refine a_iinc K (dq 13 rfl) rfl (v := (v2 + 1)) rfl (Nat.le_of_ble_eq_true rfl) (ls' := [some (.ref (ρ 1 0)), some (.int v1), some (.int (v2 + 1)), some (.int v3)]) rfl ?_
        refine a_iinc K (dq 14 rfl) rfl (v := (v3 + 1)) rfl (Nat.le_of_ble_eq_true rfl) (ls' := [some (.ref (ρ 1 0)), some (.int v1), some (.int (v2 + 1)), some (.int (v3 + 1))]) rfl ?_
        refine a_goto K (tgt := 4) (dq 15 rfl) rfl ?_
        exact ih v1 (v2 + 1) (v3 + 1) r h K hX
set_option maxRecDepth 20000 in
set_option maxHeartbeats 1000000 in
theorem s_X1_behindOf {l : Launch} {D : va_G} {ty : Nat → ClassId} {ρ : Nat → Nat → Nat} {N0 : Nat} (S : St l ty ρ N0) (a1 : Int32)  (σ : Sg) (r : Int32) (h : p_X1_behindOf a1 σ = some r) : AMet l D ty ρ N0 yX1_behindOf (Cond.code yX1_behindOf cX1_behindOf 4 (some .int) :: GW) (rmk 3 0 0) [.ref (ρ 1 0), .int a1] σ (oI r) σ := by
  refine am_enter S (by decide) rfl rfl (Nat.le_of_ble_eq_true rfl) ?_
  intro p e s m args below meth c K hX
  have dq := @tat _ _ dt_X1_behindOf
  unfold p_X1_behindOf at h
  show WA p l e _ s m args below meth c D ty ρ N0 4 _ 0 [some (.ref (ρ 1 0)), some (.int a1), none, none] [] σ 0 0
  refine a_iconst K (dq 0 rfl) (v := 0) rfl ?_
  refine a_istore_n K (dq 1 rfl) rfl (Nat.le_of_ble_eq_true rfl) (ls' := [some (.ref (ρ 1 0)), some (.int a1), some (.int 0), none]) rfl ?_
  refine a_iconst K (dq 2 rfl) (v := 0) rfl ?_
  refine a_istore_n K (dq 3 rfl) rfl (Nat.le_of_ble_eq_true rfl) (ls' := [some (.ref (ρ 1 0)), some (.int a1), some (.int 0), some (.int 0)]) rfl ?_
  exact s_X1_behindOf_L4 S   σ 400 a1 0 0 r h K hX
def t_X4_readPart : List (Nat × Instr × Nat) := [(0, .iload_n 1, 1), (1, .invokestatic 81, 3), (4, .ifCond .eq 12, 3), (7, .aload_n 0, 1), (8, .iload_n 1, 1), (9, .bipush 48, 2), (11, .isub, 1), (12, .invokevirtual 84, 3), (15, .ireturn, 1), (16, .iload_n 1, 1), (17, .bipush 43, 2), (19, .if_icmp .ne 20, 3), (22, .aload_n 0, 1), (23, .invokevirtual 36, 3), (26, .bipush 42, 2), (28, .if_icmp .ne 11, 3), (31, .aload_n 0, 1), (32, .iconst (-1), 1), (33, .putfield 55, 3), (36, .goto 13, 3), (39, .aload_n 0, 1), (40, .invokevirtual 36, 3), (43, .iload_n 1, 1), (44, .if_icmp .eq 5, 3), (47, .iconst 0, 1), (48, .ireturn, 1), (49, .aload_n 0, 1), (50, .dup, 1), (51, .getfield 23, 3), (54, .iconst 1, 1), (55, .iadd, 1), (56, .putfield 23, 3), (59, .iconst 1, 1), (60, .ireturn, 1)]
theorem dt_X4_readPart : tblOK cX4_readPart t_X4_readPart = true := by decide +kernel
def p_X4_readPart (a1 : Int32) (σ : Sg) : Option (Int32 × Sg) :=
  (p_X4_isDigit a1 σ).bind fun r1 => if r1 = 0 then (if a1 = 43 then ((p_X4_current  σ).bind fun r6 => if r6 = 42 then (some (1, sI (sI σ 9 0 6 (-1)) 9 0 2 ((gI (sI σ 9 0 6 (-1)) 9 0 2) + 1))) else ((p_X4_current  σ).bind fun r8 => if r8 = a1 then (some (1, sI σ 9 0 2 ((gI σ 9 0 2) + 1))) else (some (0, σ)))) else ((p_X4_current  σ).bind fun r4 => if r4 = a1 then (some (1, sI σ 9 0 2 ((gI σ 9 0 2) + 1))) else (some (0, σ)))) else ((p_X4_readNumber (a1 - 48) σ).bind fun r10 => some (nb r10.1, r10.2))
set_option maxRecDepth 20000 in
set_option maxHeartbeats 1000000 in
theorem s_X4_readPart {l : Launch} {D : va_G} {ty : Nat → ClassId} {ρ : Nat → Nat → Nat} {N0 : Nat} (S : St l ty ρ N0) (a1 : Int32)  (σ : Sg) (r : (Int32 × Sg)) (h : p_X4_readPart a1 σ = some r) : AMet l D ty ρ N0 yX4_readPart (Cond.code yX4_readPart cX4_readPart 2 (some .boolean) :: GW) (rmk 3 0 0) [.ref (ρ 9 0), .int a1] σ (oI r.1) r.2 := by
  refine am_enter S (by decide) rfl rfl (Nat.le_of_ble_eq_true rfl) ?_
  intro p e s m args below meth c K hX
  have dq := @tat _ _ dt_X4_readPart
  unfold p_X4_readPart at h
  show WA p l e _ s m args below meth c D ty ρ N0 2 _ 0 [some (.ref (ρ 9 0)), some (.int a1)] [] σ 0 0
  refine a_iload_n K (dq 0 rfl) rfl rfl ?_
  obtain ⟨r1, h1, h⟩ := bnd h
  refine a_callSi K (s_X4_isDigit S a1  σ r1 h1) cw_X4_isDigit ml_X4_81 (by decide) rfl (rest := []) rfl (Nat.le_of_ble_eq_true rfl) (dq 1 rfl) (by decide) ?_
  refine a_if_eq K (tgt := 16) (dq 2 rfl) rfl (fun c2 => ?_) (fun c2 => ?_)
  · have h := ite_t c2 h
    refine a_iload_n K (dq 9 rfl) rfl rfl ?_
    refine a_bipush K (dq 10 rfl) (v := 43) rfl ?_
    refine a_icmp_ne K (tgt := 39) (dq 11 rfl) rfl (fun c3 => ?_) (fun c3 => ?_)
    · have h := ite_f c3 h
      refine a_aload_n K (dq 20 rfl) rfl rfl ?_
      obtain ⟨r4, h4, h⟩ := bnd h
      refine a_callVi K (s_X4_current S   σ r4 h4) v_9 rfl rfl cw_X4_current ml_X4_36 (by decide) rfl (rest := []) rfl (Nat.le_of_ble_eq_true rfl) (dq 21 rfl) (by decide) ?_
      refine a_iload_n K (dq 22 rfl) rfl rfl ?_
      refine a_icmp_eq K (tgt := 49) (dq 23 rfl) rfl (fun c5 => ?_) (fun c5 => ?_)
      · have h := ite_t c5 h
        refine a_aload_n K (dq 26 rfl) rfl rfl ?_
        refine a_dup K (dq 27 rfl) rfl ?_
        refine a_get K (T := 9) (i := 0) (k := 2) (v := .int (gI σ 9 0 2)) v_9 rfl rfl in_X4 (Nat.le_of_ble_eq_true rfl) fl_X4_23 rfl (dq 28 rfl) ?_
        refine a_iconst K (dq 29 rfl) (v := 1) rfl ?_
        refine a_iadd K (dq 30 rfl) ?_
        refine a_put K (T := 9) (i := 0) (k := 2) v_9 rfl rfl in_X4 tyX4 tyX4_ok nmX4 (Nat.le_of_ble_eq_true rfl) fl_X4_23 rfl rfl (tyX4_ok 2 (by decide)) rfl rfl (dq 31 rfl) ?_
        refine a_iconst K (dq 32 rfl) (v := 1) rfl ?_
        obtain rfl := Option.some.inj h
        exact a_iret K rfl rfl (dq 33 rfl) (Nat.le_of_ble_eq_true rfl) (Nat.le_of_ble_eq_true rfl) rfl rfl
      · have h := ite_f c5 h
        refine a_iconst K (dq 24 rfl) (v := 0) rfl ?_
        obtain rfl := Option.some.inj h
        exact a_iret K rfl rfl (dq 25 rfl) (Nat.le_of_ble_eq_true rfl) (Nat.le_of_ble_eq_true rfl) rfl rfl
    · have h := ite_t c3 h
      refine a_aload_n K (dq 12 rfl) rfl rfl ?_
      obtain ⟨r6, h6, h⟩ := bnd h
      refine a_callVi K (s_X4_current S   σ r6 h6) v_9 rfl rfl cw_X4_current ml_X4_36 (by decide) rfl (rest := []) rfl (Nat.le_of_ble_eq_true rfl) (dq 13 rfl) (by decide) ?_
      refine a_bipush K (dq 14 rfl) (v := 42) rfl ?_
      refine a_icmp_ne K (tgt := 39) (dq 15 rfl) rfl (fun c7 => ?_) (fun c7 => ?_)
      · have h := ite_f c7 h
        refine a_aload_n K (dq 20 rfl) rfl rfl ?_
        obtain ⟨r8, h8, h⟩ := bnd h
        refine a_callVi K (s_X4_current S   σ r8 h8) v_9 rfl rfl cw_X4_current ml_X4_36 (by decide) rfl (rest := []) rfl (Nat.le_of_ble_eq_true rfl) (dq 21 rfl) (by decide) ?_
        refine a_iload_n K (dq 22 rfl) rfl rfl ?_
        refine a_icmp_eq K (tgt := 49) (dq 23 rfl) rfl (fun c9 => ?_) (fun c9 => ?_)
        · have h := ite_t c9 h
          refine a_aload_n K (dq 26 rfl) rfl rfl ?_
          refine a_dup K (dq 27 rfl) rfl ?_
          refine a_get K (T := 9) (i := 0) (k := 2) (v := .int (gI σ 9 0 2)) v_9 rfl rfl in_X4 (Nat.le_of_ble_eq_true rfl) fl_X4_23 rfl (dq 28 rfl) ?_
          refine a_iconst K (dq 29 rfl) (v := 1) rfl ?_
          refine a_iadd K (dq 30 rfl) ?_
          refine a_put K (T := 9) (i := 0) (k := 2) v_9 rfl rfl in_X4 tyX4 tyX4_ok nmX4 (Nat.le_of_ble_eq_true rfl) fl_X4_23 rfl rfl (tyX4_ok 2 (by decide)) rfl rfl (dq 31 rfl) ?_
          refine a_iconst K (dq 32 rfl) (v := 1) rfl ?_
          obtain rfl := Option.some.inj h
          exact a_iret K rfl rfl (dq 33 rfl) (Nat.le_of_ble_eq_true rfl) (Nat.le_of_ble_eq_true rfl) rfl rfl
        · have h := ite_f c9 h
          refine a_iconst K (dq 24 rfl) (v := 0) rfl ?_
          obtain rfl := Option.some.inj h
          exact a_iret K rfl rfl (dq 25 rfl) (Nat.le_of_ble_eq_true rfl) (Nat.le_of_ble_eq_true rfl) rfl rfl
      · have h := ite_t c7 h
        refine a_aload_n K (dq 16 rfl) rfl rfl ?_
        refine a_iconst K (dq 17 rfl) (v := (-1)) rfl ?_
        refine a_put K (T := 9) (i := 0) (k := 6) v_9 rfl rfl in_X4 tyX4 tyX4_ok nmX4 (Nat.le_of_ble_eq_true rfl) fl_X4_55 rfl rfl (tyX4_ok 6 (by decide)) rfl rfl (dq 18 rfl) ?_
        refine a_goto K (tgt := 49) (dq 19 rfl) rfl ?_
        refine a_aload_n K (dq 26 rfl) rfl rfl ?_
        refine a_dup K (dq 27 rfl) rfl ?_
        refine a_get K (T := 9) (i := 0) (k := 2) (v := .int (gI (sI σ 9 0 6 (-1)) 9 0 2)) v_9 rfl rfl in_X4 (Nat.le_of_ble_eq_true rfl) fl_X4_23 rfl (dq 28 rfl) ?_
        refine a_iconst K (dq 29 rfl) (v := 1) rfl ?_
        refine a_iadd K (dq 30 rfl) ?_
        refine a_put K (T := 9) (i := 0) (k := 2) v_9 rfl rfl in_X4 tyX4 tyX4_ok nmX4 (Nat.le_of_ble_eq_true rfl) fl_X4_23 rfl rfl (tyX4_ok 2 (by decide)) rfl rfl (dq 31 rfl) ?_
        refine a_iconst K (dq 32 rfl) (v := 1) rfl ?_
        obtain rfl := Option.some.inj h
        exact a_iret K rfl rfl (dq 33 rfl) (Nat.le_of_ble_eq_true rfl) (Nat.le_of_ble_eq_true rfl) rfl rfl
  · have h := ite_f c2 h
    refine a_aload_n K (dq 3 rfl) rfl rfl ?_
    refine a_iload_n K (dq 4 rfl) rfl rfl ?_
    refine a_bipush K (dq 5 rfl) (v := 48) rfl ?_
    refine a_isub K (dq 6 rfl) ?_
    obtain ⟨r10, h10, h⟩ := bnd h
    refine a_callVi K (s_X4_readNumber S (a1 - 48)  σ r10 h10) v_9 rfl rfl cw_X4_readNumber ml_X4_84 (by decide) rfl (rest := []) rfl (Nat.le_of_ble_eq_true rfl) (dq 7 rfl) (by decide) ?_
    obtain rfl := Option.some.inj h
    exact a_iret K rfl rfl (dq 8 rfl) (Nat.le_of_ble_eq_true rfl) (Nat.le_of_ble_eq_true rfl) rfl rfl
