theorem fl_X1_9 : Cond.fieldLink RX1 9 (TX1 1).1 (TX1 1).2.1 (TX1 1).2.2.1 ∈ GW := gwp 46 (by decide +kernel) rfl
theorem fl_X1_15 : Cond.fieldLink RX1 15 (TX1 2).1 (TX1 2).2.1 (TX1 2).2.2.1 ∈ GW := gwp 47 (by decide +kernel) rfl
theorem fl_X1_30 : Cond.fieldLink RX1 30 (TX1 0).1 (TX1 0).2.1 (TX1 0).2.2.1 ∈ GW := gwp 45 (by decide +kernel) rfl
theorem ml_X1_62 : Cond.methodLink RX1 62 yX1_parentOf ∈ GW := gwp 298 (by decide +kernel) rfl
theorem cw_X1_parentOf : CwV RX1 yX1_parentOf cX1_parentOf 2 (some .int) 1 := ⟨gwp 212 (by decide +kernel) rfl, gwp 210 (by decide +kernel) rfl, gwp 211 (by decide +kernel) rfl, gwp 2 (by decide +kernel) rfl, by decide +kernel⟩
def t_X1_farms : List (Nat × Instr × Nat) := [(0, .aload_n 0, 1), (1, .getfield 30, 3), (4, .ireturn, 1)]
theorem dt_X1_farms : tblOK cX1_farms t_X1_farms = true := by decide +kernel
def p_X1_farms  (σ : Sg) : Option Int32 :=
  some (gI σ 1 0 0)
set_option maxRecDepth 20000 in
set_option maxHeartbeats 1000000 in
theorem s_X1_farms {l : Launch} {D : va_G} {ty : Nat → ClassId} {ρ : Nat → Nat → Nat} {N0 : Nat} (S : St l ty ρ N0)   (σ : Sg) (r : Int32) (h : p_X1_farms  σ = some r) : AMet l D ty ρ N0 yX1_farms (Cond.code yX1_farms cX1_farms 1 (some .int) :: GW) (rmk 1 0 0) [.ref (ρ 1 0)] σ (oI r) σ := by
  refine am_enter S (by decide) rfl rfl (Nat.le_of_ble_eq_true rfl) ?_
  intro p e s m args below meth c K hX
  have dq := @tat _ _ dt_X1_farms
  unfold p_X1_farms at h
  show WA p l e _ s m args below meth c D ty ρ N0 1 _ 0 [some (.ref (ρ 1 0))] [] σ 0 0
  refine a_aload_n K (dq 0 rfl) rfl rfl ?_
  refine a_get K (T := 1) (i := 0) (k := 0) (v := .int (gI σ 1 0 0)) v_1 rfl rfl in_X1 (Nat.le_of_ble_eq_true rfl) fl_X1_30 rfl (dq 1 rfl) ?_
  obtain rfl := Option.some.inj h
  exact a_iret K rfl rfl (dq 2 rfl) (Nat.le_of_ble_eq_true rfl) (Nat.le_of_ble_eq_true rfl) rfl rfl
def t_X1_has : List (Nat × Instr × Nat) := [(0, .iload_n 1, 1), (1, .ifCond .lt 15, 3), (4, .iload_n 1, 1), (5, .aload_n 0, 1), (6, .getfield 30, 3), (9, .if_icmp .ge 7, 3), (12, .iconst 1, 1), (13, .goto 4, 3), (16, .iconst 0, 1), (17, .ireturn, 1)]
theorem dt_X1_has : tblOK cX1_has t_X1_has = true := by decide +kernel
def p_X1_has (a1 : Int32) (σ : Sg) : Option Int32 :=
  if a1 < 0 then (some 0) else (if (gI σ 1 0 0) ≤ a1 then (some 0) else (some 1))
set_option maxRecDepth 20000 in
set_option maxHeartbeats 1000000 in
theorem s_X1_has {l : Launch} {D : va_G} {ty : Nat → ClassId} {ρ : Nat → Nat → Nat} {N0 : Nat} (S : St l ty ρ N0) (a1 : Int32)  (σ : Sg) (r : Int32) (h : p_X1_has a1 σ = some r) : AMet l D ty ρ N0 yX1_has (Cond.code yX1_has cX1_has 2 (some .boolean) :: GW) (rmk 1 0 0) [.ref (ρ 1 0), .int a1] σ (oI r) σ := by
  refine am_enter S (by decide) rfl rfl (Nat.le_of_ble_eq_true rfl) ?_
  intro p e s m args below meth c K hX
  have dq := @tat _ _ dt_X1_has
  unfold p_X1_has at h
  show WA p l e _ s m args below meth c D ty ρ N0 2 _ 0 [some (.ref (ρ 1 0)), some (.int a1)] [] σ 0 0
  refine a_iload_n K (dq 0 rfl) rfl rfl ?_
  refine a_if_lt K (tgt := 16) (dq 1 rfl) rfl (fun c1 => ?_) (fun c1 => ?_)
  · have h := ite_t c1 h
    refine a_iconst K (dq 8 rfl) (v := 0) rfl ?_
    obtain rfl := Option.some.inj h
    exact a_iret K rfl rfl (dq 9 rfl) (Nat.le_of_ble_eq_true rfl) (Nat.le_of_ble_eq_true rfl) rfl rfl
  · have h := ite_f c1 h
    refine a_iload_n K (dq 2 rfl) rfl rfl ?_
    refine a_aload_n K (dq 3 rfl) rfl rfl ?_
    refine a_get K (T := 1) (i := 0) (k := 0) (v := .int (gI σ 1 0 0)) v_1 rfl rfl in_X1 (Nat.le_of_ble_eq_true rfl) fl_X1_30 rfl (dq 4 rfl) ?_
    refine a_icmp_ge K (tgt := 16) (dq 5 rfl) rfl (fun c2 => ?_) (fun c2 => ?_)
    · have h := ite_t c2 h
      refine a_iconst K (dq 8 rfl) (v := 0) rfl ?_
      obtain rfl := Option.some.inj h
      exact a_iret K rfl rfl (dq 9 rfl) (Nat.le_of_ble_eq_true rfl) (Nat.le_of_ble_eq_true rfl) rfl rfl
    · have h := ite_f c2 h
      refine a_iconst K (dq 6 rfl) (v := 1) rfl ?_
      refine a_goto K (tgt := 17) (dq 7 rfl) rfl ?_
      obtain rfl := Option.some.inj h
      exact a_iret K rfl rfl (dq 9 rfl) (Nat.le_of_ble_eq_true rfl) (Nat.le_of_ble_eq_true rfl) rfl rfl
def t_X1_tollOf : List (Nat × Instr × Nat) := [(0, .iload_n 1, 1), (1, .ifCond .lt 21, 3), (4, .iload_n 1, 1), (5, .aload_n 0, 1), (6, .getfield 9, 3), (9, .arraylength, 1), (10, .if_icmp .ge 12, 3), (13, .aload_n 0, 1), (14, .getfield 9, 3), (17, .iload_n 1, 1), (18, .iaload, 1), (19, .goto 4, 3), (22, .iconst 0, 1), (23, .ireturn, 1)]
theorem dt_X1_tollOf : tblOK cX1_tollOf t_X1_tollOf = true := by decide +kernel
def p_X1_tollOf (a1 : Int32) (σ : Sg) : Option Int32 :=
  if a1 < 0 then (some 0) else (if 12 ≤ a1 then (some 0) else (if ib a1 12 then (some (gA σ 2 0 a1.toNatClampNeg)) else none))
set_option maxRecDepth 20000 in
set_option maxHeartbeats 1000000 in
theorem s_X1_tollOf {l : Launch} {D : va_G} {ty : Nat → ClassId} {ρ : Nat → Nat → Nat} {N0 : Nat} (S : St l ty ρ N0) (a1 : Int32)  (σ : Sg) (r : Int32) (h : p_X1_tollOf a1 σ = some r) : AMet l D ty ρ N0 yX1_tollOf (Cond.code yX1_tollOf cX1_tollOf 2 (some .int) :: GW) (rmk 1 0 0) [.ref (ρ 1 0), .int a1] σ (oI r) σ := by
  refine am_enter S (by decide) rfl rfl (Nat.le_of_ble_eq_true rfl) ?_
  intro p e s m args below meth c K hX
  have dq := @tat _ _ dt_X1_tollOf
  unfold p_X1_tollOf at h
  show WA p l e _ s m args below meth c D ty ρ N0 2 _ 0 [some (.ref (ρ 1 0)), some (.int a1)] [] σ 0 0
  refine a_iload_n K (dq 0 rfl) rfl rfl ?_
  refine a_if_lt K (tgt := 22) (dq 1 rfl) rfl (fun c1 => ?_) (fun c1 => ?_)
  · have h := ite_t c1 h
    refine a_iconst K (dq 12 rfl) (v := 0) rfl ?_
    obtain rfl := Option.some.inj h
    exact a_iret K rfl rfl (dq 13 rfl) (Nat.le_of_ble_eq_true rfl) (Nat.le_of_ble_eq_true rfl) rfl rfl
  · have h := ite_f c1 h
    refine a_iload_n K (dq 2 rfl) rfl rfl ?_
    refine a_aload_n K (dq 3 rfl) rfl rfl ?_
    refine a_get K (T := 1) (i := 0) (k := 1) (v := .ref (ρ 2 0)) v_1 rfl rfl in_X1 (Nat.le_of_ble_eq_true rfl) fl_X1_9 rfl (dq 4 rfl) ?_
    refine a_ilen K (T := 2) (i := 0) (v := 12) v_2 rfl rfl rfl (dq 5 rfl) ?_
    refine a_icmp_ge K (tgt := 22) (dq 6 rfl) rfl (fun c2 => ?_) (fun c2 => ?_)
    · have h := ite_t c2 h
      refine a_iconst K (dq 12 rfl) (v := 0) rfl ?_
      obtain rfl := Option.some.inj h
      exact a_iret K rfl rfl (dq 13 rfl) (Nat.le_of_ble_eq_true rfl) (Nat.le_of_ble_eq_true rfl) rfl rfl
    · have h := ite_f c2 h
      refine a_aload_n K (dq 7 rfl) rfl rfl ?_
      refine a_get K (T := 1) (i := 0) (k := 1) (v := .ref (ρ 2 0)) v_1 rfl rfl in_X1 (Nat.le_of_ble_eq_true rfl) fl_X1_9 rfl (dq 8 rfl) ?_
      refine a_iload_n K (dq 9 rfl) rfl rfl ?_
      obtain ⟨c3, h⟩ := ib_some h
      refine a_iald K (T := 2) (i := 0) v_2 rfl rfl c3 (dq 10 rfl) ?_
      refine a_goto K (tgt := 23) (dq 11 rfl) rfl ?_
      obtain rfl := Option.some.inj h
      exact a_iret K rfl rfl (dq 13 rfl) (Nat.le_of_ble_eq_true rfl) (Nat.le_of_ble_eq_true rfl) rfl rfl
def t_X1_parentOf : List (Nat × Instr × Nat) := [(0, .iload_n 1, 1), (1, .ifCond .lt 21, 3), (4, .iload_n 1, 1), (5, .aload_n 0, 1), (6, .getfield 15, 3), (9, .arraylength, 1), (10, .if_icmp .ge 12, 3), (13, .aload_n 0, 1), (14, .getfield 15, 3), (17, .iload_n 1, 1), (18, .iaload, 1), (19, .goto 4, 3), (22, .iconst (-1), 1), (23, .ireturn, 1)]
theorem dt_X1_parentOf : tblOK cX1_parentOf t_X1_parentOf = true := by decide +kernel
def p_X1_parentOf (a1 : Int32) (σ : Sg) : Option Int32 :=
  if a1 < 0 then (some (-1)) else (if 12 ≤ a1 then (some (-1)) else (if ib a1 12 then (some (gA σ 3 0 a1.toNatClampNeg)) else none))
set_option maxRecDepth 20000 in
set_option maxHeartbeats 1000000 in
theorem s_X1_parentOf {l : Launch} {D : va_G} {ty : Nat → ClassId} {ρ : Nat → Nat → Nat} {N0 : Nat} (S : St l ty ρ N0) (a1 : Int32)  (σ : Sg) (r : Int32) (h : p_X1_parentOf a1 σ = some r) : AMet l D ty ρ N0 yX1_parentOf (Cond.code yX1_parentOf cX1_parentOf 2 (some .int) :: GW) (rmk 1 0 0) [.ref (ρ 1 0), .int a1] σ (oI r) σ := by
  refine am_enter S (by decide) rfl rfl (Nat.le_of_ble_eq_true rfl) ?_
  intro p e s m args below meth c K hX
  have dq := @tat _ _ dt_X1_parentOf
  unfold p_X1_parentOf at h
  show WA p l e _ s m args below meth c D ty ρ N0 2 _ 0 [some (.ref (ρ 1 0)), some (.int a1)] [] σ 0 0
  refine a_iload_n K (dq 0 rfl) rfl rfl ?_
  refine a_if_lt K (tgt := 22) (dq 1 rfl) rfl (fun c1 => ?_) (fun c1 => ?_)
  · have h := ite_t c1 h
    refine a_iconst K (dq 12 rfl) (v := (-1)) rfl ?_
    obtain rfl := Option.some.inj h
    exact a_iret K rfl rfl (dq 13 rfl) (Nat.le_of_ble_eq_true rfl) (Nat.le_of_ble_eq_true rfl) rfl rfl
  · have h := ite_f c1 h
    refine a_iload_n K (dq 2 rfl) rfl rfl ?_
    refine a_aload_n K (dq 3 rfl) rfl rfl ?_
    refine a_get K (T := 1) (i := 0) (k := 2) (v := .ref (ρ 3 0)) v_1 rfl rfl in_X1 (Nat.le_of_ble_eq_true rfl) fl_X1_15 rfl (dq 4 rfl) ?_
    refine a_ilen K (T := 3) (i := 0) (v := 12) v_3 rfl rfl rfl (dq 5 rfl) ?_
    refine a_icmp_ge K (tgt := 22) (dq 6 rfl) rfl (fun c2 => ?_) (fun c2 => ?_)
    · have h := ite_t c2 h
      refine a_iconst K (dq 12 rfl) (v := (-1)) rfl ?_
      obtain rfl := Option.some.inj h
      exact a_iret K rfl rfl (dq 13 rfl) (Nat.le_of_ble_eq_true rfl) (Nat.le_of_ble_eq_true rfl) rfl rfl
    · have h := ite_f c2 h
      refine a_aload_n K (dq 7 rfl) rfl rfl ?_
      refine a_get K (T := 1) (i := 0) (k := 2) (v := .ref (ρ 3 0)) v_1 rfl rfl in_X1 (Nat.le_of_ble_eq_true rfl) fl_X1_15 rfl (dq 8 rfl) ?_
      refine a_iload_n K (dq 9 rfl) rfl rfl ?_
      obtain ⟨c3, h⟩ := ib_some h
      refine a_iald K (T := 3) (i := 0) v_3 rfl rfl c3 (dq 10 rfl) ?_
      refine a_goto K (tgt := 23) (dq 11 rfl) rfl ?_
      obtain rfl := Option.some.inj h
      exact a_iret K rfl rfl (dq 13 rfl) (Nat.le_of_ble_eq_true rfl) (Nat.le_of_ble_eq_true rfl) rfl rfl
def t_X1_rootOf : List (Nat × Instr × Nat) := [(0, .iload_n 1, 1), (1, .istore_n 2, 1), (2, .iconst 0, 1), (3, .istore_n 3, 1), (4, .iload_n 3, 1), (5, .bipush 12, 2), (7, .if_icmp .ge 24, 3), (10, .aload_n 0, 1), (11, .iload_n 2, 1), (12, .invokevirtual 62, 3), (15, .iconst (-1), 1), (16, .if_icmp .eq 15, 3), (19, .aload_n 0, 1), (20, .iload_n 2, 1), (21, .invokevirtual 62, 3), (24, .istore_n 2, 1), (25, .iinc 3 1, 3), (28, .goto (-24), 3), (31, .iload_n 2, 1), (32, .ireturn, 1)]
theorem dt_X1_rootOf : tblOK cX1_rootOf t_X1_rootOf = true := by decide +kernel
def p_X1_rootOf_L4  (σ : Sg) : Nat → Int32 → Int32 → Option Int32
  | 0, _, _ => none
  | n + 1, v2, v3 => if 12 ≤ v3 then (some v2) else ((p_X1_parentOf v2 σ).bind fun r2 => if r2 = (-1) then (some v2) else ((p_X1_parentOf v2 σ).bind fun r4 => p_X1_rootOf_L4 σ n r4 (v3 + 1)))
def p_X1_rootOf (a1 : Int32) (σ : Sg) : Option Int32 :=
  p_X1_rootOf_L4 σ 400 a1 0
set_option maxRecDepth 20000 in
set_option maxHeartbeats 1000000 in
theorem s_X1_rootOf_L4 {l : Launch} {D : va_G} {ty : Nat → ClassId} {ρ : Nat → Nat → Nat} {N0 : Nat} (S : St l ty ρ N0)   (σ : Sg) : ∀ (n : Nat) (v2 : Int32) (v3 : Int32) (r : Int32) (h : p_X1_rootOf_L4  σ n v2 v3 = some r) {p : Program} {e : Env} {s : State} {m : MethodId} {args : Array Value} {below : List Frame} {meth : Method} {c : Code} (K : Cx p l s m args meth c cX1_rootOf 4 RX1 (some .int) D ty ρ N0) (hX : ∀ x ∈ c.exceptionTable.toList, False), WA p l e (rmk 2 0 0) s m args below meth c D ty ρ N0 4 (vx_MQ below (oQ D ty ρ N0 (oI r) σ) (oX D ty ρ N0 (oI r) σ) args s 0 0 (fun q => N0 ≤ q)) 4 [some (.ref (ρ 1 0)), none, some (.int v2), some (.int v3)] [] σ 0 0 := by
  intro n
  induction n with
  | zero =>
    intro v2 v3 r h
    simp only [p_X1_rootOf_L4] at h
    cases h
  | succ n ih =>
    intro v2 v3 r h p e s m args below meth c K hX
    have dq := @tat _ _ dt_X1_rootOf
    rw [p_X1_rootOf_L4] at h
    refine a_iload_n K (dq 4 rfl) rfl rfl ?_
    refine a_bipush K (dq 5 rfl) (v := 12) rfl ?_
    refine a_icmp_ge K (tgt := 31) (dq 6 rfl) rfl (fun c1 => ?_) (fun c1 => ?_)
    · have h := ite_t c1 h
      refine a_iload_n K (dq 18 rfl) rfl rfl ?_
      obtain rfl := Option.some.inj h
      exact a_iret K rfl rfl (dq 19 rfl) (Nat.le_of_ble_eq_true rfl) (Nat.le_of_ble_eq_true rfl) rfl rfl
    · have h := ite_f c1 h
      refine a_aload_n K (dq 7 rfl) rfl rfl ?_
      refine a_iload_n K (dq 8 rfl) rfl rfl ?_
      obtain ⟨r2, h2, h⟩ := bnd h
      refine a_callVi K (s_X1_parentOf S v2  σ r2 h2) v_1 rfl rfl cw_X1_parentOf ml_X1_62 (by decide) rfl (rest := []) rfl (Nat.le_of_ble_eq_true rfl) (dq 9 rfl) (by decide) ?_
      refine a_iconst K (dq 10 rfl) (v := (-1)) rfl ?_
      refine a_icmp_eq K (tgt := 31) (dq 11 rfl) rfl (fun c3 => ?_) (fun c3 => ?_)
      · have h := ite_t c3 h
        refine a_iload_n K (dq 18 rfl) rfl rfl ?_
        obtain rfl := Option.some.inj h
        exact a_iret K rfl rfl (dq 19 rfl) (Nat.le_of_ble_eq_true rfl) (Nat.le_of_ble_eq_true rfl) rfl rfl
      · have h := ite_f c3 h
        refine a_aload_n K (dq 12 rfl) rfl rfl ?_
        refine a_iload_n K (dq 13 rfl) rfl rfl ?_
        obtain ⟨r4, h4, h⟩ := bnd h
        refine a_callVi K (s_X1_parentOf S v2  σ r4 h4) v_1 rfl rfl cw_X1_parentOf ml_X1_62 (by decide) rfl (rest := []) rfl (Nat.le_of_ble_eq_true rfl) (dq 14 rfl) (by decide) ?_
        refine a_istore_n K (dq 15 rfl) rfl (Nat.le_of_ble_eq_true rfl) (ls' := [some (.ref (ρ 1 0)), none, some (.int r4), some (.int v3)]) rfl ?_
        refine a_iinc K (dq 16 rfl) rfl (v := (v3 + 1)) rfl (Nat.le_of_ble_eq_true rfl) (ls' := [some (.ref (ρ 1 0)), none, some (.int r4), some (.int (v3 + 1))]) rfl ?_
        refine a_goto K (tgt := 4) (dq 17 rfl) rfl ?_
        exact ih r4 (v3 + 1) r h K hX
set_option maxRecDepth 20000 in
set_option maxHeartbeats 1000000 in
theorem s_X1_rootOf {l : Launch} {D : va_G} {ty : Nat → ClassId} {ρ : Nat → Nat → Nat} {N0 : Nat} (S : St l ty ρ N0) (a1 : Int32)  (σ : Sg) (r : Int32) (h : p_X1_rootOf a1 σ = some r) : AMet l D ty ρ N0 yX1_rootOf (Cond.code yX1_rootOf cX1_rootOf 4 (some .int) :: GW) (rmk 2 0 0) [.ref (ρ 1 0), .int a1] σ (oI r) σ := by
  refine am_enter S (by decide) rfl rfl (Nat.le_of_ble_eq_true rfl) ?_
  intro p e s m args below meth c K hX
  have dq := @tat _ _ dt_X1_rootOf
  unfold p_X1_rootOf at h
  show WA p l e _ s m args below meth c D ty ρ N0 4 _ 0 [some (.ref (ρ 1 0)), some (.int a1), none, none] [] σ 0 0
  refine a_iload_n K (dq 0 rfl) rfl rfl ?_
  refine a_istore_n K (dq 1 rfl) rfl (Nat.le_of_ble_eq_true rfl) (ls' := [some (.ref (ρ 1 0)), some (.int a1), some (.int a1), none]) rfl ?_
  refine a_iconst K (dq 2 rfl) (v := 0) rfl ?_
  refine a_istore_n K (dq 3 rfl) rfl (Nat.le_of_ble_eq_true rfl) (ls' := [some (.ref (ρ 1 0)), some (.int a1), some (.int a1), some (.int 0)]) rfl ?_
  refine a_le2 (ls' := [some (.ref (ρ 1 0)), none, some (.int a1), some (.int 0)]) ⟨rfl, rfl, rfl, trivial⟩ ?_
  exact s_X1_rootOf_L4 S  σ 400 a1 0 r h K hX
def t_X1_setParent : List (Nat × Instr × Nat) := [(0, .iload_n 1, 1), (1, .ifCond .lt 19, 3), (4, .iload_n 1, 1), (5, .aload_n 0, 1), (6, .getfield 15, 3), (9, .arraylength, 1), (10, .if_icmp .ge 10, 3), (13, .aload_n 0, 1), (14, .getfield 15, 3), (17, .iload_n 1, 1), (18, .iload_n 2, 1), (19, .iastore, 1), (20, .return_, 1)]
theorem dt_X1_setParent : tblOK cX1_setParent t_X1_setParent = true := by decide +kernel
def p_X1_setParent (a1 : Int32) (a2 : Int32) (σ : Sg) : Option Sg :=
  if a1 < 0 then (some σ) else (if 12 ≤ a1 then (some σ) else (if ib a1 12 then (some (sA σ 3 0 a1.toNatClampNeg a2)) else none))
set_option maxRecDepth 20000 in
set_option maxHeartbeats 1000000 in
theorem s_X1_setParent {l : Launch} {D : va_G} {ty : Nat → ClassId} {ρ : Nat → Nat → Nat} {N0 : Nat} (S : St l ty ρ N0) (a1 : Int32) (a2 : Int32)  (σ : Sg) (r : Sg) (h : p_X1_setParent a1 a2 σ = some r) : AMet l D ty ρ N0 yX1_setParent (Cond.code yX1_setParent cX1_setParent 3 none :: GW) (rmk 1 0 0) [.ref (ρ 1 0), .int a1, .int a2] σ (.inl none) r := by
  refine am_enter S (by decide) rfl rfl (Nat.le_of_ble_eq_true rfl) ?_
  intro p e s m args below meth c K hX
  have dq := @tat _ _ dt_X1_setParent
  unfold p_X1_setParent at h
  show WA p l e _ s m args below meth c D ty ρ N0 3 _ 0 [some (.ref (ρ 1 0)), some (.int a1), some (.int a2)] [] σ 0 0
  refine a_iload_n K (dq 0 rfl) rfl rfl ?_
  refine a_if_lt K (tgt := 20) (dq 1 rfl) rfl (fun c1 => ?_) (fun c1 => ?_)
  · have h := ite_t c1 h
    obtain rfl := Option.some.inj h
    exact a_vret K rfl (dq 12 rfl) (Nat.le_of_ble_eq_true rfl) (Nat.le_of_ble_eq_true rfl) rfl rfl
  · have h := ite_f c1 h
    refine a_iload_n K (dq 2 rfl) rfl rfl ?_
    refine a_aload_n K (dq 3 rfl) rfl rfl ?_
    refine a_get K (T := 1) (i := 0) (k := 2) (v := .ref (ρ 3 0)) v_1 rfl rfl in_X1 (Nat.le_of_ble_eq_true rfl) fl_X1_15 rfl (dq 4 rfl) ?_
    refine a_ilen K (T := 3) (i := 0) (v := 12) v_3 rfl rfl rfl (dq 5 rfl) ?_
    refine a_icmp_ge K (tgt := 20) (dq 6 rfl) rfl (fun c2 => ?_) (fun c2 => ?_)
    · have h := ite_t c2 h
      obtain rfl := Option.some.inj h
      exact a_vret K rfl (dq 12 rfl) (Nat.le_of_ble_eq_true rfl) (Nat.le_of_ble_eq_true rfl) rfl rfl
    · have h := ite_f c2 h
      refine a_aload_n K (dq 7 rfl) rfl rfl ?_
      refine a_get K (T := 1) (i := 0) (k := 2) (v := .ref (ρ 3 0)) v_1 rfl rfl in_X1 (Nat.le_of_ble_eq_true rfl) fl_X1_15 rfl (dq 8 rfl) ?_
      refine a_iload_n K (dq 9 rfl) rfl rfl ?_
      refine a_iload_n K (dq 10 rfl) rfl rfl ?_
      obtain ⟨c3, h⟩ := ib_some h
      refine a_iast K (T := 3) (i := 0) v_3 rfl rfl c3 (dq 11 rfl) ?_
      obtain rfl := Option.some.inj h
      exact a_vret K rfl (dq 12 rfl) (Nat.le_of_ble_eq_true rfl) (Nat.le_of_ble_eq_true rfl) rfl rfl

