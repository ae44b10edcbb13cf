section AM6
variable {p : Program} {l : Launch} {e : Env} {R : Room} {s : State} {m : MethodId} {args : Array Value} {below : List Frame} {meth : Method} {c : Code} {Q : State → Prop}
variable {D : va_G} {ty : Nat → ClassId} {ρ : Nat → Nat → Nat} {N0 nL : Nat} {cc : ByteArray} {own : String} {ret : Option FieldType}
variable {pc : Nat} {ls : List (Option Value)} {st : List Value} {σ σ' : Sg} {cells slots : Nat} {out : Option Value ⊕ String}
theorem a_callAt (K : Cx p l s m args meth c cc nL own ret D ty ρ N0) {index n : Nat} {e9 : Int32} {rest : List Value} (hw : CwV RX0 yX0_at cX0_at 2 (some (.object RX1)) n) (hl : Cond.methodLink own index yX0_at ∈ GW) (hR : Fits (rmk 1 0 0) R 2) (hst : .int e9 :: .ref (ρ 6 0) :: rest = st) (hW : (rest.map fun v => v.category).sum ≤ 8) (hdg : decode cc pc = .ok (.invokevirtual index, 3)) (hf : cells + 0 ≤ R.cells ∧ slots + 0 ≤ R.slots) (S : St l ty ρ N0)
    (k1 : ib e9 8 = true → WA p l e R s m args below meth c D ty ρ N0 nL Q (pc + 3) ls (.ref (ρ 1 (3 + e9.toNatClampNeg)) :: rest) σ cells slots) (k2 : ¬ ib e9 8 = true → WA p l e R s m args below meth c D ty ρ N0 nL Q (pc + 3) ls (.null :: rest) σ cells slots) : WA p l e R s m args below meth c D ty ρ N0 nL Q pc ls st σ cells slots := by
  have hn : n = 1 := by
    have h9 := hw.2.2.2.2.2.2.2
    have h8 : (parseMethodDescriptor yX0_at.desc).map (fun d => d.parameters.length) = some 1 := by decide +kernel
    rw [h8] at h9
    exact (Option.some.inj h9).symm
  refine a_callV K (s_X0_at (D := D) S e9 σ) v_6 rfl rfl hw.1 hl hw.2.1 hw.2.2.1 hw.2.2.2.1 hw.2.2.2.2 hR hn.symm hst hW hdg hf (fun ov ho => ?_) (fun E ho => by cases ho)
  cases ho
  show WA p l e R s m args below meth c D ty ρ N0 nL Q (pc + 3) ls (atV ρ e9 :: rest) σ cells slots
  by_cases h : ib e9 8 = true
  · rw [atV, if_pos h]; exact k1 h
  · rw [atV, if_neg h]; exact k2 h
end AM6
theorem fl_X0_18 : Cond.fieldLink RX0 18 (TX0 1).1 (TX0 1).2.1 (TX0 1).2.2.1 ∈ GW := gwp 84 (by decide +kernel) rfl
theorem fl_X6_19 : Cond.fieldLink RX6 19 (TX6 2).1 (TX6 2).2.1 (TX6 2).2.2.1 ∈ GW := gwp 169 (by decide +kernel) rfl
theorem fl_X6_299 : Cond.fieldLink RX6 299 (TX6 3).1 (TX6 3).2.1 (TX6 3).2.2.1 ∈ GW := gwp 170 (by decide +kernel) rfl
theorem ml_X0_22 : Cond.methodLink RX0 22 yX0_at ∈ GW := gwp 418 (by decide +kernel) rfl
theorem ml_X0_26 : Cond.methodLink RX0 26 yX1_copyFrom ∈ GW := gwp 422 (by decide +kernel) rfl
theorem ml_X1_34 : Cond.methodLink RX1 34 yX1_copyRow ∈ GW := gwp 225 (by decide +kernel) rfl
theorem ml_X6_65 : Cond.methodLink RX6 65 yX6_change ∈ GW := gwp 242 (by decide +kernel) rfl
theorem ml_X6_292 : Cond.methodLink RX6 292 yX0_takeBack ∈ GW := gwp 1108 (by decide +kernel) rfl
theorem ml_X6_296 : Cond.methodLink RX6 296 yX1_copyFrom ∈ GW := gwp 221 (by decide +kernel) rfl
theorem ml_X6_305 : Cond.methodLink RX6 305 yX0_forget ∈ GW := gwp 1120 (by decide +kernel) rfl
theorem ml_X6_315 : Cond.methodLink RX6 315 yX6_isRefused ∈ GW := gwp 246 (by decide +kernel) rfl
theorem ml_X6_319 : Cond.methodLink RX6 319 yX3_keepCommand ∈ GW := gwp 338 (by decide +kernel) rfl
theorem ml_X6_324 : Cond.methodLink RX6 324 yX0_keep ∈ GW := gwp 414 (by decide +kernel) rfl
theorem ml_X6_327 : Cond.methodLink RX6 327 yX6_carryOut ∈ GW := gwp 424 (by decide +kernel) rfl
theorem cw_X0_at : CwV RX0 yX0_at cX0_at 2 (some (.object RX1)) 1 := ⟨gwp 421 (by decide +kernel) rfl, gwp 420 (by decide +kernel) rfl, gws (q := (yX0_at, 3)) 11 (by decide +kernel), gwp 4 (by decide +kernel) rfl, by decide +kernel⟩
theorem cw_X0_forget : CwV RX0 yX0_forget cX0_forget 1 none 0 := ⟨gwp 1123 (by decide +kernel) rfl, gwp 1121 (by decide +kernel) rfl, gwp 1122 (by decide +kernel) rfl, gwp 4 (by decide +kernel) rfl, by decide +kernel⟩
theorem cw_X0_keep : CwV RX0 yX0_keep cX0_keep 3 none 1 := ⟨gwp 417 (by decide +kernel) rfl, gwp 415 (by decide +kernel) rfl, gwp 416 (by decide +kernel) rfl, gwp 4 (by decide +kernel) rfl, by decide +kernel⟩
theorem cw_X0_takeBack : CwV RX0 yX0_takeBack cX0_takeBack 4 none 1 := ⟨gwp 1111 (by decide +kernel) rfl, gwp 1109 (by decide +kernel) rfl, gwp 1110 (by decide +kernel) rfl, gwp 4 (by decide +kernel) rfl, by decide +kernel⟩
theorem cw_X1_copyFrom : CwV RX1 yX1_copyFrom cX1_copyFrom 2 none 1 := ⟨gwp 224 (by decide +kernel) rfl, gwp 222 (by decide +kernel) rfl, gwp 223 (by decide +kernel) rfl, gwp 2 (by decide +kernel) rfl, by decide +kernel⟩
theorem cw_X1_copyRow : CwS RX1 yX1_copyRow cX1_copyRow 2 none 2 := ⟨gwp 227 (by decide +kernel) rfl, gwp 226 (by decide +kernel) rfl, gwp 2 (by decide +kernel) rfl, by decide +kernel⟩
theorem cw_X3_keepCommand : CwV RX3 yX3_keepCommand cX3_keepCommand 2 none 1 := ⟨gwp 341 (by decide +kernel) rfl, gwp 339 (by decide +kernel) rfl, gwp 340 (by decide +kernel) rfl, gwp 5 (by decide +kernel) rfl, by decide +kernel⟩
theorem cw_X6_carryOut : CwV RX6 yX6_carryOut cX6_carryOut 5 (some .int) 4 := ⟨gwp 427 (by decide +kernel) rfl, gwp 426 (by decide +kernel) rfl, gws (q := (yX6_carryOut, 11)) 12 (by decide +kernel), gwp 1 (by decide +kernel) rfl, by decide +kernel⟩
theorem cw_X6_change : CwV RX6 yX6_change cX6_change 5 (some .int) 4 := ⟨gwp 245 (by decide +kernel) rfl, gwp 244 (by decide +kernel) rfl, gws (q := (yX6_change, 11)) 0 (by decide +kernel), gwp 1 (by decide +kernel) rfl, by decide +kernel⟩
theorem cw_X6_isRefused : CwV RX6 yX6_isRefused cX6_isRefused 5 (some .boolean) 4 := ⟨gwp 249 (by decide +kernel) rfl, gwp 248 (by decide +kernel) rfl, gws (q := (yX6_isRefused, 11)) 1 (by decide +kernel), gwp 1 (by decide +kernel) rfl, by decide +kernel⟩
set_option maxRecDepth 20000 in
theorem th_X6_188_290_192 : ThOK RX6 "java/lang/IllegalStateException" "nothing can be undone" ["java/lang/RuntimeException", "java/lang/Exception"] 188 290 192 := ⟨by decide +kernel, by decide +kernel, gwp 807 (by decide +kernel) rfl, gwp 21 (by decide +kernel) rfl, List.mem_of_getElem? (i := 1107) (by decide +kernel), by decide +kernel, by decide +kernel, List.mem_of_getElem? (i := 809) (by decide +kernel), by decide +kernel⟩
set_option maxRecDepth 20000 in
theorem th_X6_188_303_192 : ThOK RX6 "java/lang/IllegalStateException" "there is no snapshot" ["java/lang/RuntimeException", "java/lang/Exception"] 188 303 192 := ⟨by decide +kernel, by decide +kernel, gwp 807 (by decide +kernel) rfl, gwp 21 (by decide +kernel) rfl, List.mem_of_getElem? (i := 1119) (by decide +kernel), by decide +kernel, by decide +kernel, List.mem_of_getElem? (i := 809) (by decide +kernel), by decide +kernel⟩
set_option maxRecDepth 20000 in
theorem th_X6_214_322_218 : ThOK RX6 "java/lang/UnsupportedOperationException" "the change is refused" ["java/lang/RuntimeException", "java/lang/Exception"] 214 322 218 := ⟨by decide +kernel, by decide +kernel, gwp 342 (by decide +kernel) rfl, gwp 13 (by decide +kernel) rfl, List.mem_of_getElem? (i := 387) (by decide +kernel), by decide +kernel, by decide +kernel, List.mem_of_getElem? (i := 344) (by decide +kernel), by decide +kernel⟩
def t_X1_copyFrom : List (Nat × Instr × Nat) := [(0, .aload_n 0, 1), (1, .aload_n 1, 1), (2, .getfield 30, 3), (5, .putfield 30, 3), (8, .aload_n 1, 1), (9, .getfield 9, 3), (12, .aload_n 0, 1), (13, .getfield 9, 3), (16, .invokestatic 34, 3), (19, .aload_n 1, 1), (20, .getfield 15, 3), (23, .aload_n 0, 1), (24, .getfield 15, 3), (27, .invokestatic 34, 3), (30, .aload_n 1, 1), (31, .getfield 18, 3), (34, .aload_n 0, 1), (35, .getfield 18, 3), (38, .invokestatic 34, 3), (41, .aload_n 1, 1), (42, .getfield 21, 3), (45, .aload_n 0, 1), (46, .getfield 21, 3), (49, .invokestatic 34, 3), (52, .aload_n 0, 1), (53, .aload_n 1, 1), (54, .getfield 38, 3), (57, .putfield 38, 3), (60, .aload_n 0, 1), (61, .aload_n 1, 1), (62, .getfield 41, 3), (65, .putfield 41, 3), (68, .aload_n 0, 1), (69, .aload_n 1, 1), (70, .getfield 44, 3), (73, .putfield 44, 3), (76, .aload_n 0, 1), (77, .aload_n 1, 1), (78, .getfield 47, 3), (81, .putfield 47, 3), (84, .return_, 1)]
theorem dt_X1_copyFrom : tblOK cX1_copyFrom t_X1_copyFrom = true := by decide +kernel
def p_X1_copyFrom (i : Nat) (j : Nat) (σ : Sg) : Option Sg :=
  (p_X1_copyRow 2 j 2 i (sI σ 1 i 0 (gI σ 1 j 0))).bind fun r1 => (p_X1_copyRow 3 j 3 i r1).bind fun r2 => (p_X1_copyRow 4 j 4 i r2).bind fun r3 => (p_X1_copyRow 5 j 5 i r3).bind fun r4 => some (sI (sI (sI (sI r4 1 i 5 (gI r4 1 j 5)) 1 i 6 (gI (sI r4 1 i 5 (gI r4 1 j 5)) 1 j 6)) 1 i 7 (gI (sI (sI r4 1 i 5 (gI r4 1 j 5)) 1 i 6 (gI (sI r4 1 i 5 (gI r4 1 j 5)) 1 j 6)) 1 j 7)) 1 i 8 (gI (sI (sI (sI r4 1 i 5 (gI r4 1 j 5)) 1 i 6 (gI (sI r4 1 i 5 (gI r4 1 j 5)) 1 j 6)) 1 i 7 (gI (sI (sI r4 1 i 5 (gI r4 1 j 5)) 1 i 6 (gI (sI r4 1 i 5 (gI r4 1 j 5)) 1 j 6)) 1 j 7)) 1 j 8))
set_option maxRecDepth 20000 in
set_option maxHeartbeats 1000000 in
theorem s_X1_copyFrom {l : Launch} {D : va_G} {ty : Nat → ClassId} {ρ : Nat → Nat → Nat} {N0 : Nat} (S : St l ty ρ N0) (i : Nat) (j : Nat) (hi : i < 11) (hj : j < 11) (σ : Sg) (r : Sg) (h : p_X1_copyFrom i j σ = some r) : AMet l D ty ρ N0 yX1_copyFrom (Cond.code yX1_copyFrom cX1_copyFrom 2 none :: GW) (rmk 2 0 0) [.ref (ρ 1 i), .ref (ρ 1 j)] σ (.inl none) r := by
  refine am_enter S (by decide) rfl rfl (Nat.le_of_ble_eq_true rfl) ?_
  intro p e s m args below meth c K hX
  have dq := @tat _ _ dt_X1_copyFrom
  unfold p_X1_copyFrom at h
  show WA p l e _ s m args below meth c D ty ρ N0 2 _ 0 [some (.ref (ρ 1 i)), some (.ref (ρ 1 j))] [] σ 0 0
  refine a_aload_n K (dq 0 rfl) rfl rfl ?_
  refine a_aload_n K (dq 1 rfl) rfl rfl ?_
  refine a_get K (T := 1) (i := j) (k := 0) (v := .int (gI σ 1 j 0)) (vC1 hj) rfl rfl in_X1 (Nat.le_of_ble_eq_true rfl) fl_X1_30 rfl (dq 2 rfl) ?_
  refine a_put K (T := 1) (i := i) (k := 0) (vC1 hi) rfl rfl in_X1 tyX1 tyX1_ok nmX1 (Nat.le_of_ble_eq_true rfl) fl_X1_30 rfl rfl (tyX1_ok 0 (by decide)) rfl rfl (dq 3 rfl) ?_
  refine a_aload_n K (dq 4 rfl) rfl rfl ?_
  refine a_get K (T := 1) (i := j) (k := 1) (v := .ref (ρ 2 j)) (vC1 hj) rfl rfl in_X1 (Nat.le_of_ble_eq_true rfl) fl_X1_9 rfl (dq 5 rfl) ?_
  refine a_aload_n K (dq 6 rfl) rfl rfl ?_
  refine a_get K (T := 1) (i := i) (k := 1) (v := .ref (ρ 2 i)) (vC1 hi) rfl rfl in_X1 (Nat.le_of_ble_eq_true rfl) fl_X1_9 rfl (dq 7 rfl) ?_
  obtain ⟨r1, h1, h⟩ := bnd h
  refine a_callSv K (s_X1_copyRow S 2 j 2 i (vC2 hj) rfl rfl (vC2 hi) rfl rfl (sI σ 1 i 0 (gI σ 1 j 0)) r1 h1) cw_X1_copyRow ml_X1_34 (by decide) rfl (rest := []) rfl (Nat.le_of_ble_eq_true rfl) (dq 8 rfl) (by decide) ?_
  refine a_aload_n K (dq 9 rfl) rfl rfl ?_
  refine a_get K (T := 1) (i := j) (k := 2) (v := .ref (ρ 3 j)) (vC1 hj) rfl rfl in_X1 (Nat.le_of_ble_eq_true rfl) fl_X1_15 rfl (dq 10 rfl) ?_
  refine a_aload_n K (dq 11 rfl) rfl rfl ?_
  refine a_get K (T := 1) (i := i) (k := 2) (v := .ref (ρ 3 i)) (vC1 hi) rfl rfl in_X1 (Nat.le_of_ble_eq_true rfl) fl_X1_15 rfl (dq 12 rfl) ?_
  obtain ⟨r2, h2, h⟩ := bnd h
  refine a_callSv K (s_X1_copyRow S 3 j 3 i (vC3 hj) rfl rfl (vC3 hi) rfl rfl r1 r2 h2) cw_X1_copyRow ml_X1_34 (by decide) rfl (rest := []) rfl (Nat.le_of_ble_eq_true rfl) (dq 13 rfl) (by decide) ?_
  refine a_aload_n K (dq 14 rfl) rfl rfl ?_
  refine a_get K (T := 1) (i := j) (k := 3) (v := .ref (ρ 4 j)) (vC1 hj) rfl rfl in_X1 (Nat.le_of_ble_eq_true rfl) fl_X1_18 rfl (dq 15 rfl) ?_
  refine a_aload_n K (dq 16 rfl) rfl rfl ?_
  refine a_get K (T := 1) (i := i) (k := 3) (v := .ref (ρ 4 i)) (vC1 hi) rfl rfl in_X1 (Nat.le_of_ble_eq_true rfl) fl_X1_18 rfl (dq 17 rfl) ?_
  obtain ⟨r3, h3, h⟩ := bnd h
  refine a_callSv K (s_X1_copyRow S 4 j 4 i (vC4 hj) rfl rfl (vC4 hi) rfl rfl r2 r3 h3) cw_X1_copyRow ml_X1_34 (by decide) rfl (rest := []) rfl (Nat.le_of_ble_eq_true rfl) (dq 18 rfl) (by decide) ?_
  refine a_aload_n K (dq 19 rfl) rfl rfl ?_
  refine a_get K (T := 1) (i := j) (k := 4) (v := .ref (ρ 5 j)) (vC1 hj) rfl rfl in_X1 (Nat.le_of_ble_eq_true rfl) fl_X1_21 rfl (dq 20 rfl) ?_
  refine a_aload_n K (dq 21 rfl) rfl rfl ?_
  refine a_get K (T := 1) (i := i) (k := 4) (v := .ref (ρ 5 i)) (vC1 hi) rfl rfl in_X1 (Nat.le_of_ble_eq_true rfl) fl_X1_21 rfl (dq 22 rfl) ?_
  obtain ⟨r4, h4, h⟩ := bnd h
  refine a_callSv K (s_X1_copyRow S 5 j 5 i (vC5 hj) rfl rfl (vC5 hi) rfl rfl r3 r4 h4) cw_X1_copyRow ml_X1_34 (by decide) rfl (rest := []) rfl (Nat.le_of_ble_eq_true rfl) (dq 23 rfl) (by decide) ?_
  refine a_aload_n K (dq 24 rfl) rfl rfl ?_
  refine a_aload_n K (dq 25 rfl) rfl rfl ?_
  refine a_get K (T := 1) (i := j) (k := 5) (v := .int (gI r4 1 j 5)) (vC1 hj) rfl rfl in_X1 (Nat.le_of_ble_eq_true rfl) fl_X1_38 rfl (dq 26 rfl) ?_
  refine a_put K (T := 1) (i := i) (k := 5) (vC1 hi) rfl rfl in_X1 tyX1 tyX1_ok nmX1 (Nat.le_of_ble_eq_true rfl) fl_X1_38 rfl rfl (tyX1_ok 5 (by decide)) rfl rfl (dq 27 rfl) ?_
  refine a_aload_n K (dq 28 rfl) rfl rfl ?_
  refine a_aload_n K (dq 29 rfl) rfl rfl ?_
  refine a_get K (T := 1) (i := j) (k := 6) (v := .int (gI (sI r4 1 i 5 (gI r4 1 j 5)) 1 j 6)) (vC1 hj) rfl rfl in_X1 (Nat.le_of_ble_eq_true rfl) fl_X1_41 rfl (dq 30 rfl) ?_
  refine a_put K (T := 1) (i := i) (k := 6) (vC1 hi) rfl rfl in_X1 tyX1 tyX1_ok nmX1 (Nat.le_of_ble_eq_true rfl) fl_X1_41 rfl rfl (tyX1_ok 6 (by decide)) rfl rfl (dq 31 rfl) ?_
  refine a_aload_n K (dq 32 rfl) rfl rfl ?_
  refine a_aload_n K (dq 33 rfl) rfl rfl ?_
  refine a_get K (T := 1) (i := j) (k := 7) (v := .int (gI (sI (sI r4 1 i 5 (gI r4 1 j 5)) 1 i 6 (gI (sI r4 1 i 5 (gI r4 1 j 5)) 1 j 6)) 1 j 7)) (vC1 hj) rfl rfl in_X1 (Nat.le_of_ble_eq_true rfl) fl_X1_44 rfl (dq 34 rfl) ?_
  refine a_put K (T := 1) (i := i) (k := 7) (vC1 hi) rfl rfl in_X1 tyX1 tyX1_ok nmX1 (Nat.le_of_ble_eq_true rfl) fl_X1_44 rfl rfl (tyX1_ok 7 (by decide)) rfl rfl (dq 35 rfl) ?_
  refine a_aload_n K (dq 36 rfl) rfl rfl ?_
  refine a_aload_n K (dq 37 rfl) rfl rfl ?_
  refine a_get K (T := 1) (i := j) (k := 8) (v := .int (gI (sI (sI (sI r4 1 i 5 (gI r4 1 j 5)) 1 i 6 (gI (sI r4 1 i 5 (gI r4 1 j 5)) 1 j 6)) 1 i 7 (gI (sI (sI r4 1 i 5 (gI r4 1 j 5)) 1 i 6 (gI (sI r4 1 i 5 (gI r4 1 j 5)) 1 j 6)) 1 j 7)) 1 j 8)) (vC1 hj) rfl rfl in_X1 (Nat.le_of_ble_eq_true rfl) fl_X1_47 rfl (dq 38 rfl) ?_
  refine a_put K (T := 1) (i := i) (k := 8) (vC1 hi) rfl rfl in_X1 tyX1 tyX1_ok nmX1 (Nat.le_of_ble_eq_true rfl) fl_X1_47 rfl rfl (tyX1_ok 8 (by decide)) rfl rfl (dq 39 rfl) ?_
  obtain rfl := Option.some.inj h
  exact a_vret K rfl (dq 40 rfl) (Nat.le_of_ble_eq_true rfl) (Nat.le_of_ble_eq_true rfl) rfl rfl
def t_X0_keep : List (Nat × Instr × Nat) := [(0, .aload_n 0, 1), (1, .aload_n 0, 1), (2, .getfield 18, 3), (5, .invokevirtual 22, 3), (8, .astore_n 2, 1), (9, .aload_n 2, 1), (10, .ifnull 36, 3), (13, .aload_n 2, 1), (14, .aload_n 1, 1), (15, .invokevirtual 26, 3), (18, .aload_n 0, 1), (19, .aload_n 0, 1), (20, .getfield 18, 3), (23, .iconst 1, 1), (24, .iadd, 1), (25, .bipush 8, 2), (27, .irem, 1), (28, .putfield 18, 3), (31, .aload_n 0, 1), (32, .aload_n 0, 1), (33, .getfield 30, 3), (36, .iconst 1, 1), (37, .iadd, 1), (38, .bipush 8, 2), (40, .invokestatic 33, 3), (43, .putfield 30, 3), (46, .return_, 1)]
theorem dt_X0_keep : tblOK cX0_keep t_X0_keep = true := by decide +kernel
def p_X0_keep (j : Nat) (σ : Sg) : Option Sg :=
  if ib (gI σ 6 0 1) 8 then ((p_X1_copyFrom (3 + (gI σ 6 0 1).toNatClampNeg) j σ).bind fun r2 => some (sI (sI r2 6 0 1 (((gI r2 6 0 1) + 1) - ((gI r2 6 0 1) + 1) / 8 * 8)) 6 0 2 (if 8 < ((gI (sI r2 6 0 1 (((gI r2 6 0 1) + 1) - ((gI r2 6 0 1) + 1) / 8 * 8)) 6 0 2) + 1) then 8 else ((gI (sI r2 6 0 1 (((gI r2 6 0 1) + 1) - ((gI r2 6 0 1) + 1) / 8 * 8)) 6 0 2) + 1)))) else (some σ)
set_option maxRecDepth 20000 in
set_option maxHeartbeats 1000000 in
theorem s_X0_keep {l : Launch} {D : va_G} {ty : Nat → ClassId} {ρ : Nat → Nat → Nat} {N0 : Nat} (S : St l ty ρ N0) (j : Nat) (hj : j < 11) (σ : Sg) (r : Sg) (h : p_X0_keep j σ = some r) : AMet l D ty ρ N0 yX0_keep (Cond.code yX0_keep cX0_keep 3 none :: GW) (rmk 3 0 0) [.ref (ρ 6 0), .ref (ρ 1 j)] σ (.inl none) r := by
  refine am_enter S (by decide) rfl rfl (Nat.le_of_ble_eq_true rfl) ?_
  intro p e s m args below meth c K hX
  have dq := @tat _ _ dt_X0_keep
  unfold p_X0_keep at h
  show WA p l e _ s m args below meth c D ty ρ N0 3 _ 0 [some (.ref (ρ 6 0)), some (.ref (ρ 1 j)), none] [] σ 0 0
  refine a_aload_n K (dq 0 rfl) rfl rfl ?_
  refine a_aload_n K (dq 1 rfl) rfl rfl ?_
  refine a_get K (T := 6) (i := 0) (k := 1) (v := .int (gI σ 6 0 1)) v_6 rfl rfl in_X0 (Nat.le_of_ble_eq_true rfl) fl_X0_18 rfl (dq 2 rfl) ?_
  refine a_callAt K (e9 := (gI σ 6 0 1)) cw_X0_at ml_X0_22 (by decide) (rest := []) rfl (Nat.le_of_ble_eq_true rfl) (dq 3 rfl) (by decide) (S := S) (fun k1 => ?_) (fun k1 => ?_)
  · have h := ite_t k1 h
    refine a_astore_n K (dq 4 rfl) rfl (Nat.le_of_ble_eq_true rfl) (ls' := [some (.ref (ρ 6 0)), some (.ref (ρ 1 j)), some (.ref (ρ 1 (3 + (gI σ 6 0 1).toNatClampNeg)))]) rfl ?_
    refine a_aload_n K (dq 5 rfl) rfl rfl ?_
    refine a_ifnull K (dq 6 rfl) ?_
    refine a_aload_n K (dq 7 rfl) rfl rfl ?_
    refine a_aload_n K (dq 8 rfl) rfl rfl ?_
    obtain ⟨r2, h2, h⟩ := bnd h
    refine a_callVv K (s_X1_copyFrom S (3 + (gI σ 6 0 1).toNatClampNeg) j (ib_8 k1) hj σ r2 h2) (vC1 (ib_8 k1)) rfl rfl cw_X1_copyFrom ml_X0_26 (by decide) rfl (rest := []) rfl (Nat.le_of_ble_eq_true rfl) (dq 9 rfl) (by decide) ?_
    refine a_aload_n K (dq 10 rfl) rfl rfl ?_
    refine a_aload_n K (dq 11 rfl) rfl rfl ?_
    refine a_get K (T := 6) (i := 0) (k := 1) (v := .int (gI r2 6 0 1)) v_6 rfl rfl in_X0 (Nat.le_of_ble_eq_true rfl) fl_X0_18 rfl (dq 12 rfl) ?_
    refine a_iconst K (dq 13 rfl) (v := 1) rfl ?_
    refine a_iadd K (dq 14 rfl) ?_
    refine a_bipush K (dq 15 rfl) (v := 8) rfl ?_
    refine a_irem K (dq 16 rfl) (by decide) ?_
    refine a_put K (T := 6) (i := 0) (k := 1) v_6 rfl rfl in_X0 tyX0 tyX0_ok nmX0 (Nat.le_of_ble_eq_true rfl) fl_X0_18 rfl rfl (tyX0_ok 1 (by decide)) rfl rfl (dq 17 rfl) ?_
    refine a_aload_n K (dq 18 rfl) rfl rfl ?_
    refine a_aload_n K (dq 19 rfl) rfl rfl ?_
    refine a_get K (T := 6) (i := 0) (k := 2) (v := .int (gI (sI r2 6 0 1 (((gI r2 6 0 1) + 1) - ((gI r2 6 0 1) + 1) / 8 * 8)) 6 0 2)) v_6 rfl rfl in_X0 (Nat.le_of_ble_eq_true rfl) fl_X0_30 rfl (dq 20 rfl) ?_
    refine a_iconst K (dq 21 rfl) (v := 1) rfl ?_
    refine a_iadd K (dq 22 rfl) ?_
    refine a_bipush K (dq 23 rfl) (v := 8) rfl ?_
    refine a_mmin K ml_X0_33 (Nat.le_of_ble_eq_true rfl) (Nat.le_of_ble_eq_true rfl) (Nat.le_of_ble_eq_true rfl) (Nat.le_of_ble_eq_true rfl) (dq 24 rfl) ?_
    refine a_put K (T := 6) (i := 0) (k := 2) v_6 rfl rfl in_X0 tyX0 tyX0_ok nmX0 (Nat.le_of_ble_eq_true rfl) fl_X0_30 rfl rfl (tyX0_ok 2 (by decide)) rfl rfl (dq 25 rfl) ?_
    obtain rfl := Option.some.inj h
    exact a_vret K rfl (dq 26 rfl) (Nat.le_of_ble_eq_true rfl) (Nat.le_of_ble_eq_true rfl) rfl rfl
  · have h := ite_f k1 h
    refine a_nstore_n K (dq 4 rfl) rfl (Nat.le_of_ble_eq_true rfl) (ls' := [some (.ref (ρ 6 0)), some (.ref (ρ 1 j)), some (.null)]) rfl ?_
    refine a_nload_n K (dq 5 rfl) rfl rfl ?_
    refine a_ifnullN K (tgt := 46) (dq 6 rfl) rfl ?_
    obtain rfl := Option.some.inj h
    exact a_vret K rfl (dq 26 rfl) (Nat.le_of_ble_eq_true rfl) (Nat.le_of_ble_eq_true rfl) rfl rfl
def t_X0_takeBack : List (Nat × Instr × Nat) := [(0, .aload_n 0, 1), (1, .getfield 18, 3), (4, .bipush 8, 2), (6, .iadd, 1), (7, .iconst 1, 1), (8, .isub, 1), (9, .bipush 8, 2), (11, .irem, 1), (12, .istore_n 2, 1), (13, .aload_n 0, 1), (14, .iload_n 2, 1), (15, .invokevirtual 22, 3), (18, .astore_n 3, 1), (19, .aload_n 0, 1), (20, .getfield 30, 3), (23, .ifCond .le 27, 3), (26, .aload_n 3, 1), (27, .ifnull 23, 3), (30, .aload_n 1, 1), (31, .aload_n 3, 1), (32, .invokevirtual 26, 3), (35, .aload_n 0, 1), (36, .iload_n 2, 1), (37, .putfield 18, 3), (40, .aload_n 0, 1), (41, .dup, 1), (42, .getfield 30, 3), (45, .iconst 1, 1), (46, .isub, 1), (47, .putfield 30, 3), (50, .return_, 1)]
theorem dt_X0_takeBack : tblOK cX0_takeBack t_X0_takeBack = true := by decide +kernel
def p_X0_takeBack (j : Nat) (σ : Sg) : Option Sg :=
  if ib ((((gI σ 6 0 1) + 8) - 1) - (((gI σ 6 0 1) + 8) - 1) / 8 * 8) 8 then (if (gI σ 6 0 2) ≤ 0 then (some σ) else ((p_X1_copyFrom j (3 + ((((gI σ 6 0 1) + 8) - 1) - (((gI σ 6 0 1) + 8) - 1) / 8 * 8).toNatClampNeg) σ).bind fun r3 => some (sI (sI r3 6 0 1 ((((gI σ 6 0 1) + 8) - 1) - (((gI σ 6 0 1) + 8) - 1) / 8 * 8)) 6 0 2 ((gI (sI r3 6 0 1 ((((gI σ 6 0 1) + 8) - 1) - (((gI σ 6 0 1) + 8) - 1) / 8 * 8)) 6 0 2) - 1)))) else (if (gI σ 6 0 2) ≤ 0 then (some σ) else (some σ))
set_option maxRecDepth 20000 in
set_option maxHeartbeats 1000000 in
theorem s_X0_takeBack {l : Launch} {D : va_G} {ty : Nat → ClassId} {ρ : Nat → Nat → Nat} {N0 : Nat} (S : St l ty ρ N0) (j : Nat) (hj : j < 11) (σ : Sg) (r : Sg) (h : p_X0_takeBack j σ = some r) : AMet l D ty ρ N0 yX0_takeBack (Cond.code yX0_takeBack cX0_takeBack 4 none :: GW) (rmk 3 0 0) [.ref (ρ 6 0), .ref (ρ 1 j)] σ (.inl none) r := by
  refine am_enter S (by decide) rfl rfl (Nat.le_of_ble_eq_true rfl) ?_
  intro p e s m args below meth c K hX
  have dq := @tat _ _ dt_X0_takeBack
  unfold p_X0_takeBack at h
  show WA p l e _ s m args below meth c D ty ρ N0 4 _ 0 [some (.ref (ρ 6 0)), some (.ref (ρ 1 j)), none, none] [] σ 0 0
  refine a_aload_n K (dq 0 rfl) rfl rfl ?_
  refine a_get K (T := 6) (i := 0) (k := 1) (v := .int (gI σ 6 0 1)) v_6 rfl rfl in_X0 (Nat.le_of_ble_eq_true rfl) fl_X0_18 rfl (dq 1 rfl) ?_
  refine a_bipush K (dq 2 rfl) (v := 8) rfl ?_
  refine a_iadd K (dq 3 rfl) ?_
  refine a_iconst K (dq 4 rfl) (v := 1) rfl ?_
  refine a_isub K (dq 5 rfl) ?_
  refine a_bipush K (dq 6 rfl) (v := 8) rfl ?_
  refine a_irem K (dq 7 rfl) (by decide) ?_
  refine a_istore_n K (dq 8 rfl) rfl (Nat.le_of_ble_eq_true rfl) (ls' := [some (.ref (ρ 6 0)), some (.ref (ρ 1 j)), some (.int ((((gI σ 6 0 1) + 8) - 1) - (((gI σ 6 0 1) + 8) - 1) / 8 * 8)), none]) rfl ?_
  refine a_aload_n K (dq 9 rfl) rfl rfl ?_
  refine a_iload_n K (dq 10 rfl) rfl rfl ?_
  refine a_callAt K (e9 := ((((gI σ 6 0 1) + 8) - 1) - (((gI σ 6 0 1) + 8) - 1) / 8 * 8)) cw_X0_at ml_X0_22 (by decide) (rest := []) rfl (Nat.le_of_ble_eq_true rfl) (dq 11 rfl) (by decide) (S := S) (fun k1 => ?_) (fun k1 => ?_)
  · have h := ite_t k1 h
    refine a_astore_n K (dq 12 rfl) rfl (Nat.le_of_ble_eq_true rfl) (ls' := [some (.ref (ρ 6 0)), some (.ref (ρ 1 j)), some (.int ((((gI σ 6 0 1) + 8) - 1) - (((gI σ 6 0 1) + 8) - 1) / 8 * 8)), some (.ref (ρ 1 (3 + ((((gI σ 6 0 1) + 8) - 1) - (((gI σ 6 0 1) + 8) - 1) / 8 * 8).toNatClampNeg)))]) rfl ?_
    refine a_aload_n K (dq 13 rfl) rfl rfl ?_
    refine a_get K (T := 6) (i := 0) (k := 2) (v := .int (gI σ 6 0 2)) v_6 rfl rfl in_X0 (Nat.le_of_ble_eq_true rfl) fl_X0_30 rfl (dq 14 rfl) ?_
    refine a_if_le K (tgt := 50) (dq 15 rfl) rfl (fun c2 => ?_) (fun c2 => ?_)
    · have h := ite_t c2 h
      obtain rfl := Option.some.inj h
      exact a_vret K rfl (dq 30 rfl) (Nat.le_of_ble_eq_true rfl) (Nat.le_of_ble_eq_true rfl) rfl rfl
    · have h := ite_f c2 h
      refine a_aload_n K (dq 16 rfl) rfl rfl ?_
      refine a_ifnull K (dq 17 rfl) ?_
      refine a_aload_n K (dq 18 rfl) rfl rfl ?_
      refine a_aload_n K (dq 19 rfl) rfl rfl ?_
      obtain ⟨r3, h3, h⟩ := bnd h
      refine a_callVv K (s_X1_copyFrom S j (3 + ((((gI σ 6 0 1) + 8) - 1) - (((gI σ 6 0 1) + 8) - 1) / 8 * 8).toNatClampNeg) hj (ib_8 k1) σ r3 h3) (vC1 hj) rfl rfl cw_X1_copyFrom ml_X0_26 (by decide) rfl (rest := []) rfl (Nat.le_of_ble_eq_true rfl) (dq 20 rfl) (by decide) ?_
      refine a_aload_n K (dq 21 rfl) rfl rfl ?_
      refine a_iload_n K (dq 22 rfl) rfl rfl ?_
      refine a_put K (T := 6) (i := 0) (k := 1) v_6 rfl rfl in_X0 tyX0 tyX0_ok nmX0 (Nat.le_of_ble_eq_true rfl) fl_X0_18 rfl rfl (tyX0_ok 1 (by decide)) rfl rfl (dq 23 rfl) ?_
      refine a_aload_n K (dq 24 rfl) rfl rfl ?_
      refine a_dup K (dq 25 rfl) rfl ?_
      refine a_get K (T := 6) (i := 0) (k := 2) (v := .int (gI (sI r3 6 0 1 ((((gI σ 6 0 1) + 8) - 1) - (((gI σ 6 0 1) + 8) - 1) / 8 * 8)) 6 0 2)) v_6 rfl rfl in_X0 (Nat.le_of_ble_eq_true rfl) fl_X0_30 rfl (dq 26 rfl) ?_
      refine a_iconst K (dq 27 rfl) (v := 1) rfl ?_
      refine a_isub K (dq 28 rfl) ?_
      refine a_put K (T := 6) (i := 0) (k := 2) v_6 rfl rfl in_X0 tyX0 tyX0_ok nmX0 (Nat.le_of_ble_eq_true rfl) fl_X0_30 rfl rfl (tyX0_ok 2 (by decide)) rfl rfl (dq 29 rfl) ?_
      obtain rfl := Option.some.inj h
      exact a_vret K rfl (dq 30 rfl) (Nat.le_of_ble_eq_true rfl) (Nat.le_of_ble_eq_true rfl) rfl rfl
  · have h := ite_f k1 h
    refine a_nstore_n K (dq 12 rfl) rfl (Nat.le_of_ble_eq_true rfl) (ls' := [some (.ref (ρ 6 0)), some (.ref (ρ 1 j)), some (.int ((((gI σ 6 0 1) + 8) - 1) - (((gI σ 6 0 1) + 8) - 1) / 8 * 8)), some (.null)]) rfl ?_
    refine a_aload_n K (dq 13 rfl) rfl rfl ?_
    refine a_get K (T := 6) (i := 0) (k := 2) (v := .int (gI σ 6 0 2)) v_6 rfl rfl in_X0 (Nat.le_of_ble_eq_true rfl) fl_X0_30 rfl (dq 14 rfl) ?_
    refine a_if_le K (tgt := 50) (dq 15 rfl) rfl (fun c4 => ?_) (fun c4 => ?_)
    · have h := ite_t c4 h
      obtain rfl := Option.some.inj h
      exact a_vret K rfl (dq 30 rfl) (Nat.le_of_ble_eq_true rfl) (Nat.le_of_ble_eq_true rfl) rfl rfl
    · have h := ite_f c4 h
      refine a_nload_n K (dq 16 rfl) rfl rfl ?_
      refine a_ifnullN K (tgt := 50) (dq 17 rfl) rfl ?_
      obtain rfl := Option.some.inj h
      exact a_vret K rfl (dq 30 rfl) (Nat.le_of_ble_eq_true rfl) (Nat.le_of_ble_eq_true rfl) rfl rfl
def t_X6_save : List (Nat × Instr × Nat) := [(0, .aload_n 0, 1), (1, .getfield 19, 3), (4, .aload_n 0, 1), (5, .getfield 10, 3), (8, .invokevirtual 296, 3), (11, .aload_n 0, 1), (12, .iconst 1, 1), (13, .putfield 299, 3), (16, .aload_n 0, 1), (17, .getfield 10, 3), (20, .invokevirtual 152, 3), (23, .ireturn, 1)]
theorem dt_X6_save : tblOK cX6_save t_X6_save = true := by decide +kernel
def p_X6_save  (σ : Sg) : Option (Int32 × Sg) :=
  (p_X1_copyFrom 2 0 σ).bind fun r1 => (p_X1_farms  (sI r1 0 0 3 1)).bind fun r2 => some (r2, sI r1 0 0 3 1)
set_option maxRecDepth 20000 in
set_option maxHeartbeats 1000000 in
theorem s_X6_save {l : Launch} {D : va_G} {ty : Nat → ClassId} {ρ : Nat → Nat → Nat} {N0 : Nat} (S : St l ty ρ N0)   (σ : Sg) (r : (Int32 × Sg)) (h : p_X6_save  σ = some r) : AMet l D ty ρ N0 yX6_save (Cond.code yX6_save cX6_save 1 (some .int) :: GW) (rmk 3 0 0) [.ref (ρ 0 0)] σ (oI r.1) r.2 := by
  refine am_enter S (by decide) rfl rfl (Nat.le_of_ble_eq_true rfl) ?_
  intro p e s m args below meth c K hX
  have dq := @tat _ _ dt_X6_save
  unfold p_X6_save at h
  show WA p l e _ s m args below meth c D ty ρ N0 1 _ 0 [some (.ref (ρ 0 0))] [] σ 0 0
  refine a_aload_n K (dq 0 rfl) rfl rfl ?_
  refine a_get K (T := 0) (i := 0) (k := 2) (v := .ref (ρ 1 2)) v_0 rfl rfl in_X6 (Nat.le_of_ble_eq_true rfl) fl_X6_19 rfl (dq 1 rfl) ?_
  refine a_aload_n K (dq 2 rfl) rfl rfl ?_
  refine a_get K (T := 0) (i := 0) (k := 0) (v := .ref (ρ 1 0)) v_0 rfl rfl in_X6 (Nat.le_of_ble_eq_true rfl) fl_X6_10 rfl (dq 3 rfl) ?_
  obtain ⟨r1, h1, h⟩ := bnd h
  refine a_callVv K (s_X1_copyFrom S 2 0 (by decide) (by decide) σ r1 h1) (vC1 (by decide)) rfl rfl cw_X1_copyFrom ml_X6_296 (by decide) rfl (rest := []) rfl (Nat.le_of_ble_eq_true rfl) (dq 4 rfl) (by decide) ?_
  refine a_aload_n K (dq 5 rfl) rfl rfl ?_
  refine a_iconst K (dq 6 rfl) (v := 1) rfl ?_
  refine a_put K (T := 0) (i := 0) (k := 3) v_0 rfl rfl in_X6 tyX6 tyX6_ok nmX6 (Nat.le_of_ble_eq_true rfl) fl_X6_299 rfl rfl (tyX6_ok 3 (by decide)) rfl rfl (dq 7 rfl) ?_
  refine a_aload_n K (dq 8 rfl) rfl rfl ?_
  refine a_get K (T := 0) (i := 0) (k := 0) (v := .ref (ρ 1 0)) v_0 rfl rfl in_X6 (Nat.le_of_ble_eq_true rfl) fl_X6_10 rfl (dq 9 rfl) ?_
  obtain ⟨r2, h2, h⟩ := bnd h
  refine a_callVi K (s_X1_farms S   (sI r1 0 0 3 1) r2 h2) v_1 rfl rfl cw_X1_farms ml_X6_152 (by decide) rfl (rest := []) rfl (Nat.le_of_ble_eq_true rfl) (dq 10 rfl) (by decide) ?_
  obtain rfl := Option.some.inj h
  exact a_iret K rfl rfl (dq 11 rfl) (Nat.le_of_ble_eq_true rfl) (Nat.le_of_ble_eq_true rfl) rfl rfl
def t_X6_undo : List (Nat × Instr × Nat) := [(0, .aload_n 0, 1), (1, .getfield 25, 3), (4, .invokevirtual 285, 3), (7, .ifCond .ne 14, 3), (10, .new 188, 3), (13, .dup, 1), (14, .ldc_w 290, 3), (17, .invokespecial 192, 3), (20, .athrow, 1), (21, .aload_n 0, 1), (22, .getfield 25, 3), (25, .aload_n 0, 1), (26, .getfield 10, 3), (29, .invokevirtual 292, 3), (32, .aload_n 0, 1), (33, .getfield 25, 3), (36, .invokevirtual 285, 3), (39, .ireturn, 1)]
theorem dt_X6_undo : tblOK cX6_undo t_X6_undo = true := by decide +kernel
def p_X6_undo  (σ : Sg) : Option ((Int32 ⊕ String) × Sg) :=
  (p_X0_count  σ).bind fun r1 => if r1 = 0 then (some (.inr "java/lang/IllegalStateException", σ)) else ((p_X0_takeBack 0 σ).bind fun r3 => (p_X0_count  r3).bind fun r4 => some (.inl r4, r3))
set_option maxRecDepth 20000 in
set_option maxHeartbeats 1000000 in
theorem s_X6_undo {l : Launch} {D : va_G} {ty : Nat → ClassId} {ρ : Nat → Nat → Nat} {N0 : Nat} (S : St l ty ρ N0)   (σ : Sg) (r : ((Int32 ⊕ String) × Sg)) (h : p_X6_undo  σ = some r) : AMet l D ty ρ N0 yX6_undo (Cond.code yX6_undo cX6_undo 1 (some .int) :: GW) (rmk 4 1 6) [.ref (ρ 0 0)] σ (oT r.1) r.2 := by
  refine am_enter S (by decide) rfl rfl (Nat.le_of_ble_eq_true rfl) ?_
  intro p e s m args below meth c K hX
  have dq := @tat _ _ dt_X6_undo
  unfold p_X6_undo at h
  show WA p l e _ s m args below meth c D ty ρ N0 1 _ 0 [some (.ref (ρ 0 0))] [] σ 0 0
  refine a_aload_n K (dq 0 rfl) rfl rfl ?_
  refine a_get K (T := 0) (i := 0) (k := 4) (v := .ref (ρ 6 0)) v_0 rfl rfl in_X6 (Nat.le_of_ble_eq_true rfl) fl_X6_25 rfl (dq 1 rfl) ?_
  obtain ⟨r1, h1, h⟩ := bnd h
  refine a_callVi K (s_X0_count S   σ r1 h1) v_6 rfl rfl cw_X0_count ml_X6_285 (by decide) rfl (rest := []) rfl (Nat.le_of_ble_eq_true rfl) (dq 2 rfl) (by decide) ?_
  refine a_if_ne K (tgt := 21) (dq 3 rfl) rfl (fun c2 => ?_) (fun c2 => ?_)
  · have h := ite_f c2 h
    refine a_aload_n K (dq 9 rfl) rfl rfl ?_
    refine a_get K (T := 0) (i := 0) (k := 4) (v := .ref (ρ 6 0)) v_0 rfl rfl in_X6 (Nat.le_of_ble_eq_true rfl) fl_X6_25 rfl (dq 10 rfl) ?_
    refine a_aload_n K (dq 11 rfl) rfl rfl ?_
    refine a_get K (T := 0) (i := 0) (k := 0) (v := .ref (ρ 1 0)) v_0 rfl rfl in_X6 (Nat.le_of_ble_eq_true rfl) fl_X6_10 rfl (dq 12 rfl) ?_
    obtain ⟨r3, h3, h⟩ := bnd h
    refine a_callVv K (s_X0_takeBack S 0 (by decide) σ r3 h3) v_6 rfl rfl cw_X0_takeBack ml_X6_292 (by decide) rfl (rest := []) rfl (Nat.le_of_ble_eq_true rfl) (dq 13 rfl) (by decide) ?_
    refine a_aload_n K (dq 14 rfl) rfl rfl ?_
    refine a_get K (T := 0) (i := 0) (k := 4) (v := .ref (ρ 6 0)) v_0 rfl rfl in_X6 (Nat.le_of_ble_eq_true rfl) fl_X6_25 rfl (dq 15 rfl) ?_
    obtain ⟨r4, h4, h⟩ := bnd h
    refine a_callVi K (s_X0_count S   r3 r4 h4) v_6 rfl rfl cw_X0_count ml_X6_285 (by decide) rfl (rest := []) rfl (Nat.le_of_ble_eq_true rfl) (dq 16 rfl) (by decide) ?_
    obtain rfl := Option.some.inj h
    exact a_iret K rfl rfl (dq 17 rfl) (Nat.le_of_ble_eq_true rfl) (Nat.le_of_ble_eq_true rfl) rfl rfl
  · have h := ite_t c2 h
    obtain rfl := Option.some.inj h
    exact a_throwW K hX th_X6_188_290_192 (dq 4 rfl) (dq 5 rfl) (dq 6 rfl) (dq 7 rfl) (dq 8 rfl) (Nat.le_of_ble_eq_true rfl) (Nat.le_of_ble_eq_true rfl) (Nat.le_of_ble_eq_true rfl) (Nat.le_of_ble_eq_true rfl) (Nat.le_of_ble_eq_true rfl) (Nat.le_of_ble_eq_true rfl) rfl rfl
def t_X6_restore : List (Nat × Instr × Nat) := [(0, .aload_n 0, 1), (1, .getfield 299, 3), (4, .ifCond .ne 14, 3), (7, .new 188, 3), (10, .dup, 1), (11, .ldc_w 303, 3), (14, .invokespecial 192, 3), (17, .athrow, 1), (18, .aload_n 0, 1), (19, .getfield 10, 3), (22, .aload_n 0, 1), (23, .getfield 19, 3), (26, .invokevirtual 296, 3), (29, .aload_n 0, 1), (30, .getfield 25, 3), (33, .invokevirtual 305, 3), (36, .aload_n 0, 1), (37, .getfield 10, 3), (40, .invokevirtual 152, 3), (43, .ireturn, 1)]
theorem dt_X6_restore : tblOK cX6_restore t_X6_restore = true := by decide +kernel
def p_X6_restore  (σ : Sg) : Option ((Int32 ⊕ String) × Sg) :=
  if (gI σ 0 0 3) = 0 then (some (.inr "java/lang/IllegalStateException", σ)) else ((p_X1_copyFrom 0 2 σ).bind fun r2 => (p_X0_forget  r2).bind fun r3 => (p_X1_farms  r3).bind fun r4 => some (.inl r4, r3))
set_option maxRecDepth 20000 in
set_option maxHeartbeats 1000000 in
theorem s_X6_restore {l : Launch} {D : va_G} {ty : Nat → ClassId} {ρ : Nat → Nat → Nat} {N0 : Nat} (S : St l ty ρ N0)   (σ : Sg) (r : ((Int32 ⊕ String) × Sg)) (h : p_X6_restore  σ = some r) : AMet l D ty ρ N0 yX6_restore (Cond.code yX6_restore cX6_restore 1 (some .int) :: GW) (rmk 3 1 6) [.ref (ρ 0 0)] σ (oT r.1) r.2 := by
  refine am_enter S (by decide) rfl rfl (Nat.le_of_ble_eq_true rfl) ?_
  intro p e s m args below meth c K hX
  have dq := @tat _ _ dt_X6_restore
  unfold p_X6_restore at h
  show WA p l e _ s m args below meth c D ty ρ N0 1 _ 0 [some (.ref (ρ 0 0))] [] σ 0 0
  refine a_aload_n K (dq 0 rfl) rfl rfl ?_
  refine a_get K (T := 0) (i := 0) (k := 3) (v := .int (gI σ 0 0 3)) v_0 rfl rfl in_X6 (Nat.le_of_ble_eq_true rfl) fl_X6_299 rfl (dq 1 rfl) ?_
  refine a_if_ne K (tgt := 18) (dq 2 rfl) rfl (fun c1 => ?_) (fun c1 => ?_)
  · have h := ite_f c1 h
    refine a_aload_n K (dq 8 rfl) rfl rfl ?_
    refine a_get K (T := 0) (i := 0) (k := 0) (v := .ref (ρ 1 0)) v_0 rfl rfl in_X6 (Nat.le_of_ble_eq_true rfl) fl_X6_10 rfl (dq 9 rfl) ?_
    refine a_aload_n K (dq 10 rfl) rfl rfl ?_
    refine a_get K (T := 0) (i := 0) (k := 2) (v := .ref (ρ 1 2)) v_0 rfl rfl in_X6 (Nat.le_of_ble_eq_true rfl) fl_X6_19 rfl (dq 11 rfl) ?_
    obtain ⟨r2, h2, h⟩ := bnd h
    refine a_callVv K (s_X1_copyFrom S 0 2 (by decide) (by decide) σ r2 h2) v_1 rfl rfl cw_X1_copyFrom ml_X6_296 (by decide) rfl (rest := []) rfl (Nat.le_of_ble_eq_true rfl) (dq 12 rfl) (by decide) ?_
    refine a_aload_n K (dq 13 rfl) rfl rfl ?_
    refine a_get K (T := 0) (i := 0) (k := 4) (v := .ref (ρ 6 0)) v_0 rfl rfl in_X6 (Nat.le_of_ble_eq_true rfl) fl_X6_25 rfl (dq 14 rfl) ?_
    obtain ⟨r3, h3, h⟩ := bnd h
    refine a_callVv K (s_X0_forget S   r2 r3 h3) v_6 rfl rfl cw_X0_forget ml_X6_305 (by decide) rfl (rest := []) rfl (Nat.le_of_ble_eq_true rfl) (dq 15 rfl) (by decide) ?_
    refine a_aload_n K (dq 16 rfl) rfl rfl ?_
    refine a_get K (T := 0) (i := 0) (k := 0) (v := .ref (ρ 1 0)) v_0 rfl rfl in_X6 (Nat.le_of_ble_eq_true rfl) fl_X6_10 rfl (dq 17 rfl) ?_
    obtain ⟨r4, h4, h⟩ := bnd h
    refine a_callVi K (s_X1_farms S   r3 r4 h4) v_1 rfl rfl cw_X1_farms ml_X6_152 (by decide) rfl (rest := []) rfl (Nat.le_of_ble_eq_true rfl) (dq 18 rfl) (by decide) ?_
    obtain rfl := Option.some.inj h
    exact a_iret K rfl rfl (dq 19 rfl) (Nat.le_of_ble_eq_true rfl) (Nat.le_of_ble_eq_true rfl) rfl rfl
  · have h := ite_t c1 h
    obtain rfl := Option.some.inj h
    exact a_throwW K hX th_X6_188_303_192 (dq 3 rfl) (dq 4 rfl) (dq 5 rfl) (dq 6 rfl) (dq 7 rfl) (Nat.le_of_ble_eq_true rfl) (Nat.le_of_ble_eq_true rfl) (Nat.le_of_ble_eq_true rfl) (Nat.le_of_ble_eq_true rfl) (Nat.le_of_ble_eq_true rfl) (Nat.le_of_ble_eq_true rfl) rfl rfl
def t_X6_change : List (Nat × Instr × Nat) := [(0, .aload_n 0, 1), (1, .iload_n 1, 1), (2, .iload_n 2, 1), (3, .iload_n 3, 1), (4, .iload 4, 2), (6, .invokevirtual 315, 3), (9, .ifCond .eq 22, 3), (12, .aload_n 0, 1), (13, .getfield 32, 3), (16, .iconst 0, 1), (17, .invokevirtual 319, 3), (20, .new 214, 3), (23, .dup, 1), (24, .ldc_w 322, 3), (27, .invokespecial 218, 3), (30, .athrow, 1), (31, .aload_n 0, 1), (32, .getfield 25, 3), (35, .aload_n 0, 1), (36, .getfield 10, 3), (39, .invokevirtual 324, 3), (42, .aload_n 0, 1), (43, .iload_n 1, 1), (44, .iload_n 2, 1), (45, .iload_n 3, 1), (46, .iload 4, 2), (48, .invokevirtual 327, 3), (51, .ireturn, 1)]
theorem dt_X6_change : tblOK cX6_change t_X6_change = true := by decide +kernel
def p_X6_change (a1 : Int32) (a2 : Int32) (a3 : Int32) (a4 : Int32) (σ : Sg) : Option ((Int32 ⊕ String) × Sg) :=
  (p_X6_isRefused a1 a2 a3 a4 σ).bind fun r1 => if r1.1 = 0 then ((p_X0_keep 0 r1.2).bind fun r3 => (p_X6_carryOut a1 a2 a3 a4 r3).bind fun r4 => some (.inl r4.1, r4.2)) else ((p_X3_keepCommand 0 r1.2).bind fun r5 => some (.inr "java/lang/UnsupportedOperationException", r5))
set_option maxRecDepth 20000 in
set_option maxHeartbeats 1000000 in
theorem s_X6_change {l : Launch} {D : va_G} {ty : Nat → ClassId} {ρ : Nat → Nat → Nat} {N0 : Nat} (S : St l ty ρ N0) (a1 : Int32) (a2 : Int32) (a3 : Int32) (a4 : Int32)  (σ : Sg) (r : ((Int32 ⊕ String) × Sg)) (h : p_X6_change a1 a2 a3 a4 σ = some r) : AMet l D ty ρ N0 yX6_change (Cond.code yX6_change cX6_change 5 (some .int) :: GW) (rmk 6 1 6) [.ref (ρ 0 0), .int a1, .int a2, .int a3, .int a4] σ (oT r.1) r.2 := by
  refine am_enter S (by decide) rfl rfl (Nat.le_of_ble_eq_true rfl) ?_
  intro p e s m args below meth c K hX
  have dq := @tat _ _ dt_X6_change
  unfold p_X6_change at h
  show WA p l e _ s m args below meth c D ty ρ N0 5 _ 0 [some (.ref (ρ 0 0)), some (.int a1), some (.int a2), some (.int a3), some (.int a4)] [] σ 0 0
  refine a_aload_n K (dq 0 rfl) rfl rfl ?_
  refine a_iload_n K (dq 1 rfl) rfl rfl ?_
  refine a_iload_n K (dq 2 rfl) rfl rfl ?_
  refine a_iload_n K (dq 3 rfl) rfl rfl ?_
  refine a_iload K (dq 4 rfl) rfl ?_
  obtain ⟨r1, h1, h⟩ := bnd h
  refine a_callVi K (s_X6_isRefused S a1 a2 a3 a4  σ r1 h1) v_0 rfl rfl cw_X6_isRefused ml_X6_315 (by decide) rfl (rest := []) rfl (Nat.le_of_ble_eq_true rfl) (dq 5 rfl) (by decide) ?_
  refine a_if_eq K (tgt := 31) (dq 6 rfl) rfl (fun c2 => ?_) (fun c2 => ?_)
  · have h := ite_t c2 h
    refine a_aload_n K (dq 16 rfl) rfl rfl ?_
    refine a_get K (T := 0) (i := 0) (k := 4) (v := .ref (ρ 6 0)) v_0 rfl rfl in_X6 (Nat.le_of_ble_eq_true rfl) fl_X6_25 rfl (dq 17 rfl) ?_
    refine a_aload_n K (dq 18 rfl) rfl rfl ?_
    refine a_get K (T := 0) (i := 0) (k := 0) (v := .ref (ρ 1 0)) v_0 rfl rfl in_X6 (Nat.le_of_ble_eq_true rfl) fl_X6_10 rfl (dq 19 rfl) ?_
    obtain ⟨r3, h3, h⟩ := bnd h
    refine a_callVv K (s_X0_keep S 0 (by decide) r1.2 r3 h3) v_6 rfl rfl cw_X0_keep ml_X6_324 (by decide) rfl (rest := []) rfl (Nat.le_of_ble_eq_true rfl) (dq 20 rfl) (by decide) ?_
    refine a_aload_n K (dq 21 rfl) rfl rfl ?_
    refine a_iload_n K (dq 22 rfl) rfl rfl ?_
    refine a_iload_n K (dq 23 rfl) rfl rfl ?_
    refine a_iload_n K (dq 24 rfl) rfl rfl ?_
    refine a_iload K (dq 25 rfl) rfl ?_
    obtain ⟨r4, h4, h⟩ := bnd h
    refine a_callVi K (s_X6_carryOut S a1 a2 a3 a4  r3 r4 h4) v_0 rfl rfl cw_X6_carryOut ml_X6_327 (by decide) rfl (rest := []) rfl (Nat.le_of_ble_eq_true rfl) (dq 26 rfl) (by decide) ?_
    obtain rfl := Option.some.inj h
    exact a_iret K rfl rfl (dq 27 rfl) (Nat.le_of_ble_eq_true rfl) (Nat.le_of_ble_eq_true rfl) rfl rfl
  · have h := ite_f c2 h
    refine a_aload_n K (dq 7 rfl) rfl rfl ?_
    refine a_get K (T := 0) (i := 0) (k := 5) (v := .ref (ρ 8 0)) v_0 rfl rfl in_X6 (Nat.le_of_ble_eq_true rfl) fl_X6_32 rfl (dq 8 rfl) ?_
    refine a_iconst K (dq 9 rfl) (v := 0) rfl ?_
    obtain ⟨r5, h5, h⟩ := bnd h
    refine a_callVv K (s_X3_keepCommand S 0  r1.2 r5 h5) v_8 rfl rfl cw_X3_keepCommand ml_X6_319 (by decide) rfl (rest := []) rfl (Nat.le_of_ble_eq_true rfl) (dq 10 rfl) (by decide) ?_
    obtain rfl := Option.some.inj h
    exact a_throwW K hX th_X6_214_322_218 (dq 11 rfl) (dq 12 rfl) (dq 13 rfl) (dq 14 rfl) (dq 15 rfl) (Nat.le_of_ble_eq_true rfl) (Nat.le_of_ble_eq_true rfl) (Nat.le_of_ble_eq_true rfl) (Nat.le_of_ble_eq_true rfl) (Nat.le_of_ble_eq_true rfl) (Nat.le_of_ble_eq_true rfl) rfl rfl
def t_X6_lay : List (Nat × Instr × Nat) := [(0, .aload_n 0, 1), (1, .bipush 108, 2), (3, .iload_n 1, 1), (4, .iload_n 2, 1), (5, .iconst 0, 1), (6, .invokevirtual 65, 3), (9, .ireturn, 1)]
theorem dt_X6_lay : tblOK cX6_lay t_X6_lay = true := by decide +kernel
def p_X6_lay (a1 : Int32) (a2 : Int32) (σ : Sg) : Option ((Int32 ⊕ String) × Sg) :=
  (p_X6_change 108 a1 a2 0 σ).bind fun r1 => sm r1.1 (fun x2 => some (.inl x2, r1.2)) (fun E3 => some (.inr E3, r1.2))
set_option maxRecDepth 20000 in
set_option maxHeartbeats 1000000 in
theorem s_X6_lay {l : Launch} {D : va_G} {ty : Nat → ClassId} {ρ : Nat → Nat → Nat} {N0 : Nat} (S : St l ty ρ N0) (a1 : Int32) (a2 : Int32)  (σ : Sg) (r : ((Int32 ⊕ String) × Sg)) (h : p_X6_lay a1 a2 σ = some r) : AMet l D ty ρ N0 yX6_lay (Cond.code yX6_lay cX6_lay 3 (some .int) :: GW) (rmk 7 1 6) [.ref (ρ 0 0), .int a1, .int a2] σ (oT r.1) r.2 := by
  refine am_enter S (by decide) rfl rfl (Nat.le_of_ble_eq_true rfl) ?_
  intro p e s m args below meth c K hX
  have dq := @tat _ _ dt_X6_lay
  unfold p_X6_lay at h
  show WA p l e _ s m args below meth c D ty ρ N0 3 _ 0 [some (.ref (ρ 0 0)), some (.int a1), some (.int a2)] [] σ 0 0
  refine a_aload_n K (dq 0 rfl) rfl rfl ?_
  refine a_bipush K (dq 1 rfl) (v := 108) rfl ?_
  refine a_iload_n K (dq 2 rfl) rfl rfl ?_
  refine a_iload_n K (dq 3 rfl) rfl rfl ?_
  refine a_iconst K (dq 4 rfl) (v := 0) rfl ?_
  obtain ⟨r1, h1, h⟩ := bnd h
  refine a_callVt K (s_X6_change S 108 a1 a2 0  σ r1 h1) v_0 rfl rfl cw_X6_change ml_X6_65 (by decide) rfl (rest := []) rfl (Nat.le_of_ble_eq_true rfl) (dq 5 rfl) (by decide) (fun x2 hx2 => ?_) (fun E3 hE3 => ?_)
  · have h := sm_l hx2 h
    obtain rfl := Option.some.inj h
    exact a_iret K rfl rfl (dq 6 rfl) (Nat.le_of_ble_eq_true rfl) (Nat.le_of_ble_eq_true rfl) rfl rfl
  · have h := sm_r hE3 h
    obtain rfl := Option.some.inj h
    exact a_out K hX (Nat.le_of_ble_eq_true rfl) (Nat.le_of_ble_eq_true rfl) rfl rfl
def t_X6_giveUp : List (Nat × Instr × Nat) := [(0, .aload_n 0, 1), (1, .bipush 99, 2), (3, .iload_n 1, 1), (4, .iload_n 2, 1), (5, .iconst 0, 1), (6, .invokevirtual 65, 3), (9, .ireturn, 1)]
theorem dt_X6_giveUp : tblOK cX6_giveUp t_X6_giveUp = true := by decide +kernel
def p_X6_giveUp (a1 : Int32) (a2 : Int32) (σ : Sg) : Option ((Int32 ⊕ String) × Sg) :=
  (p_X6_change 99 a1 a2 0 σ).bind fun r1 => sm r1.1 (fun x2 => some (.inl x2, r1.2)) (fun E3 => some (.inr E3, r1.2))
set_option maxRecDepth 20000 in
set_option maxHeartbeats 1000000 in
theorem s_X6_giveUp {l : Launch} {D : va_G} {ty : Nat → ClassId} {ρ : Nat → Nat → Nat} {N0 : Nat} (S : St l ty ρ N0) (a1 : Int32) (a2 : Int32)  (σ : Sg) (r : ((Int32 ⊕ String) × Sg)) (h : p_X6_giveUp a1 a2 σ = some r) : AMet l D ty ρ N0 yX6_giveUp (Cond.code yX6_giveUp cX6_giveUp 3 (some .int) :: GW) (rmk 7 1 6) [.ref (ρ 0 0), .int a1, .int a2] σ (oT r.1) r.2 := by
  refine am_enter S (by decide) rfl rfl (Nat.le_of_ble_eq_true rfl) ?_
  intro p e s m args below meth c K hX
  have dq := @tat _ _ dt_X6_giveUp
  unfold p_X6_giveUp at h
  show WA p l e _ s m args below meth c D ty ρ N0 3 _ 0 [some (.ref (ρ 0 0)), some (.int a1), some (.int a2)] [] σ 0 0
  refine a_aload_n K (dq 0 rfl) rfl rfl ?_
  refine a_bipush K (dq 1 rfl) (v := 99) rfl ?_
  refine a_iload_n K (dq 2 rfl) rfl rfl ?_
  refine a_iload_n K (dq 3 rfl) rfl rfl ?_
  refine a_iconst K (dq 4 rfl) (v := 0) rfl ?_
  obtain ⟨r1, h1, h⟩ := bnd h
  refine a_callVt K (s_X6_change S 99 a1 a2 0  σ r1 h1) v_0 rfl rfl cw_X6_change ml_X6_65 (by decide) rfl (rest := []) rfl (Nat.le_of_ble_eq_true rfl) (dq 5 rfl) (by decide) (fun x2 hx2 => ?_) (fun E3 hE3 => ?_)
  · have h := sm_l hx2 h
    obtain rfl := Option.some.inj h
    exact a_iret K rfl rfl (dq 6 rfl) (Nat.le_of_ble_eq_true rfl) (Nat.le_of_ble_eq_true rfl) rfl rfl
  · have h := sm_r hE3 h
    obtain rfl := Option.some.inj h
    exact a_out K hX (Nat.le_of_ble_eq_true rfl) (Nat.le_of_ble_eq_true rfl) rfl rfl
def t_X6_root : List (Nat × Instr × Nat) := [(0, .aload_n 0, 1), (1, .bipush 114, 2), (3, .iload_n 1, 1), (4, .iconst 0, 1), (5, .iconst 0, 1), (6, .invokevirtual 65, 3), (9, .ireturn, 1)]
theorem dt_X6_root : tblOK cX6_root t_X6_root = true := by decide +kernel
def p_X6_root (a1 : Int32) (σ : Sg) : Option ((Int32 ⊕ String) × Sg) :=
  (p_X6_change 114 a1 0 0 σ).bind fun r1 => sm r1.1 (fun x2 => some (.inl x2, r1.2)) (fun E3 => some (.inr E3, r1.2))
set_option maxRecDepth 20000 in
set_option maxHeartbeats 1000000 in
theorem s_X6_root {l : Launch} {D : va_G} {ty : Nat → ClassId} {ρ : Nat → Nat → Nat} {N0 : Nat} (S : St l ty ρ N0) (a1 : Int32)  (σ : Sg) (r : ((Int32 ⊕ String) × Sg)) (h : p_X6_root a1 σ = some r) : AMet l D ty ρ N0 yX6_root (Cond.code yX6_root cX6_root 2 (some .int) :: GW) (rmk 7 1 6) [.ref (ρ 0 0), .int a1] σ (oT r.1) r.2 := by
  refine am_enter S (by decide) rfl rfl (Nat.le_of_ble_eq_true rfl) ?_
  intro p e s m args below meth c K hX
  have dq := @tat _ _ dt_X6_root
  unfold p_X6_root at h
  show WA p l e _ s m args below meth c D ty ρ N0 2 _ 0 [some (.ref (ρ 0 0)), some (.int a1)] [] σ 0 0
  refine a_aload_n K (dq 0 rfl) rfl rfl ?_
  refine a_bipush K (dq 1 rfl) (v := 114) rfl ?_
  refine a_iload_n K (dq 2 rfl) rfl rfl ?_
  refine a_iconst K (dq 3 rfl) (v := 0) rfl ?_
  refine a_iconst K (dq 4 rfl) (v := 0) rfl ?_
  obtain ⟨r1, h1, h⟩ := bnd h
  refine a_callVt K (s_X6_change S 114 a1 0 0  σ r1 h1) v_0 rfl rfl cw_X6_change ml_X6_65 (by decide) rfl (rest := []) rfl (Nat.le_of_ble_eq_true rfl) (dq 5 rfl) (by decide) (fun x2 hx2 => ?_) (fun E3 hE3 => ?_)
  · have h := sm_l hx2 h
    obtain rfl := Option.some.inj h
    exact a_iret K rfl rfl (dq 6 rfl) (Nat.le_of_ble_eq_true rfl) (Nat.le_of_ble_eq_true rfl) rfl rfl
  · have h := sm_r hE3 h
    obtain rfl := Option.some.inj h
    exact a_out K hX (Nat.le_of_ble_eq_true rfl) (Nat.le_of_ble_eq_true rfl) rfl rfl
def t_X6_expose : List (Nat × Instr × Nat) := [(0, .aload_n 0, 1), (1, .bipush 101, 2), (3, .iload_n 1, 1), (4, .iconst 0, 1), (5, .iconst 0, 1), (6, .invokevirtual 65, 3), (9, .ireturn, 1)]
theorem dt_X6_expose : tblOK cX6_expose t_X6_expose = true := by decide +kernel
def p_X6_expose (a1 : Int32) (σ : Sg) : Option ((Int32 ⊕ String) × Sg) :=
  (p_X6_change 101 a1 0 0 σ).bind fun r1 => sm r1.1 (fun x2 => some (.inl x2, r1.2)) (fun E3 => some (.inr E3, r1.2))
set_option maxRecDepth 20000 in
set_option maxHeartbeats 1000000 in
theorem s_X6_expose {l : Launch} {D : va_G} {ty : Nat → ClassId} {ρ : Nat → Nat → Nat} {N0 : Nat} (S : St l ty ρ N0) (a1 : Int32)  (σ : Sg) (r : ((Int32 ⊕ String) × Sg)) (h : p_X6_expose a1 σ = some r) : AMet l D ty ρ N0 yX6_expose (Cond.code yX6_expose cX6_expose 2 (some .int) :: GW) (rmk 7 1 6) [.ref (ρ 0 0), .int a1] σ (oT r.1) r.2 := by
  refine am_enter S (by decide) rfl rfl (Nat.le_of_ble_eq_true rfl) ?_
  intro p e s m args below meth c K hX
  have dq := @tat _ _ dt_X6_expose
  unfold p_X6_expose at h
  show WA p l e _ s m args below meth c D ty ρ N0 2 _ 0 [some (.ref (ρ 0 0)), some (.int a1)] [] σ 0 0
  refine a_aload_n K (dq 0 rfl) rfl rfl ?_
  refine a_bipush K (dq 1 rfl) (v := 101) rfl ?_
  refine a_iload_n K (dq 2 rfl) rfl rfl ?_
  refine a_iconst K (dq 3 rfl) (v := 0) rfl ?_
  refine a_iconst K (dq 4 rfl) (v := 0) rfl ?_
  obtain ⟨r1, h1, h⟩ := bnd h
  refine a_callVt K (s_X6_change S 101 a1 0 0  σ r1 h1) v_0 rfl rfl cw_X6_change ml_X6_65 (by decide) rfl (rest := []) rfl (Nat.le_of_ble_eq_true rfl) (dq 5 rfl) (by decide) (fun x2 hx2 => ?_) (fun E3 hE3 => ?_)
  · have h := sm_l hx2 h
    obtain rfl := Option.some.inj h
    exact a_iret K rfl rfl (dq 6 rfl) (Nat.le_of_ble_eq_true rfl) (Nat.le_of_ble_eq_true rfl) rfl rfl
  · have h := sm_r hE3 h
    obtain rfl := Option.some.inj h
    exact a_out K hX (Nat.le_of_ble_eq_true rfl) (Nat.le_of_ble_eq_true rfl) rfl rfl
def t_X6_charge : List (Nat × Instr × Nat) := [(0, .aload_n 0, 1), (1, .bipush 116, 2), (3, .iload_n 1, 1), (4, .iload_n 2, 1), (5, .iload_n 3, 1), (6, .invokevirtual 65, 3), (9, .ireturn, 1)]
theorem dt_X6_charge : tblOK cX6_charge t_X6_charge = true := by decide +kernel
def p_X6_charge (a1 : Int32) (a2 : Int32) (a3 : Int32) (σ : Sg) : Option ((Int32 ⊕ String) × Sg) :=
  (p_X6_change 116 a1 a2 a3 σ).bind fun r1 => sm r1.1 (fun x2 => some (.inl x2, r1.2)) (fun E3 => some (.inr E3, r1.2))
set_option maxRecDepth 20000 in
set_option maxHeartbeats 1000000 in
theorem s_X6_charge {l : Launch} {D : va_G} {ty : Nat → ClassId} {ρ : Nat → Nat → Nat} {N0 : Nat} (S : St l ty ρ N0) (a1 : Int32) (a2 : Int32) (a3 : Int32)  (σ : Sg) (r : ((Int32 ⊕ String) × Sg)) (h : p_X6_charge a1 a2 a3 σ = some r) : AMet l D ty ρ N0 yX6_charge (Cond.code yX6_charge cX6_charge 4 (some .int) :: GW) (rmk 7 1 6) [.ref (ρ 0 0), .int a1, .int a2, .int a3] σ (oT r.1) r.2 := by
  refine am_enter S (by decide) rfl rfl (Nat.le_of_ble_eq_true rfl) ?_
  intro p e s m args below meth c K hX
  have dq := @tat _ _ dt_X6_charge
  unfold p_X6_charge at h
  show WA p l e _ s m args below meth c D ty ρ N0 4 _ 0 [some (.ref (ρ 0 0)), some (.int a1), some (.int a2), some (.int a3)] [] σ 0 0
  refine a_aload_n K (dq 0 rfl) rfl rfl ?_
  refine a_bipush K (dq 1 rfl) (v := 116) rfl ?_
  refine a_iload_n K (dq 2 rfl) rfl rfl ?_
  refine a_iload_n K (dq 3 rfl) rfl rfl ?_
  refine a_iload_n K (dq 4 rfl) rfl rfl ?_
  obtain ⟨r1, h1, h⟩ := bnd h
  refine a_callVt K (s_X6_change S 116 a1 a2 a3  σ r1 h1) v_0 rfl rfl cw_X6_change ml_X6_65 (by decide) rfl (rest := []) rfl (Nat.le_of_ble_eq_true rfl) (dq 5 rfl) (by decide) (fun x2 hx2 => ?_) (fun E3 hE3 => ?_)
  · have h := sm_l hx2 h
    obtain rfl := Option.some.inj h
    exact a_iret K rfl rfl (dq 6 rfl) (Nat.le_of_ble_eq_true rfl) (Nat.le_of_ble_eq_true rfl) rfl rfl
  · have h := sm_r hE3 h
    obtain rfl := Option.some.inj h
    exact a_out K hX (Nat.le_of_ble_eq_true rfl) (Nat.le_of_ble_eq_true rfl) rfl rfl
def t_X6_drive : List (Nat × Instr × Nat) := [(0, .aload_n 0, 1), (1, .bipush 100, 2), (3, .iload_n 1, 1), (4, .iload_n 2, 1), (5, .iconst 0, 1), (6, .invokevirtual 65, 3), (9, .ireturn, 1)]
theorem dt_X6_drive : tblOK cX6_drive t_X6_drive = true := by decide +kernel
def p_X6_drive (a1 : Int32) (a2 : Int32) (σ : Sg) : Option ((Int32 ⊕ String) × Sg) :=
  (p_X6_change 100 a1 a2 0 σ).bind fun r1 => sm r1.1 (fun x2 => some (.inl x2, r1.2)) (fun E3 => some (.inr E3, r1.2))
set_option maxRecDepth 20000 in
set_option maxHeartbeats 1000000 in
theorem s_X6_drive {l : Launch} {D : va_G} {ty : Nat → ClassId} {ρ : Nat → Nat → Nat} {N0 : Nat} (S : St l ty ρ N0) (a1 : Int32) (a2 : Int32)  (σ : Sg) (r : ((Int32 ⊕ String) × Sg)) (h : p_X6_drive a1 a2 σ = some r) : AMet l D ty ρ N0 yX6_drive (Cond.code yX6_drive cX6_drive 3 (some .int) :: GW) (rmk 7 1 6) [.ref (ρ 0 0), .int a1, .int a2] σ (oT r.1) r.2 := by
  refine am_enter S (by decide) rfl rfl (Nat.le_of_ble_eq_true rfl) ?_
  intro p e s m args below meth c K hX
  have dq := @tat _ _ dt_X6_drive
  unfold p_X6_drive at h
  show WA p l e _ s m args below meth c D ty ρ N0 3 _ 0 [some (.ref (ρ 0 0)), some (.int a1), some (.int a2)] [] σ 0 0
  refine a_aload_n K (dq 0 rfl) rfl rfl ?_
  refine a_bipush K (dq 1 rfl) (v := 100) rfl ?_
  refine a_iload_n K (dq 2 rfl) rfl rfl ?_
  refine a_iload_n K (dq 3 rfl) rfl rfl ?_
  refine a_iconst K (dq 4 rfl) (v := 0) rfl ?_
  obtain ⟨r1, h1, h⟩ := bnd h
  refine a_callVt K (s_X6_change S 100 a1 a2 0  σ r1 h1) v_0 rfl rfl cw_X6_change ml_X6_65 (by decide) rfl (rest := []) rfl (Nat.le_of_ble_eq_true rfl) (dq 5 rfl) (by decide) (fun x2 hx2 => ?_) (fun E3 hE3 => ?_)
  · have h := sm_l hx2 h
    obtain rfl := Option.some.inj h
    exact a_iret K rfl rfl (dq 6 rfl) (Nat.le_of_ble_eq_true rfl) (Nat.le_of_ble_eq_true rfl) rfl rfl
  · have h := sm_r hE3 h
    obtain rfl := Option.some.inj h
    exact a_out K hX (Nat.le_of_ble_eq_true rfl) (Nat.le_of_ble_eq_true rfl) rfl rfl
def t_X6_farm : List (Nat × Instr × Nat) := [(0, .aload_n 0, 1), (1, .bipush 102, 2), (3, .iload_n 1, 1), (4, .iconst 0, 1), (5, .iconst 0, 1), (6, .invokevirtual 65, 3), (9, .ireturn, 1)]
theorem dt_X6_farm : tblOK cX6_farm t_X6_farm = true := by decide +kernel
def p_X6_farm (a1 : Int32) (σ : Sg) : Option ((Int32 ⊕ String) × Sg) :=
  (p_X6_change 102 a1 0 0 σ).bind fun r1 => sm r1.1 (fun x2 => some (.inl x2, r1.2)) (fun E3 => some (.inr E3, r1.2))
set_option maxRecDepth 20000 in
set_option maxHeartbeats 1000000 in
theorem s_X6_farm {l : Launch} {D : va_G} {ty : Nat → ClassId} {ρ : Nat → Nat → Nat} {N0 : Nat} (S : St l ty ρ N0) (a1 : Int32)  (σ : Sg) (r : ((Int32 ⊕ String) × Sg)) (h : p_X6_farm a1 σ = some r) : AMet l D ty ρ N0 yX6_farm (Cond.code yX6_farm cX6_farm 2 (some .int) :: GW) (rmk 7 1 6) [.ref (ρ 0 0), .int a1] σ (oT r.1) r.2 := by
  refine am_enter S (by decide) rfl rfl (Nat.le_of_ble_eq_true rfl) ?_
  intro p e s m args below meth c K hX
  have dq := @tat _ _ dt_X6_farm
  unfold p_X6_farm at h
  show WA p l e _ s m args below meth c D ty ρ N0 2 _ 0 [some (.ref (ρ 0 0)), some (.int a1)] [] σ 0 0
  refine a_aload_n K (dq 0 rfl) rfl rfl ?_
  refine a_bipush K (dq 1 rfl) (v := 102) rfl ?_
  refine a_iload_n K (dq 2 rfl) rfl rfl ?_
  refine a_iconst K (dq 3 rfl) (v := 0) rfl ?_
  refine a_iconst K (dq 4 rfl) (v := 0) rfl ?_
  obtain ⟨r1, h1, h⟩ := bnd h
  refine a_callVt K (s_X6_change S 102 a1 0 0  σ r1 h1) v_0 rfl rfl cw_X6_change ml_X6_65 (by decide) rfl (rest := []) rfl (Nat.le_of_ble_eq_true rfl) (dq 5 rfl) (by decide) (fun x2 hx2 => ?_) (fun E3 hE3 => ?_)
  · have h := sm_l hx2 h
    obtain rfl := Option.some.inj h
    exact a_iret K rfl rfl (dq 6 rfl) (Nat.le_of_ble_eq_true rfl) (Nat.le_of_ble_eq_true rfl) rfl rfl
  · have h := sm_r hE3 h
    obtain rfl := Option.some.inj h
    exact a_out K hX (Nat.le_of_ble_eq_true rfl) (Nat.le_of_ble_eq_true rfl) rfl rfl
