theorem fl_X6_16 : Cond.fieldLink RX6 16 (TX6 1).1 (TX6 1).2.1 (TX6 1).2.2.1 ∈ GW := gwp 168 (by decide +kernel) rfl
theorem ml_X4_29 : Cond.methodLink RX4 29 yX4_startReading ∈ GW := gwp 842 (by decide +kernel) rfl
theorem ml_X4_32 : Cond.methodLink RX4 32 yX4_readCommand ∈ GW := gwp 846 (by decide +kernel) rfl
theorem ml_X4_40 : Cond.methodLink RX4 40 yX4_passSeparator ∈ GW := gwp 926 (by decide +kernel) rfl
theorem ml_X4_65 : Cond.methodLink RX4 65 yX4_readPart ∈ GW := gwp 915 (by decide +kernel) rfl
theorem ml_X6_200 : Cond.methodLink RX6 200 yX4_countCommands ∈ GW := gwp 838 (by decide +kernel) rfl
theorem ml_X6_203 : Cond.methodLink RX6 203 yX4_position ∈ GW := gwp 930 (by decide +kernel) rfl
theorem ml_X6_206 : Cond.methodLink RX6 206 yX6_carryOutText ∈ GW := gwp 934 (by decide +kernel) rfl
theorem ml_X6_209 : Cond.methodLink RX6 209 yX4_clear ∈ GW := gwp 949 (by decide +kernel) rfl
theorem ml_X6_243 : Cond.methodLink RX6 243 yX6_writeBehind ∈ GW := gwp 1011 (by decide +kernel) rfl
theorem ml_X6_330 : Cond.methodLink RX6 330 yX4_startReading ∈ GW := gwp 938 (by decide +kernel) rfl
theorem ml_X6_333 : Cond.methodLink RX6 333 yX4_readCommand ∈ GW := gwp 939 (by decide +kernel) rfl
theorem ml_X6_336 : Cond.methodLink RX6 336 yX4_kind ∈ GW := gwp 940 (by decide +kernel) rfl
theorem ml_X6_339 : Cond.methodLink RX6 339 yX4_number ∈ GW := gwp 944 (by decide +kernel) rfl
theorem ml_X6_341 : Cond.methodLink RX6 341 yX4_passSeparator ∈ GW := gwp 948 (by decide +kernel) rfl
theorem ml_X7_236 : Cond.methodLink RX7 236 yX7_writesTree ∈ GW := gwp 1499 (by decide +kernel) rfl
theorem cw_X4_clear : CwV RX4 yX4_clear cX4_clear 1 none 0 := ⟨gwp 952 (by decide +kernel) rfl, gwp 950 (by decide +kernel) rfl, gwp 951 (by decide +kernel) rfl, gwp 6 (by decide +kernel) rfl, by decide +kernel⟩
theorem cw_X4_countCommands : CwV RX4 yX4_countCommands cX4_countCommands 2 (some .int) 0 := ⟨gwp 841 (by decide +kernel) rfl, gwp 839 (by decide +kernel) rfl, gwp 840 (by decide +kernel) rfl, gwp 6 (by decide +kernel) rfl, by decide +kernel⟩
theorem cw_X4_kind : CwV RX4 yX4_kind cX4_kind 1 (some .int) 0 := ⟨gwp 943 (by decide +kernel) rfl, gwp 941 (by decide +kernel) rfl, gwp 942 (by decide +kernel) rfl, gwp 6 (by decide +kernel) rfl, by decide +kernel⟩
theorem cw_X4_number : CwV RX4 yX4_number cX4_number 2 (some .int) 1 := ⟨gwp 947 (by decide +kernel) rfl, gwp 945 (by decide +kernel) rfl, gwp 946 (by decide +kernel) rfl, gwp 6 (by decide +kernel) rfl, by decide +kernel⟩
theorem cw_X4_passSeparator : CwV RX4 yX4_passSeparator cX4_passSeparator 1 none 0 := ⟨gwp 929 (by decide +kernel) rfl, gwp 927 (by decide +kernel) rfl, gwp 928 (by decide +kernel) rfl, gwp 6 (by decide +kernel) rfl, by decide +kernel⟩
theorem cw_X4_position : CwV RX4 yX4_position cX4_position 1 (some .int) 0 := ⟨gwp 933 (by decide +kernel) rfl, gwp 931 (by decide +kernel) rfl, gwp 932 (by decide +kernel) rfl, gwp 6 (by decide +kernel) rfl, by decide +kernel⟩
theorem cw_X4_readCommand : CwV RX4 yX4_readCommand cX4_readCommand 4 (some .boolean) 0 := ⟨gwp 849 (by decide +kernel) rfl, gwp 847 (by decide +kernel) rfl, gwp 848 (by decide +kernel) rfl, gwp 6 (by decide +kernel) rfl, by decide +kernel⟩
theorem cw_X4_readPart : CwV RX4 yX4_readPart cX4_readPart 2 (some .boolean) 1 := ⟨gwp 918 (by decide +kernel) rfl, gwp 917 (by decide +kernel) rfl, gws (q := (yX4_readPart, 7)) 27 (by decide +kernel), gwp 6 (by decide +kernel) rfl, by decide +kernel⟩
theorem cw_X4_startReading : CwV RX4 yX4_startReading cX4_startReading 1 none 0 := ⟨gwp 845 (by decide +kernel) rfl, gwp 843 (by decide +kernel) rfl, gwp 844 (by decide +kernel) rfl, gwp 6 (by decide +kernel) rfl, by decide +kernel⟩
theorem cw_X6_carryOutText : CwV RX6 yX6_carryOutText cX6_carryOutText 3 (some .boolean) 1 := ⟨gwp 937 (by decide +kernel) rfl, gwp 936 (by decide +kernel) rfl, gws (q := (yX6_carryOutText, 11)) 29 (by decide +kernel), gwp 1 (by decide +kernel) rfl, by decide +kernel⟩
theorem cw_X6_writeBehind : CwS RX6 yX6_writeBehind cX6_writeBehind 6 none 4 := ⟨gwp 1013 (by decide +kernel) rfl, gwp 1012 (by decide +kernel) rfl, gwp 1 (by decide +kernel) rfl, by decide +kernel⟩
theorem cw_X7_writesTree : CwV RX7 yX7_writesTree cX7_writesTree 4 none 1 := ⟨gwp 1502 (by decide +kernel) rfl, gwp 1501 (by decide +kernel) rfl, gws (q := (yX7_writesTree, 22)) 69 (by decide +kernel), gwp 9 (by decide +kernel) rfl, by decide +kernel⟩
set_option maxRecDepth 20000 in
theorem th_X6_95_212_99 : ThOK RX6 "java/lang/IllegalArgumentException" "the text has a fault" ["java/lang/RuntimeException", "java/lang/Exception"] 95 212 99 := ⟨by decide +kernel, by decide +kernel, gwp 609 (by decide +kernel) rfl, gwp 19 (by decide +kernel) rfl, List.mem_of_getElem? (i := 953) (by decide +kernel), by decide +kernel, by decide +kernel, List.mem_of_getElem? (i := 611) (by decide +kernel), by decide +kernel⟩
set_option maxRecDepth 20000 in
theorem th_X6_214_216_218 : ThOK RX6 "java/lang/UnsupportedOperationException" "a command is refused" ["java/lang/RuntimeException", "java/lang/Exception"] 214 216 218 := ⟨by decide +kernel, by decide +kernel, gwp 342 (by decide +kernel) rfl, gwp 13 (by decide +kernel) rfl, List.mem_of_getElem? (i := 954) (by decide +kernel), by decide +kernel, by decide +kernel, List.mem_of_getElem? (i := 344) (by decide +kernel), by decide +kernel⟩
def t_X6_writeBehind : List (Nat × Instr × Nat) := [(0, .aload_n 1, 1), (1, .iload_n 2, 1), (2, .invokevirtual 239, 3), (5, .iload_n 3, 1), (6, .bipush 12, 2), (8, .if_icmp .ge 11, 3), (11, .aload_n 0, 1), (12, .iload_n 2, 1), (13, .invokevirtual 86, 3), (16, .ifCond .ne 4, 3), (19, .return_, 1), (20, .bipush 40, 2), (22, .istore 4, 2), (24, .iconst 0, 1), (25, .istore 5, 2), (27, .iload 5, 2), (29, .aload_n 0, 1), (30, .invokevirtual 152, 3), (33, .if_icmp .ge 55, 3), (36, .aload_n 0, 1), (37, .iload 5, 2), (39, .invokevirtual 77, 3), (42, .iload_n 2, 1), (43, .if_icmp .ne 39, 3), (46, .aload_n 1, 1), (47, .iload 4, 2), (49, .invokevirtual 236, 3), (52, .aload_n 0, 1), (53, .iload_n 2, 1), (54, .invokevirtual 80, 3), (57, .iload 5, 2), (59, .if_icmp .ne 9, 3), (62, .aload_n 1, 1), (63, .bipush 33, 2), (65, .invokevirtual 236, 3), (68, .aload_n 0, 1), (69, .aload_n 1, 1), (70, .iload 5, 2), (72, .iload_n 3, 1), (73, .iconst 1, 1), (74, .iadd, 1), (75, .invokestatic 243, 3), (78, .bipush 32, 2), (80, .istore 4, 2), (82, .iinc 5 1, 3), (85, .goto (-58), 3), (88, .aload_n 1, 1), (89, .bipush 41, 2), (91, .invokevirtual 236, 3), (94, .return_, 1)]
theorem dt_X6_writeBehind : tblOK cX6_writeBehind t_X6_writeBehind = true := by decide +kernel
def p_X6_writeBehind_L27  (kr : Int32 → Int32 → Sg → Option Sg) : Nat → Int32 → Int32 → Int32 → Int32 → Sg → Option Sg
  | 0, _, _, _, _, _ => none
  | n + 1, v2, v3, v4, v5, σ => (p_X1_farms  σ).bind fun r5 => if r5 ≤ v5 then ((p_X2_write 41 σ).bind fun r7 => some r7) else ((p_X1_parentOf v5 σ).bind fun r8 => if r8 = v2 then ((p_X2_write v4 σ).bind fun r10 => (p_X1_preferredOf v2 r10).bind fun r11 => if r11 = v5 then ((p_X2_write 33 r10).bind fun r14 => (kr v5 (v3 + 1) r14).bind fun r15 => p_X6_writeBehind_L27 kr n v2 v3 32 (v5 + 1) r15) else ((kr v5 (v3 + 1) r10).bind fun r13 => p_X6_writeBehind_L27 kr n v2 v3 32 (v5 + 1) r13)) else (p_X6_writeBehind_L27 kr n v2 v3 v4 (v5 + 1) σ))
def p_X6_writeBehind : Nat → Int32 → Int32 → Sg → Option Sg
  | 0, _, _, _ => none
  | d + 1, a2, a3, σ => (p_X2_writeNumber a2 σ).bind fun r1 => if 12 ≤ a3 then (some r1) else ((p_X1_childrenOf a2 r1).bind fun r3 => if r3 = 0 then (some r1) else (p_X6_writeBehind_L27 (p_X6_writeBehind d) 400 a2 a3 40 0 r1))
set_option maxRecDepth 20000 in
set_option maxHeartbeats 1000000 in
theorem s_X6_writeBehind_L27 {l : Launch} {D : va_G} {ty : Nat → ClassId} {ρ : Nat → Nat → Nat} {N0 : Nat} (S : St l ty ρ N0)   (kr : Int32 → Int32 → Sg → Option Sg) (d : Nat) (hkr : ∀ (a2 : Int32) (a3 : Int32) (σ r : Sg), kr a2 a3 σ = some r → AMet l D ty ρ N0 yX6_writeBehind (Cond.code yX6_writeBehind cX6_writeBehind 6 none :: GW) (rmk (2 + d) 0 0) [.ref (ρ 1 0), .ref (ρ 12 0), .int a2, .int a3] σ (.inl none) r) : ∀ (n : Nat) (v2 : Int32) (v3 : Int32) (v4 : Int32) (v5 : Int32) (σ : Sg) (r : Sg) (h : p_X6_writeBehind_L27  kr n v2 v3 v4 v5 σ = some r) {p : Program} {e : Env} {s : State} {m : MethodId} {args : Array Value} {below : List Frame} {meth : Method} {c : Code} (K : Cx p l s m args meth c cX6_writeBehind 6 RX6 none D ty ρ N0) (hX : ∀ x ∈ c.exceptionTable.toList, False), WA p l e (rmk (2 + d + 1) 0 0) s m args below meth c D ty ρ N0 6 (vx_MQ below (oQ D ty ρ N0 (.inl none) r) (oX D ty ρ N0 (.inl none) r) args s 0 0 (fun q => N0 ≤ q)) 27 [some (.ref (ρ 1 0)), some (.ref (ρ 12 0)), some (.int v2), some (.int v3), some (.int v4), some (.int v5)] [] σ 0 0 := by
  intro n
  induction n with
  | zero =>
    intro v2 v3 v4 v5 σ r h
    simp only [p_X6_writeBehind_L27] at h
    cases h
  | succ n ih =>
    intro v2 v3 v4 v5 σ r h p e s m args below meth c K hX
    have dq := @tat _ _ dt_X6_writeBehind
    rw [p_X6_writeBehind_L27] at h
    refine a_iload K (dq 15 rfl) rfl ?_
    refine a_aload_n K (dq 16 rfl) rfl rfl ?_
    obtain ⟨r5, h5, h⟩ := bnd h
    refine a_callVi K (s_X1_farms S   σ r5 h5) v_1 rfl rfl cw_X1_farms ml_X6_152 (by constructor <;> (simp only [rmk]; omega)) rfl (rest := [.int v5]) rfl (Nat.le_of_ble_eq_true rfl) (dq 17 rfl) ⟨Nat.le_refl 0, Nat.le_refl 0⟩ ?_
    refine a_icmp_ge K (tgt := 88) (dq 18 rfl) rfl (fun c6 => ?_) (fun c6 => ?_)
    · have h := ite_t c6 h
      refine a_aload_n K (dq 46 rfl) rfl rfl ?_
      refine a_bipush K (dq 47 rfl) (v := 41) rfl ?_
      obtain ⟨r7, h7, h⟩ := bnd h
      refine a_callVv K (s_X2_write S 41  σ r7 h7) v_12 rfl rfl cw_X2_write ml_X6_236 (by constructor <;> (simp only [rmk]; omega)) rfl (rest := []) rfl (Nat.le_of_ble_eq_true rfl) (dq 48 rfl) ⟨Nat.le_refl 0, Nat.le_refl 0⟩ ?_
      obtain rfl := Option.some.inj h
      exact a_vret K rfl (dq 49 rfl) (Nat.le_of_ble_eq_true rfl) (Nat.le_of_ble_eq_true rfl) rfl rfl
    · have h := ite_f c6 h
      refine a_aload_n K (dq 19 rfl) rfl rfl ?_
      refine a_iload K (dq 20 rfl) rfl ?_
      obtain ⟨r8, h8, h⟩ := bnd h
      refine a_callVi K (s_X1_parentOf S v5  σ r8 h8) v_1 rfl rfl cw_X1_parentOf ml_X6_77 (by constructor <;> (simp only [rmk]; omega)) rfl (rest := []) rfl (Nat.le_of_ble_eq_true rfl) (dq 21 rfl) ⟨Nat.le_refl 0, Nat.le_refl 0⟩ ?_
      refine a_iload_n K (dq 22 rfl) rfl rfl ?_
      refine a_icmp_ne K (tgt := 82) (dq 23 rfl) rfl (fun c9 => ?_) (fun c9 => ?_)
      · have h := ite_f c9 h
        refine a_iinc K (dq 44 rfl) rfl (v := (v5 + 1)) rfl (Nat.le_of_ble_eq_true rfl) (ls' := [some (.ref (ρ 1 0)), some (.ref (ρ 12 0)), some (.int v2), some (.int v3), some (.int v4), some (.int (v5 + 1))]) rfl ?_
        refine a_goto K (tgt := 27) (dq 45 rfl) rfl ?_
        exact ih v2 v3 v4 (v5 + 1) σ r h K hX
      · have h := ite_t c9 h
        refine a_aload_n K (dq 24 rfl) rfl rfl ?_
        refine a_iload K (dq 25 rfl) rfl ?_
        obtain ⟨r10, h10, h⟩ := bnd h
        refine a_callVv K (s_X2_write S v4  σ r10 h10) v_12 rfl rfl cw_X2_write ml_X6_236 (by constructor <;> (simp only [rmk]; omega)) rfl (rest := []) rfl (Nat.le_of_ble_eq_true rfl) (dq 26 rfl) ⟨Nat.le_refl 0, Nat.le_refl 0⟩ ?_
        refine a_aload_n K (dq 27 rfl) rfl rfl ?_
        refine a_iload_n K (dq 28 rfl) rfl rfl ?_
        obtain ⟨r11, h11, h⟩ := bnd h
        refine a_callVi K (s_X1_preferredOf S v2  r10 r11 h11) v_1 rfl rfl cw_X1_preferredOf ml_X6_80 (by constructor <;> (simp only [rmk]; omega)) rfl (rest := []) rfl (Nat.le_of_ble_eq_true rfl) (dq 29 rfl) ⟨Nat.le_refl 0, Nat.le_refl 0⟩ ?_
        refine a_iload K (dq 30 rfl) rfl ?_
        refine a_icmp_ne K (tgt := 68) (dq 31 rfl) rfl (fun c12 => ?_) (fun c12 => ?_)
        · have h := ite_f c12 h
          refine a_aload_n K (dq 35 rfl) rfl rfl ?_
          refine a_aload_n K (dq 36 rfl) rfl rfl ?_
          refine a_iload K (dq 37 rfl) rfl ?_
          refine a_iload_n K (dq 38 rfl) rfl rfl ?_
          refine a_iconst K (dq 39 rfl) (v := 1) rfl ?_
          refine a_iadd K (dq 40 rfl) ?_
          obtain ⟨r13, h13, h⟩ := bnd h
          refine a_callSv K (hkr v5 (v3 + 1) r10 r13 h13) cw_X6_writeBehind ml_X6_243 (by constructor <;> (simp only [rmk]; omega)) rfl (rest := []) rfl (Nat.le_of_ble_eq_true rfl) (dq 41 rfl) ⟨Nat.le_refl 0, Nat.le_refl 0⟩ ?_
          refine a_bipush K (dq 42 rfl) (v := 32) rfl ?_
          refine a_istore K (dq 43 rfl) (Nat.le_of_ble_eq_true rfl) (ls' := [some (.ref (ρ 1 0)), some (.ref (ρ 12 0)), some (.int v2), some (.int v3), some (.int 32), some (.int v5)]) rfl ?_
          refine a_iinc K (dq 44 rfl) rfl (v := (v5 + 1)) rfl (Nat.le_of_ble_eq_true rfl) (ls' := [some (.ref (ρ 1 0)), some (.ref (ρ 12 0)), some (.int v2), some (.int v3), some (.int 32), some (.int (v5 + 1))]) rfl ?_
          refine a_goto K (tgt := 27) (dq 45 rfl) rfl ?_
          exact ih v2 v3 32 (v5 + 1) r13 r h K hX
        · have h := ite_t c12 h
          refine a_aload_n K (dq 32 rfl) rfl rfl ?_
          refine a_bipush K (dq 33 rfl) (v := 33) rfl ?_
          obtain ⟨r14, h14, h⟩ := bnd h
          refine a_callVv K (s_X2_write S 33  r10 r14 h14) v_12 rfl rfl cw_X2_write ml_X6_236 (by constructor <;> (simp only [rmk]; omega)) rfl (rest := []) rfl (Nat.le_of_ble_eq_true rfl) (dq 34 rfl) ⟨Nat.le_refl 0, Nat.le_refl 0⟩ ?_
          refine a_aload_n K (dq 35 rfl) rfl rfl ?_
          refine a_aload_n K (dq 36 rfl) rfl rfl ?_
          refine a_iload K (dq 37 rfl) rfl ?_
          refine a_iload_n K (dq 38 rfl) rfl rfl ?_
          refine a_iconst K (dq 39 rfl) (v := 1) rfl ?_
          refine a_iadd K (dq 40 rfl) ?_
          obtain ⟨r15, h15, h⟩ := bnd h
          refine a_callSv K (hkr v5 (v3 + 1) r14 r15 h15) cw_X6_writeBehind ml_X6_243 (by constructor <;> (simp only [rmk]; omega)) rfl (rest := []) rfl (Nat.le_of_ble_eq_true rfl) (dq 41 rfl) ⟨Nat.le_refl 0, Nat.le_refl 0⟩ ?_
          refine a_bipush K (dq 42 rfl) (v := 32) rfl ?_
          refine a_istore K (dq 43 rfl) (Nat.le_of_ble_eq_true rfl) (ls' := [some (.ref (ρ 1 0)), some (.ref (ρ 12 0)), some (.int v2), some (.int v3), some (.int 32), some (.int v5)]) rfl ?_
          refine a_iinc K (dq 44 rfl) rfl (v := (v5 + 1)) rfl (Nat.le_of_ble_eq_true rfl) (ls' := [some (.ref (ρ 1 0)), some (.ref (ρ 12 0)), some (.int v2), some (.int v3), some (.int 32), some (.int (v5 + 1))]) rfl ?_
          refine a_goto K (tgt := 27) (dq 45 rfl) rfl ?_
          exact ih v2 v3 32 (v5 + 1) r15 r h K hX
set_option maxRecDepth 20000 in
set_option maxHeartbeats 1000000 in
theorem s_X6_writeBehind {l : Launch} {D : va_G} {ty : Nat → ClassId} {ρ : Nat → Nat → Nat} {N0 : Nat} (S : St l ty ρ N0) : ∀ (d : Nat) (a2 : Int32) (a3 : Int32) (σ r : Sg) (h : p_X6_writeBehind d a2 a3 σ = some r), AMet l D ty ρ N0 yX6_writeBehind (Cond.code yX6_writeBehind cX6_writeBehind 6 none :: GW) (rmk (2 + d) 0 0) [.ref (ρ 1 0), .ref (ρ 12 0), .int a2, .int a3] σ (.inl none) r := by
  intro d
  induction d with
  | zero =>
    intro a2 a3 σ r h
    simp only [p_X6_writeBehind] at h
    cases h
  | succ d ih =>
    intro a2 a3 σ r h
    refine am_enter S (by decide) rfl rfl (Nat.le_of_ble_eq_true rfl) ?_
    intro p e s m args below meth c K hX
    have dq := @tat _ _ dt_X6_writeBehind
    rw [p_X6_writeBehind] at h
    show WA p l e (rmk (2 + d + 1) 0 0) s m args below meth c D ty ρ N0 6 _ 0 [some (.ref (ρ 1 0)), some (.ref (ρ 12 0)), some (.int a2), some (.int a3), none, none] [] σ 0 0
    refine a_aload_n K (dq 0 rfl) rfl rfl ?_
    refine a_iload_n K (dq 1 rfl) rfl rfl ?_
    obtain ⟨r1, h1, h⟩ := bnd h
    refine a_callVv K (s_X2_writeNumber S a2  σ r1 h1) v_12 rfl rfl cw_X2_writeNumber ml_X6_239 (by constructor <;> (simp only [rmk]; omega)) rfl (rest := []) rfl (Nat.le_of_ble_eq_true rfl) (dq 2 rfl) ⟨Nat.le_refl 0, Nat.le_refl 0⟩ ?_
    refine a_iload_n K (dq 3 rfl) rfl rfl ?_
    refine a_bipush K (dq 4 rfl) (v := 12) rfl ?_
    refine a_icmp_ge K (tgt := 19) (dq 5 rfl) rfl (fun c2 => ?_) (fun c2 => ?_)
    · have h := ite_t c2 h
      obtain rfl := Option.some.inj h
      exact a_vret K rfl (dq 10 rfl) (Nat.le_of_ble_eq_true rfl) (Nat.le_of_ble_eq_true rfl) rfl rfl
    · have h := ite_f c2 h
      refine a_aload_n K (dq 6 rfl) rfl rfl ?_
      refine a_iload_n K (dq 7 rfl) rfl rfl ?_
      obtain ⟨r3, h3, h⟩ := bnd h
      refine a_callVi K (s_X1_childrenOf S a2  r1 r3 h3) v_1 rfl rfl cw_X1_childrenOf ml_X6_86 (by constructor <;> (simp only [rmk]; omega)) rfl (rest := []) rfl (Nat.le_of_ble_eq_true rfl) (dq 8 rfl) ⟨Nat.le_refl 0, Nat.le_refl 0⟩ ?_
      refine a_if_ne K (tgt := 20) (dq 9 rfl) rfl (fun c4 => ?_) (fun c4 => ?_)
      · have h := ite_f c4 h
        refine a_bipush K (dq 11 rfl) (v := 40) rfl ?_
        refine a_istore K (dq 12 rfl) (Nat.le_of_ble_eq_true rfl) (ls' := [some (.ref (ρ 1 0)), some (.ref (ρ 12 0)), some (.int a2), some (.int a3), some (.int 40), none]) rfl ?_
        refine a_iconst K (dq 13 rfl) (v := 0) rfl ?_
        refine a_istore K (dq 14 rfl) (Nat.le_of_ble_eq_true rfl) (ls' := [some (.ref (ρ 1 0)), some (.ref (ρ 12 0)), some (.int a2), some (.int a3), some (.int 40), some (.int 0)]) rfl ?_
        exact s_X6_writeBehind_L27 S  (p_X6_writeBehind d) d ih  400 a2 a3 40 0 r1 r h K hX
      · have h := ite_t c4 h
        obtain rfl := Option.some.inj h
        exact a_vret K rfl (dq 10 rfl) (Nat.le_of_ble_eq_true rfl) (Nat.le_of_ble_eq_true rfl) rfl rfl
def t_X7_writesTree : List (Nat × Instr × Nat) := [(0, .aload_n 0, 1), (1, .iload_n 1, 1), (2, .invokevirtual 233, 3), (5, .aload_n 0, 1), (6, .iload_n 1, 1), (7, .invokevirtual 149, 3), (10, .ifCond .ne 4, 3), (13, .return_, 1), (14, .aload_n 0, 1), (15, .bipush 40, 2), (17, .invokevirtual 230, 3), (20, .iconst 1, 1), (21, .istore_n 2, 1), (22, .iconst 0, 1), (23, .istore_n 3, 1), (24, .iload_n 3, 1), (25, .aload_n 0, 1), (26, .getfield 7, 3), (29, .iconst 0, 1), (30, .iaload, 1), (31, .if_icmp .ge 53, 3), (34, .aload_n 0, 1), (35, .iload_n 3, 1), (36, .invokevirtual 69, 3), (39, .iload_n 1, 1), (40, .if_icmp .eq 6, 3), (43, .goto 35, 3), (46, .iload_n 2, 1), (47, .ifCond .ne 9, 3), (50, .aload_n 0, 1), (51, .bipush 32, 2), (53, .invokevirtual 230, 3), (56, .iconst 0, 1), (57, .istore_n 2, 1), (58, .aload_n 0, 1), (59, .iload_n 1, 1), (60, .invokevirtual 130, 3), (63, .iload_n 3, 1), (64, .if_icmp .ne 9, 3), (67, .aload_n 0, 1), (68, .bipush 33, 2), (70, .invokevirtual 230, 3), (73, .aload_n 0, 1), (74, .iload_n 3, 1), (75, .invokevirtual 236, 3), (78, .iinc 3 1, 3), (81, .goto (-57), 3), (84, .aload_n 0, 1), (85, .bipush 41, 2), (87, .invokevirtual 230, 3), (90, .return_, 1)]
theorem dt_X7_writesTree : tblOK cX7_writesTree t_X7_writesTree = true := by decide +kernel
def p_X7_writesTree_L24  (kr : Int32 → Sg → Option Sg) : Nat → Int32 → Int32 → Int32 → Sg → Option Sg
  | 0, _, _, _, _ => none
  | n + 1, v1, v2, v3, σ => if (gA σ 21 0 0) ≤ v3 then ((p_X7_writes 41 σ).bind fun r6 => some r6) else ((p_X7_parent v3 σ).bind fun r7 => if r7 = v1 then (if v2 = 0 then ((p_X7_writes 32 σ).bind fun r15 => (p_X7_prefers v1 r15).bind fun r16 => if r16 = v3 then ((p_X7_writes 33 r15).bind fun r19 => (kr v3 r19).bind fun r20 => p_X7_writesTree_L24 kr n v1 0 (v3 + 1) r20) else ((kr v3 r15).bind fun r18 => p_X7_writesTree_L24 kr n v1 0 (v3 + 1) r18)) else ((p_X7_prefers v1 σ).bind fun r10 => if r10 = v3 then ((p_X7_writes 33 σ).bind fun r13 => (kr v3 r13).bind fun r14 => p_X7_writesTree_L24 kr n v1 0 (v3 + 1) r14) else ((kr v3 σ).bind fun r12 => p_X7_writesTree_L24 kr n v1 0 (v3 + 1) r12))) else (p_X7_writesTree_L24 kr n v1 v2 (v3 + 1) σ))
def p_X7_writesTree : Nat → Int32 → Sg → Option Sg
  | 0, _, _ => none
  | d + 1, a1, σ => (p_X7_writesNumber a1 σ).bind fun r1 => (p_X7_children a1 r1).bind fun r2 => if r2 = 0 then (some r1) else ((p_X7_writes 40 r1).bind fun r4 => p_X7_writesTree_L24 (p_X7_writesTree d) 400 a1 1 0 r4)
set_option maxRecDepth 20000 in
set_option maxHeartbeats 1000000 in
theorem s_X7_writesTree_L24 {l : Launch} {D : va_G} {ty : Nat → ClassId} {ρ : Nat → Nat → Nat} {N0 : Nat} (S : St l ty ρ N0)   (kr : Int32 → Sg → Option Sg) (d : Nat) (hkr : ∀ (a1 : Int32) (σ r : Sg), kr a1 σ = some r → AMet l D ty ρ N0 yX7_writesTree (Cond.code yX7_writesTree cX7_writesTree 4 none :: GW) (rmk (2 + d) 0 0) [.ref (ρ 20 0), .int a1] σ (.inl none) r) : ∀ (n : Nat) (v1 : Int32) (v2 : Int32) (v3 : Int32) (σ : Sg) (r : Sg) (h : p_X7_writesTree_L24  kr n v1 v2 v3 σ = some r) {p : Program} {e : Env} {s : State} {m : MethodId} {args : Array Value} {below : List Frame} {meth : Method} {c : Code} (K : Cx p l s m args meth c cX7_writesTree 4 RX7 none D ty ρ N0) (hX : ∀ x ∈ c.exceptionTable.toList, False), WA p l e (rmk (2 + d + 1) 0 0) s m args below meth c D ty ρ N0 4 (vx_MQ below (oQ D ty ρ N0 (.inl none) r) (oX D ty ρ N0 (.inl none) r) args s 0 0 (fun q => N0 ≤ q)) 24 [some (.ref (ρ 20 0)), some (.int v1), some (.int v2), some (.int v3)] [] σ 0 0 := by
  intro n
  induction n with
  | zero =>
    intro v1 v2 v3 σ r h
    simp only [p_X7_writesTree_L24] at h
    cases h
  | succ n ih =>
    intro v1 v2 v3 σ r h p e s m args below meth c K hX
    have dq := @tat _ _ dt_X7_writesTree
    rw [p_X7_writesTree_L24] at h
    refine a_iload_n K (dq 15 rfl) rfl rfl ?_
    refine a_aload_n K (dq 16 rfl) rfl rfl ?_
    refine a_get K (T := 20) (i := 0) (k := 0) (v := .ref (ρ 21 0)) v_20 rfl rfl in_X7 (Nat.le_of_ble_eq_true rfl) fl_X7_7 rfl (dq 17 rfl) ?_
    refine a_iconst K (dq 18 rfl) (v := 0) rfl ?_
    refine a_ialdK K (T := 21) (i := 0) (nj := 0) v_21 rfl rfl (ib_in rfl) rfl (dq 19 rfl) ?_
    refine a_icmp_ge K (tgt := 84) (dq 20 rfl) rfl (fun c5 => ?_) (fun c5 => ?_)
    · have h := ite_t c5 h
      refine a_aload_n K (dq 47 rfl) rfl rfl ?_
      refine a_bipush K (dq 48 rfl) (v := 41) rfl ?_
      obtain ⟨r6, h6, h⟩ := bnd h
      refine a_callVv K (s_X7_writes S 41  σ r6 h6) v_20 rfl rfl cw_X7_writes ml_X7_230 (by constructor <;> (simp only [rmk]; omega)) rfl (rest := []) rfl (Nat.le_of_ble_eq_true rfl) (dq 49 rfl) ⟨Nat.le_refl 0, Nat.le_refl 0⟩ ?_
      obtain rfl := Option.some.inj h
      exact a_vret K rfl (dq 50 rfl) (Nat.le_of_ble_eq_true rfl) (Nat.le_of_ble_eq_true rfl) rfl rfl
    · have h := ite_f c5 h
      refine a_aload_n K (dq 21 rfl) rfl rfl ?_
      refine a_iload_n K (dq 22 rfl) rfl rfl ?_
      obtain ⟨r7, h7, h⟩ := bnd h
      refine a_callVi K (s_X7_parent S v3  σ r7 h7) v_20 rfl rfl cw_X7_parent ml_X7_69 (by constructor <;> (simp only [rmk]; omega)) rfl (rest := []) rfl (Nat.le_of_ble_eq_true rfl) (dq 23 rfl) ⟨Nat.le_refl 0, Nat.le_refl 0⟩ ?_
      refine a_iload_n K (dq 24 rfl) rfl rfl ?_
      refine a_icmp_eq K (tgt := 46) (dq 25 rfl) rfl (fun c8 => ?_) (fun c8 => ?_)
      · have h := ite_t c8 h
        refine a_iload_n K (dq 27 rfl) rfl rfl ?_
        refine a_if_ne K (tgt := 56) (dq 28 rfl) rfl (fun c9 => ?_) (fun c9 => ?_)
        · have h := ite_f c9 h
          refine a_iconst K (dq 32 rfl) (v := 0) rfl ?_
          refine a_istore_n K (dq 33 rfl) rfl (Nat.le_of_ble_eq_true rfl) (ls' := [some (.ref (ρ 20 0)), some (.int v1), some (.int 0), some (.int v3)]) rfl ?_
          refine a_aload_n K (dq 34 rfl) rfl rfl ?_
          refine a_iload_n K (dq 35 rfl) rfl rfl ?_
          obtain ⟨r10, h10, h⟩ := bnd h
          refine a_callVi K (s_X7_prefers S v1  σ r10 h10) v_20 rfl rfl cw_X7_prefers ml_X7_130 (by constructor <;> (simp only [rmk]; omega)) rfl (rest := []) rfl (Nat.le_of_ble_eq_true rfl) (dq 36 rfl) ⟨Nat.le_refl 0, Nat.le_refl 0⟩ ?_
          refine a_iload_n K (dq 37 rfl) rfl rfl ?_
          refine a_icmp_ne K (tgt := 73) (dq 38 rfl) rfl (fun c11 => ?_) (fun c11 => ?_)
          · have h := ite_f c11 h
            refine a_aload_n K (dq 42 rfl) rfl rfl ?_
            refine a_iload_n K (dq 43 rfl) rfl rfl ?_
            obtain ⟨r12, h12, h⟩ := bnd h
            refine a_callVv K (hkr v3 σ r12 h12) v_20 rfl rfl cw_X7_writesTree ml_X7_236 (by constructor <;> (simp only [rmk]; omega)) rfl (rest := []) rfl (Nat.le_of_ble_eq_true rfl) (dq 44 rfl) ⟨Nat.le_refl 0, Nat.le_refl 0⟩ ?_
            refine a_iinc K (dq 45 rfl) rfl (v := (v3 + 1)) rfl (Nat.le_of_ble_eq_true rfl) (ls' := [some (.ref (ρ 20 0)), some (.int v1), some (.int 0), some (.int (v3 + 1))]) rfl ?_
            refine a_goto K (tgt := 24) (dq 46 rfl) rfl ?_
            exact ih v1 0 (v3 + 1) r12 r h K hX
          · have h := ite_t c11 h
            refine a_aload_n K (dq 39 rfl) rfl rfl ?_
            refine a_bipush K (dq 40 rfl) (v := 33) rfl ?_
            obtain ⟨r13, h13, h⟩ := bnd h
            refine a_callVv K (s_X7_writes S 33  σ r13 h13) v_20 rfl rfl cw_X7_writes ml_X7_230 (by constructor <;> (simp only [rmk]; omega)) rfl (rest := []) rfl (Nat.le_of_ble_eq_true rfl) (dq 41 rfl) ⟨Nat.le_refl 0, Nat.le_refl 0⟩ ?_
            refine a_aload_n K (dq 42 rfl) rfl rfl ?_
            refine a_iload_n K (dq 43 rfl) rfl rfl ?_
            obtain ⟨r14, h14, h⟩ := bnd h
            refine a_callVv K (hkr v3 r13 r14 h14) v_20 rfl rfl cw_X7_writesTree ml_X7_236 (by constructor <;> (simp only [rmk]; omega)) rfl (rest := []) rfl (Nat.le_of_ble_eq_true rfl) (dq 44 rfl) ⟨Nat.le_refl 0, Nat.le_refl 0⟩ ?_
            refine a_iinc K (dq 45 rfl) rfl (v := (v3 + 1)) rfl (Nat.le_of_ble_eq_true rfl) (ls' := [some (.ref (ρ 20 0)), some (.int v1), some (.int 0), some (.int (v3 + 1))]) rfl ?_
            refine a_goto K (tgt := 24) (dq 46 rfl) rfl ?_
            exact ih v1 0 (v3 + 1) r14 r h K hX
        · have h := ite_t c9 h
          refine a_aload_n K (dq 29 rfl) rfl rfl ?_
          refine a_bipush K (dq 30 rfl) (v := 32) rfl ?_
          obtain ⟨r15, h15, h⟩ := bnd h
          refine a_callVv K (s_X7_writes S 32  σ r15 h15) v_20 rfl rfl cw_X7_writes ml_X7_230 (by constructor <;> (simp only [rmk]; omega)) rfl (rest := []) rfl (Nat.le_of_ble_eq_true rfl) (dq 31 rfl) ⟨Nat.le_refl 0, Nat.le_refl 0⟩ ?_
          refine a_iconst K (dq 32 rfl) (v := 0) rfl ?_
          refine a_istore_n K (dq 33 rfl) rfl (Nat.le_of_ble_eq_true rfl) (ls' := [some (.ref (ρ 20 0)), some (.int v1), some (.int 0), some (.int v3)]) rfl ?_
          refine a_aload_n K (dq 34 rfl) rfl rfl ?_
          refine a_iload_n K (dq 35 rfl) rfl rfl ?_
          obtain ⟨r16, h16, h⟩ := bnd h
          refine a_callVi K (s_X7_prefers S v1  r15 r16 h16) v_20 rfl rfl cw_X7_prefers ml_X7_130 (by constructor <;> (simp only [rmk]; omega)) rfl (rest := []) rfl (Nat.le_of_ble_eq_true rfl) (dq 36 rfl) ⟨Nat.le_refl 0, Nat.le_refl 0⟩ ?_
          refine a_iload_n K (dq 37 rfl) rfl rfl ?_
          refine a_icmp_ne K (tgt := 73) (dq 38 rfl) rfl (fun c17 => ?_) (fun c17 => ?_)
          · have h := ite_f c17 h
            refine a_aload_n K (dq 42 rfl) rfl rfl ?_
            refine a_iload_n K (dq 43 rfl) rfl rfl ?_
            obtain ⟨r18, h18, h⟩ := bnd h
            refine a_callVv K (hkr v3 r15 r18 h18) v_20 rfl rfl cw_X7_writesTree ml_X7_236 (by constructor <;> (simp only [rmk]; omega)) rfl (rest := []) rfl (Nat.le_of_ble_eq_true rfl) (dq 44 rfl) ⟨Nat.le_refl 0, Nat.le_refl 0⟩ ?_
            refine a_iinc K (dq 45 rfl) rfl (v := (v3 + 1)) rfl (Nat.le_of_ble_eq_true rfl) (ls' := [some (.ref (ρ 20 0)), some (.int v1), some (.int 0), some (.int (v3 + 1))]) rfl ?_
            refine a_goto K (tgt := 24) (dq 46 rfl) rfl ?_
            exact ih v1 0 (v3 + 1) r18 r h K hX
          · have h := ite_t c17 h
            refine a_aload_n K (dq 39 rfl) rfl rfl ?_
            refine a_bipush K (dq 40 rfl) (v := 33) rfl ?_
            obtain ⟨r19, h19, h⟩ := bnd h
            refine a_callVv K (s_X7_writes S 33  r15 r19 h19) v_20 rfl rfl cw_X7_writes ml_X7_230 (by constructor <;> (simp only [rmk]; omega)) rfl (rest := []) rfl (Nat.le_of_ble_eq_true rfl) (dq 41 rfl) ⟨Nat.le_refl 0, Nat.le_refl 0⟩ ?_
            refine a_aload_n K (dq 42 rfl) rfl rfl ?_
            refine a_iload_n K (dq 43 rfl) rfl rfl ?_
            obtain ⟨r20, h20, h⟩ := bnd h
            refine a_callVv K (hkr v3 r19 r20 h20) v_20 rfl rfl cw_X7_writesTree ml_X7_236 (by constructor <;> (simp only [rmk]; omega)) rfl (rest := []) rfl (Nat.le_of_ble_eq_true rfl) (dq 44 rfl) ⟨Nat.le_refl 0, Nat.le_refl 0⟩ ?_
            refine a_iinc K (dq 45 rfl) rfl (v := (v3 + 1)) rfl (Nat.le_of_ble_eq_true rfl) (ls' := [some (.ref (ρ 20 0)), some (.int v1), some (.int 0), some (.int (v3 + 1))]) rfl ?_
            refine a_goto K (tgt := 24) (dq 46 rfl) rfl ?_
            exact ih v1 0 (v3 + 1) r20 r h K hX
      · have h := ite_f c8 h
        refine a_goto K (tgt := 78) (dq 26 rfl) rfl ?_
        refine a_iinc K (dq 45 rfl) rfl (v := (v3 + 1)) rfl (Nat.le_of_ble_eq_true rfl) (ls' := [some (.ref (ρ 20 0)), some (.int v1), some (.int v2), some (.int (v3 + 1))]) rfl ?_
        refine a_goto K (tgt := 24) (dq 46 rfl) rfl ?_
        exact ih v1 v2 (v3 + 1) σ r h K hX
set_option maxRecDepth 20000 in
set_option maxHeartbeats 1000000 in
theorem s_X7_writesTree {l : Launch} {D : va_G} {ty : Nat → ClassId} {ρ : Nat → Nat → Nat} {N0 : Nat} (S : St l ty ρ N0) : ∀ (d : Nat) (a1 : Int32) (σ r : Sg) (h : p_X7_writesTree d a1 σ = some r), AMet l D ty ρ N0 yX7_writesTree (Cond.code yX7_writesTree cX7_writesTree 4 none :: GW) (rmk (2 + d) 0 0) [.ref (ρ 20 0), .int a1] σ (.inl none) r := by
  intro d
  induction d with
  | zero =>
    intro a1 σ r h
    simp only [p_X7_writesTree] at h
    cases h
  | succ d ih =>
    intro a1 σ r h
    refine am_enter S (by decide) rfl rfl (Nat.le_of_ble_eq_true rfl) ?_
    intro p e s m args below meth c K hX
    have dq := @tat _ _ dt_X7_writesTree
    rw [p_X7_writesTree] at h
    show WA p l e (rmk (2 + d + 1) 0 0) s m args below meth c D ty ρ N0 4 _ 0 [some (.ref (ρ 20 0)), some (.int a1), none, none] [] σ 0 0
    refine a_aload_n K (dq 0 rfl) rfl rfl ?_
    refine a_iload_n K (dq 1 rfl) rfl rfl ?_
    obtain ⟨r1, h1, h⟩ := bnd h
    refine a_callVv K (s_X7_writesNumber S a1  σ r1 h1) v_20 rfl rfl cw_X7_writesNumber ml_X7_233 (by constructor <;> (simp only [rmk]; omega)) rfl (rest := []) rfl (Nat.le_of_ble_eq_true rfl) (dq 2 rfl) ⟨Nat.le_refl 0, Nat.le_refl 0⟩ ?_
    refine a_aload_n K (dq 3 rfl) rfl rfl ?_
    refine a_iload_n K (dq 4 rfl) rfl rfl ?_
    obtain ⟨r2, h2, h⟩ := bnd h
    refine a_callVi K (s_X7_children S a1  r1 r2 h2) v_20 rfl rfl cw_X7_children ml_X7_149 (by constructor <;> (simp only [rmk]; omega)) rfl (rest := []) rfl (Nat.le_of_ble_eq_true rfl) (dq 5 rfl) ⟨Nat.le_refl 0, Nat.le_refl 0⟩ ?_
    refine a_if_ne K (tgt := 14) (dq 6 rfl) rfl (fun c3 => ?_) (fun c3 => ?_)
    · have h := ite_f c3 h
      refine a_aload_n K (dq 8 rfl) rfl rfl ?_
      refine a_bipush K (dq 9 rfl) (v := 40) rfl ?_
      obtain ⟨r4, h4, h⟩ := bnd h
      refine a_callVv K (s_X7_writes S 40  r1 r4 h4) v_20 rfl rfl cw_X7_writes ml_X7_230 (by constructor <;> (simp only [rmk]; omega)) rfl (rest := []) rfl (Nat.le_of_ble_eq_true rfl) (dq 10 rfl) ⟨Nat.le_refl 0, Nat.le_refl 0⟩ ?_
      refine a_iconst K (dq 11 rfl) (v := 1) rfl ?_
      refine a_istore_n K (dq 12 rfl) rfl (Nat.le_of_ble_eq_true rfl) (ls' := [some (.ref (ρ 20 0)), some (.int a1), some (.int 1), none]) rfl ?_
      refine a_iconst K (dq 13 rfl) (v := 0) rfl ?_
      refine a_istore_n K (dq 14 rfl) rfl (Nat.le_of_ble_eq_true rfl) (ls' := [some (.ref (ρ 20 0)), some (.int a1), some (.int 1), some (.int 0)]) rfl ?_
      exact s_X7_writesTree_L24 S  (p_X7_writesTree d) d ih  400 a1 1 0 r4 r h K hX
    · have h := ite_t c3 h
      obtain rfl := Option.some.inj h
      exact a_vret K rfl (dq 7 rfl) (Nat.le_of_ble_eq_true rfl) (Nat.le_of_ble_eq_true rfl) rfl rfl
def t_X6_tree : List (Nat × Instr × Nat) := [(0, .aload_n 0, 1), (1, .iload_n 1, 1), (2, .invokevirtual 69, 3), (5, .aload_n 0, 1), (6, .getfield 50, 3), (9, .invokevirtual 235, 3), (12, .aload_n 0, 1), (13, .getfield 10, 3), (16, .aload_n 0, 1), (17, .getfield 50, 3), (20, .iload_n 1, 1), (21, .iconst 0, 1), (22, .invokestatic 243, 3), (25, .aload_n 0, 1), (26, .getfield 50, 3), (29, .invokevirtual 242, 3), (32, .ireturn, 1)]
theorem dt_X6_tree : tblOK cX6_tree t_X6_tree = true := by decide +kernel
def p_X6_tree (a1 : Int32) (σ : Sg) : Option ((Int32 ⊕ String) × Sg) :=
  (p_X6_requireFarm a1 σ).bind fun r1 => sm r1.1 (fun x2 => (p_X2_clear  r1.2).bind fun r4 => (p_X6_writeBehind 20 a1 0 r4).bind fun r5 => (p_X2_length  r5).bind fun r6 => some (.inl r6, r5)) (fun E3 => some (.inr E3, r1.2))
set_option maxRecDepth 20000 in
set_option maxHeartbeats 1000000 in
theorem s_X6_tree {l : Launch} {D : va_G} {ty : Nat → ClassId} {ρ : Nat → Nat → Nat} {N0 : Nat} (S : St l ty ρ N0) (a1 : Int32)  (σ : Sg) (r : ((Int32 ⊕ String) × Sg)) (h : p_X6_tree a1 σ = some r) : AMet l D ty ρ N0 yX6_tree (Cond.code yX6_tree cX6_tree 2 (some .int) :: GW) (rmk 23 1 6) [.ref (ρ 0 0), .int a1] σ (oT r.1) r.2 := by
  refine am_enter S (by decide) rfl rfl (Nat.le_of_ble_eq_true rfl) ?_
  intro p e s m args below meth c K hX
  have dq := @tat _ _ dt_X6_tree
  unfold p_X6_tree at h
  show WA p l e _ s m args below meth c D ty ρ N0 2 _ 0 [some (.ref (ρ 0 0)), some (.int a1)] [] σ 0 0
  refine a_aload_n K (dq 0 rfl) rfl rfl ?_
  refine a_iload_n K (dq 1 rfl) rfl rfl ?_
  obtain ⟨r1, h1, h⟩ := bnd h
  refine a_callVvt K (s_X6_requireFarm S a1  σ r1 h1) v_0 rfl rfl cw_X6_requireFarm ml_X6_69 (by decide) rfl (rest := []) rfl (Nat.le_of_ble_eq_true rfl) (dq 2 rfl) (by decide) (fun x2 hx2 => ?_) (fun E3 hE3 => ?_)
  · have h := sm_l hx2 h
    refine a_aload_n K (dq 3 rfl) rfl rfl ?_
    refine a_get K (T := 0) (i := 0) (k := 8) (v := .ref (ρ 12 0)) v_0 rfl rfl in_X6 (Nat.le_of_ble_eq_true rfl) fl_X6_50 rfl (dq 4 rfl) ?_
    obtain ⟨r4, h4, h⟩ := bnd h
    refine a_callVv K (s_X2_clear S   r1.2 r4 h4) v_12 rfl rfl cw_X2_clear ml_X6_235 (by decide) rfl (rest := []) rfl (Nat.le_of_ble_eq_true rfl) (dq 5 rfl) (by decide) ?_
    refine a_aload_n K (dq 6 rfl) rfl rfl ?_
    refine a_get K (T := 0) (i := 0) (k := 0) (v := .ref (ρ 1 0)) v_0 rfl rfl in_X6 (Nat.le_of_ble_eq_true rfl) fl_X6_10 rfl (dq 7 rfl) ?_
    refine a_aload_n K (dq 8 rfl) rfl rfl ?_
    refine a_get K (T := 0) (i := 0) (k := 8) (v := .ref (ρ 12 0)) v_0 rfl rfl in_X6 (Nat.le_of_ble_eq_true rfl) fl_X6_50 rfl (dq 9 rfl) ?_
    refine a_iload_n K (dq 10 rfl) rfl rfl ?_
    refine a_iconst K (dq 11 rfl) (v := 0) rfl ?_
    obtain ⟨r5, h5, h⟩ := bnd h
    refine a_callSv K (s_X6_writeBehind S 20 a1 0  r4 r5 h5) cw_X6_writeBehind ml_X6_243 (by decide) rfl (rest := []) rfl (Nat.le_of_ble_eq_true rfl) (dq 12 rfl) (by decide) ?_
    refine a_aload_n K (dq 13 rfl) rfl rfl ?_
    refine a_get K (T := 0) (i := 0) (k := 8) (v := .ref (ρ 12 0)) v_0 rfl rfl in_X6 (Nat.le_of_ble_eq_true rfl) fl_X6_50 rfl (dq 14 rfl) ?_
    obtain ⟨r6, h6, h⟩ := bnd h
    refine a_callVi K (s_X2_length S   r5 r6 h6) v_12 rfl rfl cw_X2_length ml_X6_242 (by decide) rfl (rest := []) rfl (Nat.le_of_ble_eq_true rfl) (dq 15 rfl) (by decide) ?_
    obtain rfl := Option.some.inj h
    exact a_iret K rfl rfl (dq 16 rfl) (Nat.le_of_ble_eq_true rfl) (Nat.le_of_ble_eq_true rfl) rfl rfl
  · have h := sm_r hE3 h
    obtain rfl := Option.some.inj h
    exact a_out K hX (Nat.le_of_ble_eq_true rfl) (Nat.le_of_ble_eq_true rfl) rfl rfl
def t_X7_tree : List (Nat × Instr × Nat) := [(0, .aload_n 0, 1), (1, .aload_n 0, 1), (2, .iload_n 1, 1), (3, .invokevirtual 103, 3), (6, .ifCond .eq 7, 3), (9, .iconst 0, 1), (10, .goto 4, 3), (13, .iconst 1, 1), (14, .invokevirtual 146, 3), (17, .ifCond .eq 5, 3), (20, .iconst 0, 1), (21, .ireturn, 1), (22, .aload_n 0, 1), (23, .iconst 0, 1), (24, .putfield 227, 3), (27, .aload_n 0, 1), (28, .iload_n 1, 1), (29, .invokevirtual 236, 3), (32, .aload_n 0, 1), (33, .getfield 227, 3), (36, .ireturn, 1)]
theorem dt_X7_tree : tblOK cX7_tree t_X7_tree = true := by decide +kernel
def p_X7_tree (a1 : Int32) (σ : Sg) : Option (Int32 × Sg) :=
  (p_X7_isFarm a1 σ).bind fun r1 => if r1 = 0 then ((p_X7_fails 1 σ).bind fun r3 => if r3.1 = 0 then ((p_X7_writesTree 20 a1 (sI r3.2 20 0 16 0)).bind fun r5 => some ((gI r5 20 0 16), r5)) else (some (0, r3.2))) else ((p_X7_fails 0 σ).bind fun r6 => if r6.1 = 0 then ((p_X7_writesTree 20 a1 (sI r6.2 20 0 16 0)).bind fun r8 => some ((gI r8 20 0 16), r8)) else (some (0, r6.2)))
set_option maxRecDepth 20000 in
set_option maxHeartbeats 1000000 in
theorem s_X7_tree {l : Launch} {D : va_G} {ty : Nat → ClassId} {ρ : Nat → Nat → Nat} {N0 : Nat} (S : St l ty ρ N0) (a1 : Int32)  (σ : Sg) (r : (Int32 × Sg)) (h : p_X7_tree a1 σ = some r) : AMet l D ty ρ N0 yX7_tree (Cond.code yX7_tree cX7_tree 2 (some .int) :: GW) (rmk 23 0 0) [.ref (ρ 20 0), .int a1] σ (oI r.1) r.2 := by
  refine am_enter S (by decide) rfl rfl (Nat.le_of_ble_eq_true rfl) ?_
  intro p e s m args below meth c K hX
  have dq := @tat _ _ dt_X7_tree
  unfold p_X7_tree at h
  show WA p l e _ s m args below meth c D ty ρ N0 2 _ 0 [some (.ref (ρ 20 0)), some (.int a1)] [] σ 0 0
  refine a_aload_n K (dq 0 rfl) rfl rfl ?_
  refine a_aload_n K (dq 1 rfl) rfl rfl ?_
  refine a_iload_n K (dq 2 rfl) rfl rfl ?_
  obtain ⟨r1, h1, h⟩ := bnd h
  refine a_callVi K (s_X7_isFarm S a1  σ r1 h1) v_20 rfl rfl cw_X7_isFarm ml_X7_103 (by decide) rfl (rest := [.ref (ρ 20 0)]) rfl (Nat.le_of_ble_eq_true rfl) (dq 3 rfl) (by decide) ?_
  refine a_if_eq K (tgt := 13) (dq 4 rfl) rfl (fun c2 => ?_) (fun c2 => ?_)
  · have h := ite_t c2 h
    refine a_iconst K (dq 7 rfl) (v := 1) rfl ?_
    obtain ⟨r3, h3, h⟩ := bnd h
    refine a_callVi K (s_X7_fails S 1  σ r3 h3) v_20 rfl rfl cw_X7_fails ml_X7_146 (by decide) rfl (rest := []) rfl (Nat.le_of_ble_eq_true rfl) (dq 8 rfl) (by decide) ?_
    refine a_if_eq K (tgt := 22) (dq 9 rfl) rfl (fun c4 => ?_) (fun c4 => ?_)
    · have h := ite_t c4 h
      refine a_aload_n K (dq 12 rfl) rfl rfl ?_
      refine a_iconst K (dq 13 rfl) (v := 0) rfl ?_
      refine a_put K (T := 20) (i := 0) (k := 16) v_20 rfl rfl in_X7 tyX7 tyX7_ok nmX7 (Nat.le_of_ble_eq_true rfl) fl_X7_227 rfl rfl (tyX7_ok 16 (by decide)) rfl rfl (dq 14 rfl) ?_
      refine a_aload_n K (dq 15 rfl) rfl rfl ?_
      refine a_iload_n K (dq 16 rfl) rfl rfl ?_
      obtain ⟨r5, h5, h⟩ := bnd h
      refine a_callVv K (s_X7_writesTree S 20 a1  (sI r3.2 20 0 16 0) r5 h5) v_20 rfl rfl cw_X7_writesTree ml_X7_236 (by decide) rfl (rest := []) rfl (Nat.le_of_ble_eq_true rfl) (dq 17 rfl) (by decide) ?_
      refine a_aload_n K (dq 18 rfl) rfl rfl ?_
      refine a_get K (T := 20) (i := 0) (k := 16) (v := .int (gI r5 20 0 16)) v_20 rfl rfl in_X7 (Nat.le_of_ble_eq_true rfl) fl_X7_227 rfl (dq 19 rfl) ?_
      obtain rfl := Option.some.inj h
      exact a_iret K rfl rfl (dq 20 rfl) (Nat.le_of_ble_eq_true rfl) (Nat.le_of_ble_eq_true rfl) rfl rfl
    · have h := ite_f c4 h
      refine a_iconst K (dq 10 rfl) (v := 0) rfl ?_
      obtain rfl := Option.some.inj h
      exact a_iret K rfl rfl (dq 11 rfl) (Nat.le_of_ble_eq_true rfl) (Nat.le_of_ble_eq_true rfl) rfl rfl
  · have h := ite_f c2 h
    refine a_iconst K (dq 5 rfl) (v := 0) rfl ?_
    refine a_goto K (tgt := 14) (dq 6 rfl) rfl ?_
    obtain ⟨r6, h6, h⟩ := bnd h
    refine a_callVi K (s_X7_fails S 0  σ r6 h6) v_20 rfl rfl cw_X7_fails ml_X7_146 (by decide) rfl (rest := []) rfl (Nat.le_of_ble_eq_true rfl) (dq 8 rfl) (by decide) ?_
    refine a_if_eq K (tgt := 22) (dq 9 rfl) rfl (fun c7 => ?_) (fun c7 => ?_)
    · have h := ite_t c7 h
      refine a_aload_n K (dq 12 rfl) rfl rfl ?_
      refine a_iconst K (dq 13 rfl) (v := 0) rfl ?_
      refine a_put K (T := 20) (i := 0) (k := 16) v_20 rfl rfl in_X7 tyX7 tyX7_ok nmX7 (Nat.le_of_ble_eq_true rfl) fl_X7_227 rfl rfl (tyX7_ok 16 (by decide)) rfl rfl (dq 14 rfl) ?_
      refine a_aload_n K (dq 15 rfl) rfl rfl ?_
      refine a_iload_n K (dq 16 rfl) rfl rfl ?_
      obtain ⟨r8, h8, h⟩ := bnd h
      refine a_callVv K (s_X7_writesTree S 20 a1  (sI r6.2 20 0 16 0) r8 h8) v_20 rfl rfl cw_X7_writesTree ml_X7_236 (by decide) rfl (rest := []) rfl (Nat.le_of_ble_eq_true rfl) (dq 17 rfl) (by decide) ?_
      refine a_aload_n K (dq 18 rfl) rfl rfl ?_
      refine a_get K (T := 20) (i := 0) (k := 16) (v := .int (gI r8 20 0 16)) v_20 rfl rfl in_X7 (Nat.le_of_ble_eq_true rfl) fl_X7_227 rfl (dq 19 rfl) ?_
      obtain rfl := Option.some.inj h
      exact a_iret K rfl rfl (dq 20 rfl) (Nat.le_of_ble_eq_true rfl) (Nat.le_of_ble_eq_true rfl) rfl rfl
    · have h := ite_f c7 h
      refine a_iconst K (dq 10 rfl) (v := 0) rfl ?_
      obtain rfl := Option.some.inj h
      exact a_iret K rfl rfl (dq 11 rfl) (Nat.le_of_ble_eq_true rfl) (Nat.le_of_ble_eq_true rfl) rfl rfl
def t_X7_meanToll : List (Nat × Instr × Nat) := [(0, .aload_n 0, 1), (1, .aload_n 0, 1), (2, .getfield 7, 3), (5, .iconst 0, 1), (6, .iaload, 1), (7, .ifCond .ne 7, 3), (10, .iconst 1, 1), (11, .goto 4, 3), (14, .iconst 0, 1), (15, .invokevirtual 146, 3), (18, .ifCond .eq 7, 3), (21, .iconst 0, 1), (22, .goto 19, 3), (25, .aload_n 0, 1), (26, .invokevirtual 239, 3), (29, .i2f, 1), (30, .aload_n 0, 1), (31, .getfield 7, 3), (34, .iconst 0, 1), (35, .iaload, 1), (36, .i2f, 1), (37, .fdiv, 1), (38, .invokestatic 242, 3), (41, .ireturn, 1)]
theorem dt_X7_meanToll : tblOK cX7_meanToll t_X7_meanToll = true := by decide +kernel
def p_X7_meanToll  (σ : Sg) : Option (Int32 × Sg) :=
  if (gA σ 21 0 0) = 0 then ((p_X7_fails 1 σ).bind fun r6 => if r6.1 = 0 then ((p_X7_tolls  r6.2).bind fun r8 => if nn32 (FP.fdiv (FP.i2f r8) (FP.i2f (gA r6.2 21 0 0))) then (some ((fbits (FP.fdiv (FP.i2f r8) (FP.i2f (gA r6.2 21 0 0)))), r6.2)) else none) else (some (0, r6.2))) else ((p_X7_fails 0 σ).bind fun r2 => if r2.1 = 0 then ((p_X7_tolls  r2.2).bind fun r4 => if nn32 (FP.fdiv (FP.i2f r4) (FP.i2f (gA r2.2 21 0 0))) then (some ((fbits (FP.fdiv (FP.i2f r4) (FP.i2f (gA r2.2 21 0 0)))), r2.2)) else none) else (some (0, r2.2)))
set_option maxRecDepth 20000 in
set_option maxHeartbeats 1000000 in
theorem s_X7_meanToll {l : Launch} {D : va_G} {ty : Nat → ClassId} {ρ : Nat → Nat → Nat} {N0 : Nat} (S : St l ty ρ N0)   (σ : Sg) (r : (Int32 × Sg)) (h : p_X7_meanToll  σ = some r) : AMet l D ty ρ N0 yX7_meanToll (Cond.code yX7_meanToll cX7_meanToll 1 (some .int) :: GW) (rmk 3 0 0) [.ref (ρ 20 0)] σ (oI r.1) r.2 := by
  refine am_enter S (by decide) rfl rfl (Nat.le_of_ble_eq_true rfl) ?_
  intro p e s m args below meth c K hX
  have dq := @tat _ _ dt_X7_meanToll
  unfold p_X7_meanToll at h
  show WA p l e _ s m args below meth c D ty ρ N0 1 _ 0 [some (.ref (ρ 20 0))] [] σ 0 0
  refine a_aload_n K (dq 0 rfl) rfl rfl ?_
  refine a_aload_n K (dq 1 rfl) rfl rfl ?_
  refine a_get K (T := 20) (i := 0) (k := 0) (v := .ref (ρ 21 0)) v_20 rfl rfl in_X7 (Nat.le_of_ble_eq_true rfl) fl_X7_7 rfl (dq 2 rfl) ?_
  refine a_iconst K (dq 3 rfl) (v := 0) rfl ?_
  refine a_ialdK K (T := 21) (i := 0) (nj := 0) v_21 rfl rfl (ib_in rfl) rfl (dq 4 rfl) ?_
  refine a_if_ne K (tgt := 14) (dq 5 rfl) rfl (fun c1 => ?_) (fun c1 => ?_)
  · have h := ite_f c1 h
    refine a_iconst K (dq 8 rfl) (v := 0) rfl ?_
    obtain ⟨r2, h2, h⟩ := bnd h
    refine a_callVi K (s_X7_fails S 0  σ r2 h2) v_20 rfl rfl cw_X7_fails ml_X7_146 (by decide) rfl (rest := []) rfl (Nat.le_of_ble_eq_true rfl) (dq 9 rfl) (by decide) ?_
    refine a_if_eq K (tgt := 25) (dq 10 rfl) rfl (fun c3 => ?_) (fun c3 => ?_)
    · have h := ite_t c3 h
      refine a_aload_n K (dq 13 rfl) rfl rfl ?_
      obtain ⟨r4, h4, h⟩ := bnd h
      refine a_callVi K (s_X7_tolls S   r2.2 r4 h4) v_20 rfl rfl cw_X7_tolls ml_X7_239 (by decide) rfl (rest := []) rfl (Nat.le_of_ble_eq_true rfl) (dq 14 rfl) (by decide) ?_
      refine a_i2f K (dq 15 rfl) ?_
      refine a_aload_n K (dq 16 rfl) rfl rfl ?_
      refine a_get K (T := 20) (i := 0) (k := 0) (v := .ref (ρ 21 0)) v_20 rfl rfl in_X7 (Nat.le_of_ble_eq_true rfl) fl_X7_7 rfl (dq 17 rfl) ?_
      refine a_iconst K (dq 18 rfl) (v := 0) rfl ?_
      refine a_ialdK K (T := 21) (i := 0) (nj := 0) v_21 rfl rfl (ib_in rfl) rfl (dq 19 rfl) ?_
      refine a_i2f K (dq 20 rfl) ?_
      obtain ⟨c5, h⟩ := nn32_some h
      refine a_fdiv K (dq 21 rfl) c5 ?_
      refine a_callSX K (s_Jfbits S (FP.fdiv (FP.i2f r4) (FP.i2f (gA r2.2 21 0 0))) r2.2) cw_J_fbits ml_X7_242 (by decide) rfl (rest := []) rfl (Nat.le_of_ble_eq_true rfl) (dq 22 rfl) (by decide) (fun ov ho => ?_) (fun E ho => by cases ho)
      cases ho
      obtain rfl := Option.some.inj h
      exact a_iret K rfl rfl (dq 23 rfl) (Nat.le_of_ble_eq_true rfl) (Nat.le_of_ble_eq_true rfl) rfl rfl
    · have h := ite_f c3 h
      refine a_iconst K (dq 11 rfl) (v := 0) rfl ?_
      refine a_goto K (tgt := 41) (dq 12 rfl) rfl ?_
      obtain rfl := Option.some.inj h
      exact a_iret K rfl rfl (dq 23 rfl) (Nat.le_of_ble_eq_true rfl) (Nat.le_of_ble_eq_true rfl) rfl rfl
  · have h := ite_t c1 h
    refine a_iconst K (dq 6 rfl) (v := 1) rfl ?_
    refine a_goto K (tgt := 15) (dq 7 rfl) rfl ?_
    obtain ⟨r6, h6, h⟩ := bnd h
    refine a_callVi K (s_X7_fails S 1  σ r6 h6) v_20 rfl rfl cw_X7_fails ml_X7_146 (by decide) rfl (rest := []) rfl (Nat.le_of_ble_eq_true rfl) (dq 9 rfl) (by decide) ?_
    refine a_if_eq K (tgt := 25) (dq 10 rfl) rfl (fun c7 => ?_) (fun c7 => ?_)
    · have h := ite_t c7 h
      refine a_aload_n K (dq 13 rfl) rfl rfl ?_
      obtain ⟨r8, h8, h⟩ := bnd h
      refine a_callVi K (s_X7_tolls S   r6.2 r8 h8) v_20 rfl rfl cw_X7_tolls ml_X7_239 (by decide) rfl (rest := []) rfl (Nat.le_of_ble_eq_true rfl) (dq 14 rfl) (by decide) ?_
      refine a_i2f K (dq 15 rfl) ?_
      refine a_aload_n K (dq 16 rfl) rfl rfl ?_
      refine a_get K (T := 20) (i := 0) (k := 0) (v := .ref (ρ 21 0)) v_20 rfl rfl in_X7 (Nat.le_of_ble_eq_true rfl) fl_X7_7 rfl (dq 17 rfl) ?_
      refine a_iconst K (dq 18 rfl) (v := 0) rfl ?_
      refine a_ialdK K (T := 21) (i := 0) (nj := 0) v_21 rfl rfl (ib_in rfl) rfl (dq 19 rfl) ?_
      refine a_i2f K (dq 20 rfl) ?_
      obtain ⟨c9, h⟩ := nn32_some h
      refine a_fdiv K (dq 21 rfl) c9 ?_
      refine a_callSX K (s_Jfbits S (FP.fdiv (FP.i2f r8) (FP.i2f (gA r6.2 21 0 0))) r6.2) cw_J_fbits ml_X7_242 (by decide) rfl (rest := []) rfl (Nat.le_of_ble_eq_true rfl) (dq 22 rfl) (by decide) (fun ov ho => ?_) (fun E ho => by cases ho)
      cases ho
      obtain rfl := Option.some.inj h
      exact a_iret K rfl rfl (dq 23 rfl) (Nat.le_of_ble_eq_true rfl) (Nat.le_of_ble_eq_true rfl) rfl rfl
    · have h := ite_f c7 h
      refine a_iconst K (dq 11 rfl) (v := 0) rfl ?_
      refine a_goto K (tgt := 41) (dq 12 rfl) rfl ?_
      obtain rfl := Option.some.inj h
      exact a_iret K rfl rfl (dq 23 rfl) (Nat.le_of_ble_eq_true rfl) (Nat.le_of_ble_eq_true rfl) rfl rfl
def t_X4_readCommand : List (Nat × Instr × Nat) := [(0, .aload_n 0, 1), (1, .aload_n 0, 1), (2, .invokevirtual 36, 3), (5, .putfield 26, 3), (8, .aload_n 0, 1), (9, .getfield 26, 3), (12, .invokestatic 43, 3), (15, .astore_n 1, 1), (16, .aload_n 1, 1), (17, .invokevirtual 47, 3), (20, .ifCond .eq 5, 3), (23, .iconst 0, 1), (24, .ireturn, 1), (25, .aload_n 0, 1), (26, .dup, 1), (27, .getfield 23, 3), (30, .iconst 1, 1), (31, .iadd, 1), (32, .putfield 23, 3), (35, .aload_n 0, 1), (36, .iconst 0, 1), (37, .putfield 52, 3), (40, .aload_n 0, 1), (41, .iconst 1, 1), (42, .putfield 55, 3), (45, .iconst 1, 1), (46, .istore_n 2, 1), (47, .iconst 0, 1), (48, .istore_n 3, 1), (49, .iload_n 3, 1), (50, .aload_n 1, 1), (51, .invokevirtual 58, 3), (54, .if_icmp .ge 23, 3), (57, .iload_n 2, 1), (58, .ifCond .eq 19, 3), (61, .aload_n 0, 1), (62, .aload_n 1, 1), (63, .iload_n 3, 1), (64, .invokevirtual 61, 3), (67, .invokevirtual 65, 3), (70, .istore_n 2, 1), (71, .iinc 3 1, 3), (74, .goto (-25), 3), (77, .iload_n 2, 1), (78, .ireturn, 1)]
theorem dt_X4_readCommand : tblOK cX4_readCommand t_X4_readCommand = true := by decide +kernel
def p_X4_readCommand_L49  : Nat → Nat → Int32 → Int32 → Sg → Option ((Int32 × Sg))
  | 0, _, _, _, _ => none
  | n + 1, v1, v2, v3, σ => if (shL v1) ≤ v3 then (some (nb v2, σ)) else (if v2 = 0 then (some (nb v2, σ)) else (if ib v3 (shLen.getD v1 0) then ((p_X4_readPart (shC v1 v3.toNatClampNeg) σ).bind fun r6 => p_X4_readCommand_L49 n v1 r6.1 (v3 + 1) r6.2) else none))
def p_X4_readCommand  (σ : Sg) : Option (Int32 × Sg) :=
  (p_X4_current  σ).bind fun r1 => if (shE (p_X4_shapeOf (gI (sI σ 9 0 3 r1) 9 0 3))) = 0 then (p_X4_readCommand_L49 400 (p_X4_shapeOf (gI (sI σ 9 0 3 r1) 9 0 3)) 1 0 (sI (sI (sI (sI σ 9 0 3 r1) 9 0 2 ((gI (sI σ 9 0 3 r1) 9 0 2) + 1)) 9 0 5 0) 9 0 6 1)) else (some (0, sI σ 9 0 3 r1))
set_option maxRecDepth 20000 in
set_option maxHeartbeats 1000000 in
theorem s_X4_readCommand_L49 {l : Launch} {D : va_G} {ty : Nat → ClassId} {ρ : Nat → Nat → Nat} {N0 : Nat} (S : St l ty ρ N0)   : ∀ (n : Nat) (v1 : Nat) (hs1 : v1 < 6) (v2 : Int32) (v3 : Int32) (σ : Sg) (r : (Int32 × Sg)) (h : p_X4_readCommand_L49  n v1 v2 v3 σ = some r) {p : Program} {e : Env} {s : State} {m : MethodId} {args : Array Value} {below : List Frame} {meth : Method} {c : Code} (K : Cx p l s m args meth c cX4_readCommand 4 RX4 (some .boolean) D ty ρ N0) (hX : ∀ x ∈ c.exceptionTable.toList, False), WA p l e (rmk 5 0 0) s m args below meth c D ty ρ N0 4 (vx_MQ below (oQ D ty ρ N0 (oI r.1) r.2) (oX D ty ρ N0 (oI r.1) r.2) args s 0 0 (fun q => N0 ≤ q)) 49 [some (.ref (ρ 9 0)), some (.ref (ρ 40 v1)), some (.int v2), some (.int v3)] [] σ 0 0 := by
  intro n
  induction n with
  | zero =>
    intro v1 hs1 v2 v3 σ r h
    simp only [p_X4_readCommand_L49] at h
    cases h
  | succ n ih =>
    intro v1 hs1 v2 v3 σ r h p e s m args below meth c K hX
    have dq := @tat _ _ dt_X4_readCommand
    rw [p_X4_readCommand_L49] at h
    refine a_iload_n K (dq 29 rfl) rfl rfl ?_
    refine a_aload_n K (dq 30 rfl) rfl rfl ?_
    refine a_callVR K (s_Jlength S hs1 σ) (recS K hs1) cw_J_length ml_X4_58 (by decide) rfl (rest := [.int v3]) rfl (Nat.le_of_ble_eq_true rfl) (dq 31 rfl) (by decide) (fun ov ho => ?_) (fun E ho => by cases ho)
    cases ho
    refine a_icmp_ge K (tgt := 77) (dq 32 rfl) rfl (fun c3 => ?_) (fun c3 => ?_)
    · have h := ite_t c3 h
      refine a_iload_n K (dq 43 rfl) rfl rfl ?_
      obtain rfl := Option.some.inj h
      exact a_iret K rfl rfl (dq 44 rfl) (Nat.le_of_ble_eq_true rfl) (Nat.le_of_ble_eq_true rfl) rfl rfl
    · have h := ite_f c3 h
      refine a_iload_n K (dq 33 rfl) rfl rfl ?_
      refine a_if_eq K (tgt := 77) (dq 34 rfl) rfl (fun c4 => ?_) (fun c4 => ?_)
      · have h := ite_t c4 h
        refine a_iload_n K (dq 43 rfl) rfl rfl ?_
        obtain rfl := Option.some.inj h
        exact a_iret K rfl rfl (dq 44 rfl) (Nat.le_of_ble_eq_true rfl) (Nat.le_of_ble_eq_true rfl) rfl rfl
      · have h := ite_f c4 h
        refine a_aload_n K (dq 35 rfl) rfl rfl ?_
        refine a_aload_n K (dq 36 rfl) rfl rfl ?_
        refine a_iload_n K (dq 37 rfl) rfl rfl ?_
        obtain ⟨c5, h⟩ := ib_some h
        refine a_callVR K (s_Jchar S hs1 c5 σ) (recS K hs1) cw_J_charAt ml_X4_61 (by decide) rfl (rest := [.ref (ρ 9 0)]) rfl (Nat.le_of_ble_eq_true rfl) (dq 38 rfl) (by decide) (fun ov ho => ?_) (fun E ho => by cases ho)
        cases ho
        obtain ⟨r6, h6, h⟩ := bnd h
        refine a_callVi K (s_X4_readPart S (shC v1 v3.toNatClampNeg)  σ r6 h6) v_9 rfl rfl cw_X4_readPart ml_X4_65 (by decide) rfl (rest := []) rfl (Nat.le_of_ble_eq_true rfl) (dq 39 rfl) (by decide) ?_
        refine a_istore_n K (dq 40 rfl) rfl (Nat.le_of_ble_eq_true rfl) (ls' := [some (.ref (ρ 9 0)), some (.ref (ρ 40 v1)), some (.int r6.1), some (.int v3)]) rfl ?_
        refine a_iinc K (dq 41 rfl) rfl (v := (v3 + 1)) rfl (Nat.le_of_ble_eq_true rfl) (ls' := [some (.ref (ρ 9 0)), some (.ref (ρ 40 v1)), some (.int r6.1), some (.int (v3 + 1))]) rfl ?_
        refine a_goto K (tgt := 49) (dq 42 rfl) rfl ?_
        exact ih v1 hs1 r6.1 (v3 + 1) r6.2 r h K hX
set_option maxRecDepth 20000 in
set_option maxHeartbeats 1000000 in
theorem s_X4_readCommand {l : Launch} {D : va_G} {ty : Nat → ClassId} {ρ : Nat → Nat → Nat} {N0 : Nat} (S : St l ty ρ N0)   (σ : Sg) (r : (Int32 × Sg)) (h : p_X4_readCommand  σ = some r) : AMet l D ty ρ N0 yX4_readCommand (Cond.code yX4_readCommand cX4_readCommand 4 (some .boolean) :: GW) (rmk 5 0 0) [.ref (ρ 9 0)] σ (oI r.1) r.2 := by
  refine am_enter S (by decide) rfl rfl (Nat.le_of_ble_eq_true rfl) ?_
  intro p e s m args below meth c K hX
  have dq := @tat _ _ dt_X4_readCommand
  unfold p_X4_readCommand at h
  show WA p l e _ s m args below meth c D ty ρ N0 4 _ 0 [some (.ref (ρ 9 0)), none, none, none] [] σ 0 0
  refine a_aload_n K (dq 0 rfl) rfl rfl ?_
  refine a_aload_n K (dq 1 rfl) rfl rfl ?_
  obtain ⟨r1, h1, h⟩ := bnd h
  refine a_callVi K (s_X4_current S   σ r1 h1) v_9 rfl rfl cw_X4_current ml_X4_36 (by decide) rfl (rest := [.ref (ρ 9 0)]) rfl (Nat.le_of_ble_eq_true rfl) (dq 2 rfl) (by decide) ?_
  refine a_put K (T := 9) (i := 0) (k := 3) v_9 rfl rfl in_X4 tyX4 tyX4_ok nmX4 (Nat.le_of_ble_eq_true rfl) fl_X4_26 rfl rfl (tyX4_ok 3 (by decide)) rfl rfl (dq 3 rfl) ?_
  refine a_aload_n K (dq 4 rfl) rfl rfl ?_
  refine a_get K (T := 9) (i := 0) (k := 3) (v := .int (gI (sI σ 9 0 3 r1) 9 0 3)) v_9 rfl rfl in_X4 (Nat.le_of_ble_eq_true rfl) fl_X4_26 rfl (dq 5 rfl) ?_
  refine a_callSX K (s_X4_shapeOf S (gI (sI σ 9 0 3 r1) 9 0 3) (sI σ 9 0 3 r1)) cw_X4_shapeOf ml_X4_43 (by decide) rfl (rest := []) rfl (Nat.le_of_ble_eq_true rfl) (dq 6 rfl) (by decide) (fun ov ho => ?_) (fun E ho => by cases ho)
  cases ho
  refine a_astore_n K (dq 7 rfl) rfl (Nat.le_of_ble_eq_true rfl) (ls' := [some (.ref (ρ 9 0)), some (.ref (ρ 40 (p_X4_shapeOf (gI (sI σ 9 0 3 r1) 9 0 3)))), none, none]) rfl ?_
  refine a_aload_n K (dq 8 rfl) rfl rfl ?_
  refine a_callVR K (s_Jempty S (shape_lt (gI (sI σ 9 0 3 r1) 9 0 3)) (sI σ 9 0 3 r1)) (recS K (shape_lt (gI (sI σ 9 0 3 r1) 9 0 3))) cw_J_isEmpty ml_X4_47 (by decide) rfl (rest := []) rfl (Nat.le_of_ble_eq_true rfl) (dq 9 rfl) (by decide) (fun ov ho => ?_) (fun E ho => by cases ho)
  cases ho
  refine a_if_eq K (tgt := 25) (dq 10 rfl) rfl (fun c2 => ?_) (fun c2 => ?_)
  · have h := ite_t c2 h
    refine a_aload_n K (dq 13 rfl) rfl rfl ?_
    refine a_dup K (dq 14 rfl) rfl ?_
    refine a_get K (T := 9) (i := 0) (k := 2) (v := .int (gI (sI σ 9 0 3 r1) 9 0 2)) v_9 rfl rfl in_X4 (Nat.le_of_ble_eq_true rfl) fl_X4_23 rfl (dq 15 rfl) ?_
    refine a_iconst K (dq 16 rfl) (v := 1) rfl ?_
    refine a_iadd K (dq 17 rfl) ?_
    refine a_put K (T := 9) (i := 0) (k := 2) v_9 rfl rfl in_X4 tyX4 tyX4_ok nmX4 (Nat.le_of_ble_eq_true rfl) fl_X4_23 rfl rfl (tyX4_ok 2 (by decide)) rfl rfl (dq 18 rfl) ?_
    refine a_aload_n K (dq 19 rfl) rfl rfl ?_
    refine a_iconst K (dq 20 rfl) (v := 0) rfl ?_
    refine a_put K (T := 9) (i := 0) (k := 5) v_9 rfl rfl in_X4 tyX4 tyX4_ok nmX4 (Nat.le_of_ble_eq_true rfl) fl_X4_52 rfl rfl (tyX4_ok 5 (by decide)) rfl rfl (dq 21 rfl) ?_
    refine a_aload_n K (dq 22 rfl) rfl rfl ?_
    refine a_iconst K (dq 23 rfl) (v := 1) rfl ?_
    refine a_put K (T := 9) (i := 0) (k := 6) v_9 rfl rfl in_X4 tyX4 tyX4_ok nmX4 (Nat.le_of_ble_eq_true rfl) fl_X4_55 rfl rfl (tyX4_ok 6 (by decide)) rfl rfl (dq 24 rfl) ?_
    refine a_iconst K (dq 25 rfl) (v := 1) rfl ?_
    refine a_istore_n K (dq 26 rfl) rfl (Nat.le_of_ble_eq_true rfl) (ls' := [some (.ref (ρ 9 0)), some (.ref (ρ 40 (p_X4_shapeOf (gI (sI σ 9 0 3 r1) 9 0 3)))), some (.int 1), none]) rfl ?_
    refine a_iconst K (dq 27 rfl) (v := 0) rfl ?_
    refine a_istore_n K (dq 28 rfl) rfl (Nat.le_of_ble_eq_true rfl) (ls' := [some (.ref (ρ 9 0)), some (.ref (ρ 40 (p_X4_shapeOf (gI (sI σ 9 0 3 r1) 9 0 3)))), some (.int 1), some (.int 0)]) rfl ?_
    exact s_X4_readCommand_L49 S    400 (p_X4_shapeOf (gI (sI σ 9 0 3 r1) 9 0 3)) (shape_lt (gI (sI σ 9 0 3 r1) 9 0 3)) 1 0 (sI (sI (sI (sI σ 9 0 3 r1) 9 0 2 ((gI (sI σ 9 0 3 r1) 9 0 2) + 1)) 9 0 5 0) 9 0 6 1) r h K hX
  · have h := ite_f c2 h
    refine a_iconst K (dq 11 rfl) (v := 0) rfl ?_
    obtain rfl := Option.some.inj h
    exact a_iret K rfl rfl (dq 12 rfl) (Nat.le_of_ble_eq_true rfl) (Nat.le_of_ble_eq_true rfl) rfl rfl
def t_X4_countCommands : List (Nat × Instr × Nat) := [(0, .aload_n 0, 1), (1, .invokevirtual 29, 3), (4, .iconst 1, 1), (5, .istore_n 1, 1), (6, .iload_n 1, 1), (7, .bipush 60, 2), (9, .if_icmp .gt 46, 3), (12, .aload_n 0, 1), (13, .invokevirtual 32, 3), (16, .ifCond .ne 5, 3), (19, .iconst (-1), 1), (20, .ireturn, 1), (21, .aload_n 0, 1), (22, .getfield 23, 3), (25, .aload_n 0, 1), (26, .getfield 19, 3), (29, .if_icmp .lt 5, 3), (32, .iload_n 1, 1), (33, .ireturn, 1), (34, .aload_n 0, 1), (35, .invokevirtual 36, 3), (38, .bipush 59, 2), (40, .if_icmp .eq 5, 3), (43, .iconst (-1), 1), (44, .ireturn, 1), (45, .aload_n 0, 1), (46, .invokevirtual 40, 3), (49, .iinc 1 1, 3), (52, .goto (-46), 3), (55, .iconst (-1), 1), (56, .ireturn, 1)]
theorem dt_X4_countCommands : tblOK cX4_countCommands t_X4_countCommands = true := by decide +kernel
def p_X4_countCommands_L6  : Nat → Int32 → Sg → Option ((Int32 × Sg))
  | 0, _, _ => none
  | n + 1, v1, σ => if 60 < v1 then (some ((-1), σ)) else ((p_X4_readCommand  σ).bind fun r3 => if r3.1 = 0 then (some ((-1), r3.2)) else (if (gI r3.2 9 0 2) < (gI r3.2 9 0 1) then ((p_X4_current  r3.2).bind fun r6 => if r6 = 59 then ((p_X4_passSeparator  r3.2).bind fun r8 => p_X4_countCommands_L6 n (v1 + 1) r8) else (some ((-1), r3.2))) else (some (v1, r3.2))))
def p_X4_countCommands  (σ : Sg) : Option (Int32 × Sg) :=
  (p_X4_startReading  σ).bind fun r1 => p_X4_countCommands_L6 400 1 r1
set_option maxRecDepth 20000 in
set_option maxHeartbeats 1000000 in
theorem s_X4_countCommands_L6 {l : Launch} {D : va_G} {ty : Nat → ClassId} {ρ : Nat → Nat → Nat} {N0 : Nat} (S : St l ty ρ N0)   : ∀ (n : Nat) (v1 : Int32) (σ : Sg) (r : (Int32 × Sg)) (h : p_X4_countCommands_L6  n v1 σ = some r) {p : Program} {e : Env} {s : State} {m : MethodId} {args : Array Value} {below : List Frame} {meth : Method} {c : Code} (K : Cx p l s m args meth c cX4_countCommands 2 RX4 (some .int) D ty ρ N0) (hX : ∀ x ∈ c.exceptionTable.toList, False), WA p l e (rmk 6 0 0) s m args below meth c D ty ρ N0 2 (vx_MQ below (oQ D ty ρ N0 (oI r.1) r.2) (oX D ty ρ N0 (oI r.1) r.2) args s 0 0 (fun q => N0 ≤ q)) 6 [some (.ref (ρ 9 0)), some (.int v1)] [] σ 0 0 := by
  intro n
  induction n with
  | zero =>
    intro v1 σ r h
    simp only [p_X4_countCommands_L6] at h
    cases h
  | succ n ih =>
    intro v1 σ r h p e s m args below meth c K hX
    have dq := @tat _ _ dt_X4_countCommands
    rw [p_X4_countCommands_L6] at h
    refine a_iload_n K (dq 4 rfl) rfl rfl ?_
    refine a_bipush K (dq 5 rfl) (v := 60) rfl ?_
    refine a_icmp_gt K (tgt := 55) (dq 6 rfl) rfl (fun c2 => ?_) (fun c2 => ?_)
    · have h := ite_t c2 h
      refine a_iconst K (dq 29 rfl) (v := (-1)) rfl ?_
      obtain rfl := Option.some.inj h
      exact a_iret K rfl rfl (dq 30 rfl) (Nat.le_of_ble_eq_true rfl) (Nat.le_of_ble_eq_true rfl) rfl rfl
    · have h := ite_f c2 h
      refine a_aload_n K (dq 7 rfl) rfl rfl ?_
      obtain ⟨r3, h3, h⟩ := bnd h
      refine a_callVi K (s_X4_readCommand S   σ r3 h3) v_9 rfl rfl cw_X4_readCommand ml_X4_32 (by decide) rfl (rest := []) rfl (Nat.le_of_ble_eq_true rfl) (dq 8 rfl) (by decide) ?_
      refine a_if_ne K (tgt := 21) (dq 9 rfl) rfl (fun c4 => ?_) (fun c4 => ?_)
      · have h := ite_f c4 h
        refine a_aload_n K (dq 12 rfl) rfl rfl ?_
        refine a_get K (T := 9) (i := 0) (k := 2) (v := .int (gI r3.2 9 0 2)) v_9 rfl rfl in_X4 (Nat.le_of_ble_eq_true rfl) fl_X4_23 rfl (dq 13 rfl) ?_
        refine a_aload_n K (dq 14 rfl) rfl rfl ?_
        refine a_get K (T := 9) (i := 0) (k := 1) (v := .int (gI r3.2 9 0 1)) v_9 rfl rfl in_X4 (Nat.le_of_ble_eq_true rfl) fl_X4_19 rfl (dq 15 rfl) ?_
        refine a_icmp_lt K (tgt := 34) (dq 16 rfl) rfl (fun c5 => ?_) (fun c5 => ?_)
        · have h := ite_t c5 h
          refine a_aload_n K (dq 19 rfl) rfl rfl ?_
          obtain ⟨r6, h6, h⟩ := bnd h
          refine a_callVi K (s_X4_current S   r3.2 r6 h6) v_9 rfl rfl cw_X4_current ml_X4_36 (by decide) rfl (rest := []) rfl (Nat.le_of_ble_eq_true rfl) (dq 20 rfl) (by decide) ?_
          refine a_bipush K (dq 21 rfl) (v := 59) rfl ?_
          refine a_icmp_eq K (tgt := 45) (dq 22 rfl) rfl (fun c7 => ?_) (fun c7 => ?_)
          · have h := ite_t c7 h
            refine a_aload_n K (dq 25 rfl) rfl rfl ?_
            obtain ⟨r8, h8, h⟩ := bnd h
            refine a_callVv K (s_X4_passSeparator S   r3.2 r8 h8) v_9 rfl rfl cw_X4_passSeparator ml_X4_40 (by decide) rfl (rest := []) rfl (Nat.le_of_ble_eq_true rfl) (dq 26 rfl) (by decide) ?_
            refine a_iinc K (dq 27 rfl) rfl (v := (v1 + 1)) rfl (Nat.le_of_ble_eq_true rfl) (ls' := [some (.ref (ρ 9 0)), some (.int (v1 + 1))]) rfl ?_
            refine a_goto K (tgt := 6) (dq 28 rfl) rfl ?_
            exact ih (v1 + 1) r8 r h K hX
          · have h := ite_f c7 h
            refine a_iconst K (dq 23 rfl) (v := (-1)) rfl ?_
            obtain rfl := Option.some.inj h
            exact a_iret K rfl rfl (dq 24 rfl) (Nat.le_of_ble_eq_true rfl) (Nat.le_of_ble_eq_true rfl) rfl rfl
        · have h := ite_f c5 h
          refine a_iload_n K (dq 17 rfl) rfl rfl ?_
          obtain rfl := Option.some.inj h
          exact a_iret K rfl rfl (dq 18 rfl) (Nat.le_of_ble_eq_true rfl) (Nat.le_of_ble_eq_true rfl) rfl rfl
      · have h := ite_t c4 h
        refine a_iconst K (dq 10 rfl) (v := (-1)) rfl ?_
        obtain rfl := Option.some.inj h
        exact a_iret K rfl rfl (dq 11 rfl) (Nat.le_of_ble_eq_true rfl) (Nat.le_of_ble_eq_true rfl) rfl rfl
set_option maxRecDepth 20000 in
set_option maxHeartbeats 1000000 in
theorem s_X4_countCommands {l : Launch} {D : va_G} {ty : Nat → ClassId} {ρ : Nat → Nat → Nat} {N0 : Nat} (S : St l ty ρ N0)   (σ : Sg) (r : (Int32 × Sg)) (h : p_X4_countCommands  σ = some r) : AMet l D ty ρ N0 yX4_countCommands (Cond.code yX4_countCommands cX4_countCommands 2 (some .int) :: GW) (rmk 6 0 0) [.ref (ρ 9 0)] σ (oI r.1) r.2 := by
  refine am_enter S (by decide) rfl rfl (Nat.le_of_ble_eq_true rfl) ?_
  intro p e s m args below meth c K hX
  have dq := @tat _ _ dt_X4_countCommands
  unfold p_X4_countCommands at h
  show WA p l e _ s m args below meth c D ty ρ N0 2 _ 0 [some (.ref (ρ 9 0)), none] [] σ 0 0
  refine a_aload_n K (dq 0 rfl) rfl rfl ?_
  obtain ⟨r1, h1, h⟩ := bnd h
  refine a_callVv K (s_X4_startReading S   σ r1 h1) v_9 rfl rfl cw_X4_startReading ml_X4_29 (by decide) rfl (rest := []) rfl (Nat.le_of_ble_eq_true rfl) (dq 1 rfl) (by decide) ?_
  refine a_iconst K (dq 2 rfl) (v := 1) rfl ?_
  refine a_istore_n K (dq 3 rfl) rfl (Nat.le_of_ble_eq_true rfl) (ls' := [some (.ref (ρ 9 0)), some (.int 1)]) rfl ?_
  exact s_X4_countCommands_L6 S    400 1 r1 r h K hX
def t_X6_carryOutText : List (Nat × Instr × Nat) := [(0, .aload_n 0, 1), (1, .getfield 16, 3), (4, .aload_n 0, 1), (5, .getfield 10, 3), (8, .invokevirtual 296, 3), (11, .aload_n 0, 1), (12, .getfield 39, 3), (15, .invokevirtual 330, 3), (18, .iconst 0, 1), (19, .istore_n 2, 1), (20, .iload_n 2, 1), (21, .iload_n 1, 1), (22, .if_icmp .ge 119, 3), (25, .aload_n 0, 1), (26, .getfield 39, 3), (29, .invokevirtual 333, 3), (32, .pop, 1), (33, .aload_n 0, 1), (34, .aload_n 0, 1), (35, .getfield 39, 3), (38, .invokevirtual 336, 3), (41, .aload_n 0, 1), (42, .getfield 39, 3), (45, .iconst 0, 1), (46, .invokevirtual 339, 3), (49, .aload_n 0, 1), (50, .getfield 39, 3), (53, .iconst 1, 1), (54, .invokevirtual 339, 3), (57, .aload_n 0, 1), (58, .getfield 39, 3), (61, .iconst 2, 1), (62, .invokevirtual 339, 3), (65, .invokevirtual 315, 3), (68, .ifCond .eq 24, 3), (71, .aload_n 0, 1), (72, .getfield 32, 3), (75, .iload_n 2, 1), (76, .invokevirtual 319, 3), (79, .aload_n 0, 1), (80, .getfield 10, 3), (83, .aload_n 0, 1), (84, .getfield 16, 3), (87, .invokevirtual 296, 3), (90, .iconst 0, 1), (91, .ireturn, 1), (92, .aload_n 0, 1), (93, .aload_n 0, 1), (94, .getfield 39, 3), (97, .invokevirtual 336, 3), (100, .aload_n 0, 1), (101, .getfield 39, 3), (104, .iconst 0, 1), (105, .invokevirtual 339, 3), (108, .aload_n 0, 1), (109, .getfield 39, 3), (112, .iconst 1, 1), (113, .invokevirtual 339, 3), (116, .aload_n 0, 1), (117, .getfield 39, 3), (120, .iconst 2, 1), (121, .invokevirtual 339, 3), (124, .invokevirtual 327, 3), (127, .pop, 1), (128, .aload_n 0, 1), (129, .getfield 39, 3), (132, .invokevirtual 341, 3), (135, .iinc 2 1, 3), (138, .goto (-118), 3), (141, .aload_n 0, 1), (142, .getfield 25, 3), (145, .aload_n 0, 1), (146, .getfield 16, 3), (149, .invokevirtual 324, 3), (152, .iconst 1, 1), (153, .ireturn, 1)]
theorem dt_X6_carryOutText : tblOK cX6_carryOutText t_X6_carryOutText = true := by decide +kernel
def p_X6_carryOutText_L20  : Nat → Int32 → Int32 → Sg → Option ((Int32 × Sg))
  | 0, _, _, _ => none
  | n + 1, v1, v2, σ => if v1 ≤ v2 then ((p_X0_keep 1 σ).bind fun r4 => some (1, r4)) else ((p_X4_readCommand  σ).bind fun r5 => (p_X4_kind  r5.2).bind fun r6 => (p_X4_number 0 r5.2).bind fun r7 => (p_X4_number 1 r5.2).bind fun r8 => (p_X4_number 2 r5.2).bind fun r9 => (p_X6_isRefused r6 r7 r8 r9 r5.2).bind fun r10 => if r10.1 = 0 then ((p_X4_kind  r10.2).bind fun r12 => (p_X4_number 0 r10.2).bind fun r13 => (p_X4_number 1 r10.2).bind fun r14 => (p_X4_number 2 r10.2).bind fun r15 => (p_X6_carryOut r12 r13 r14 r15 r10.2).bind fun r16 => (p_X4_passSeparator  r16.2).bind fun r17 => p_X6_carryOutText_L20 n v1 (v2 + 1) r17) else ((p_X3_keepCommand v2 r10.2).bind fun r18 => (p_X1_copyFrom 0 1 r18).bind fun r19 => some (0, r19)))
def p_X6_carryOutText (a1 : Int32) (σ : Sg) : Option (Int32 × Sg) :=
  (p_X1_copyFrom 1 0 σ).bind fun r1 => (p_X4_startReading  r1).bind fun r2 => p_X6_carryOutText_L20 400 a1 0 r2
set_option maxRecDepth 20000 in
set_option maxHeartbeats 1000000 in
theorem s_X6_carryOutText_L20 {l : Launch} {D : va_G} {ty : Nat → ClassId} {ρ : Nat → Nat → Nat} {N0 : Nat} (S : St l ty ρ N0)   : ∀ (n : Nat) (v1 : Int32) (v2 : Int32) (σ : Sg) (r : (Int32 × Sg)) (h : p_X6_carryOutText_L20  n v1 v2 σ = some r) {p : Program} {e : Env} {s : State} {m : MethodId} {args : Array Value} {below : List Frame} {meth : Method} {c : Code} (K : Cx p l s m args meth c cX6_carryOutText 3 RX6 (some .boolean) D ty ρ N0) (hX : ∀ x ∈ c.exceptionTable.toList, False), WA p l e (rmk 6 0 0) s m args below meth c D ty ρ N0 3 (vx_MQ below (oQ D ty ρ N0 (oI r.1) r.2) (oX D ty ρ N0 (oI r.1) r.2) args s 0 0 (fun q => N0 ≤ q)) 20 [some (.ref (ρ 0 0)), some (.int v1), some (.int v2)] [] σ 0 0 := by
  intro n
  induction n with
  | zero =>
    intro v1 v2 σ r h
    simp only [p_X6_carryOutText_L20] at h
    cases h
  | succ n ih =>
    intro v1 v2 σ r h p e s m args below meth c K hX
    have dq := @tat _ _ dt_X6_carryOutText
    rw [p_X6_carryOutText_L20] at h
    refine a_iload_n K (dq 10 rfl) rfl rfl ?_
    refine a_iload_n K (dq 11 rfl) rfl rfl ?_
    refine a_icmp_ge K (tgt := 141) (dq 12 rfl) rfl (fun c3 => ?_) (fun c3 => ?_)
    · have h := ite_t c3 h
      refine a_aload_n K (dq 69 rfl) rfl rfl ?_
      refine a_get K (T := 0) (i := 0) (k := 4) (v := .ref (ρ 6 0)) v_0 rfl rfl in_X6 (Nat.le_of_ble_eq_true rfl) fl_X6_25 rfl (dq 70 rfl) ?_
      refine a_aload_n K (dq 71 rfl) rfl rfl ?_
      refine a_get K (T := 0) (i := 0) (k := 1) (v := .ref (ρ 1 1)) v_0 rfl rfl in_X6 (Nat.le_of_ble_eq_true rfl) fl_X6_16 rfl (dq 72 rfl) ?_
      obtain ⟨r4, h4, h⟩ := bnd h
      refine a_callVv K (s_X0_keep S 1 (by decide) σ r4 h4) v_6 rfl rfl cw_X0_keep ml_X6_324 (by decide) rfl (rest := []) rfl (Nat.le_of_ble_eq_true rfl) (dq 73 rfl) (by decide) ?_
      refine a_iconst K (dq 74 rfl) (v := 1) rfl ?_
      obtain rfl := Option.some.inj h
      exact a_iret K rfl rfl (dq 75 rfl) (Nat.le_of_ble_eq_true rfl) (Nat.le_of_ble_eq_true rfl) rfl rfl
    · have h := ite_f c3 h
      refine a_aload_n K (dq 13 rfl) rfl rfl ?_
      refine a_get K (T := 0) (i := 0) (k := 6) (v := .ref (ρ 9 0)) v_0 rfl rfl in_X6 (Nat.le_of_ble_eq_true rfl) fl_X6_39 rfl (dq 14 rfl) ?_
      obtain ⟨r5, h5, h⟩ := bnd h
      refine a_callVi K (s_X4_readCommand S   σ r5 h5) v_9 rfl rfl cw_X4_readCommand ml_X6_333 (by decide) rfl (rest := []) rfl (Nat.le_of_ble_eq_true rfl) (dq 15 rfl) (by decide) ?_
      refine a_pop K (dq 16 rfl) rfl ?_
      refine a_aload_n K (dq 17 rfl) rfl rfl ?_
      refine a_aload_n K (dq 18 rfl) rfl rfl ?_
      refine a_get K (T := 0) (i := 0) (k := 6) (v := .ref (ρ 9 0)) v_0 rfl rfl in_X6 (Nat.le_of_ble_eq_true rfl) fl_X6_39 rfl (dq 19 rfl) ?_
      obtain ⟨r6, h6, h⟩ := bnd h
      refine a_callVi K (s_X4_kind S   r5.2 r6 h6) v_9 rfl rfl cw_X4_kind ml_X6_336 (by decide) rfl (rest := [.ref (ρ 0 0)]) rfl (Nat.le_of_ble_eq_true rfl) (dq 20 rfl) (by decide) ?_
      refine a_aload_n K (dq 21 rfl) rfl rfl ?_
      refine a_get K (T := 0) (i := 0) (k := 6) (v := .ref (ρ 9 0)) v_0 rfl rfl in_X6 (Nat.le_of_ble_eq_true rfl) fl_X6_39 rfl (dq 22 rfl) ?_
      refine a_iconst K (dq 23 rfl) (v := 0) rfl ?_
      obtain ⟨r7, h7, h⟩ := bnd h
      refine a_callVi K (s_X4_number S 0  r5.2 r7 h7) v_9 rfl rfl cw_X4_number ml_X6_339 (by decide) rfl (rest := [.int r6, .ref (ρ 0 0)]) rfl (Nat.le_of_ble_eq_true rfl) (dq 24 rfl) (by decide) ?_
      refine a_aload_n K (dq 25 rfl) rfl rfl ?_
      refine a_get K (T := 0) (i := 0) (k := 6) (v := .ref (ρ 9 0)) v_0 rfl rfl in_X6 (Nat.le_of_ble_eq_true rfl) fl_X6_39 rfl (dq 26 rfl) ?_
      refine a_iconst K (dq 27 rfl) (v := 1) rfl ?_
      obtain ⟨r8, h8, h⟩ := bnd h
      refine a_callVi K (s_X4_number S 1  r5.2 r8 h8) v_9 rfl rfl cw_X4_number ml_X6_339 (by decide) rfl (rest := [.int r7, .int r6, .ref (ρ 0 0)]) rfl (Nat.le_of_ble_eq_true rfl) (dq 28 rfl) (by decide) ?_
      refine a_aload_n K (dq 29 rfl) rfl rfl ?_
      refine a_get K (T := 0) (i := 0) (k := 6) (v := .ref (ρ 9 0)) v_0 rfl rfl in_X6 (Nat.le_of_ble_eq_true rfl) fl_X6_39 rfl (dq 30 rfl) ?_
      refine a_iconst K (dq 31 rfl) (v := 2) rfl ?_
      obtain ⟨r9, h9, h⟩ := bnd h
      refine a_callVi K (s_X4_number S 2  r5.2 r9 h9) v_9 rfl rfl cw_X4_number ml_X6_339 (by decide) rfl (rest := [.int r8, .int r7, .int r6, .ref (ρ 0 0)]) rfl (Nat.le_of_ble_eq_true rfl) (dq 32 rfl) (by decide) ?_
      obtain ⟨r10, h10, h⟩ := bnd h
      refine a_callVi K (s_X6_isRefused S r6 r7 r8 r9  r5.2 r10 h10) v_0 rfl rfl cw_X6_isRefused ml_X6_315 (by decide) rfl (rest := []) rfl (Nat.le_of_ble_eq_true rfl) (dq 33 rfl) (by decide) ?_
      refine a_if_eq K (tgt := 92) (dq 34 rfl) rfl (fun c11 => ?_) (fun c11 => ?_)
      · have h := ite_t c11 h
        refine a_aload_n K (dq 46 rfl) rfl rfl ?_
        refine a_aload_n K (dq 47 rfl) rfl rfl ?_
        refine a_get K (T := 0) (i := 0) (k := 6) (v := .ref (ρ 9 0)) v_0 rfl rfl in_X6 (Nat.le_of_ble_eq_true rfl) fl_X6_39 rfl (dq 48 rfl) ?_
        obtain ⟨r12, h12, h⟩ := bnd h
        refine a_callVi K (s_X4_kind S   r10.2 r12 h12) v_9 rfl rfl cw_X4_kind ml_X6_336 (by decide) rfl (rest := [.ref (ρ 0 0)]) rfl (Nat.le_of_ble_eq_true rfl) (dq 49 rfl) (by decide) ?_
        refine a_aload_n K (dq 50 rfl) rfl rfl ?_
        refine a_get K (T := 0) (i := 0) (k := 6) (v := .ref (ρ 9 0)) v_0 rfl rfl in_X6 (Nat.le_of_ble_eq_true rfl) fl_X6_39 rfl (dq 51 rfl) ?_
        refine a_iconst K (dq 52 rfl) (v := 0) rfl ?_
        obtain ⟨r13, h13, h⟩ := bnd h
        refine a_callVi K (s_X4_number S 0  r10.2 r13 h13) v_9 rfl rfl cw_X4_number ml_X6_339 (by decide) rfl (rest := [.int r12, .ref (ρ 0 0)]) rfl (Nat.le_of_ble_eq_true rfl) (dq 53 rfl) (by decide) ?_
        refine a_aload_n K (dq 54 rfl) rfl rfl ?_
        refine a_get K (T := 0) (i := 0) (k := 6) (v := .ref (ρ 9 0)) v_0 rfl rfl in_X6 (Nat.le_of_ble_eq_true rfl) fl_X6_39 rfl (dq 55 rfl) ?_
        refine a_iconst K (dq 56 rfl) (v := 1) rfl ?_
        obtain ⟨r14, h14, h⟩ := bnd h
        refine a_callVi K (s_X4_number S 1  r10.2 r14 h14) v_9 rfl rfl cw_X4_number ml_X6_339 (by decide) rfl (rest := [.int r13, .int r12, .ref (ρ 0 0)]) rfl (Nat.le_of_ble_eq_true rfl) (dq 57 rfl) (by decide) ?_
        refine a_aload_n K (dq 58 rfl) rfl rfl ?_
        refine a_get K (T := 0) (i := 0) (k := 6) (v := .ref (ρ 9 0)) v_0 rfl rfl in_X6 (Nat.le_of_ble_eq_true rfl) fl_X6_39 rfl (dq 59 rfl) ?_
        refine a_iconst K (dq 60 rfl) (v := 2) rfl ?_
        obtain ⟨r15, h15, h⟩ := bnd h
        refine a_callVi K (s_X4_number S 2  r10.2 r15 h15) v_9 rfl rfl cw_X4_number ml_X6_339 (by decide) rfl (rest := [.int r14, .int r13, .int r12, .ref (ρ 0 0)]) rfl (Nat.le_of_ble_eq_true rfl) (dq 61 rfl) (by decide) ?_
        obtain ⟨r16, h16, h⟩ := bnd h
        refine a_callVi K (s_X6_carryOut S r12 r13 r14 r15  r10.2 r16 h16) v_0 rfl rfl cw_X6_carryOut ml_X6_327 (by decide) rfl (rest := []) rfl (Nat.le_of_ble_eq_true rfl) (dq 62 rfl) (by decide) ?_
        refine a_pop K (dq 63 rfl) rfl ?_
        refine a_aload_n K (dq 64 rfl) rfl rfl ?_
        refine a_get K (T := 0) (i := 0) (k := 6) (v := .ref (ρ 9 0)) v_0 rfl rfl in_X6 (Nat.le_of_ble_eq_true rfl) fl_X6_39 rfl (dq 65 rfl) ?_
        obtain ⟨r17, h17, h⟩ := bnd h
        refine a_callVv K (s_X4_passSeparator S   r16.2 r17 h17) v_9 rfl rfl cw_X4_passSeparator ml_X6_341 (by decide) rfl (rest := []) rfl (Nat.le_of_ble_eq_true rfl) (dq 66 rfl) (by decide) ?_
        refine a_iinc K (dq 67 rfl) rfl (v := (v2 + 1)) rfl (Nat.le_of_ble_eq_true rfl) (ls' := [some (.ref (ρ 0 0)), some (.int v1), some (.int (v2 + 1))]) rfl ?_
        refine a_goto K (tgt := 20) (dq 68 rfl) rfl ?_
        exact ih v1 (v2 + 1) r17 r h K hX
      · have h := ite_f c11 h
        refine a_aload_n K (dq 35 rfl) rfl rfl ?_
        refine a_get K (T := 0) (i := 0) (k := 5) (v := .ref (ρ 8 0)) v_0 rfl rfl in_X6 (Nat.le_of_ble_eq_true rfl) fl_X6_32 rfl (dq 36 rfl) ?_
        refine a_iload_n K (dq 37 rfl) rfl rfl ?_
        obtain ⟨r18, h18, h⟩ := bnd h
        refine a_callVv K (s_X3_keepCommand S v2  r10.2 r18 h18) v_8 rfl rfl cw_X3_keepCommand ml_X6_319 (by decide) rfl (rest := []) rfl (Nat.le_of_ble_eq_true rfl) (dq 38 rfl) (by decide) ?_
        refine a_aload_n K (dq 39 rfl) rfl rfl ?_
        refine a_get K (T := 0) (i := 0) (k := 0) (v := .ref (ρ 1 0)) v_0 rfl rfl in_X6 (Nat.le_of_ble_eq_true rfl) fl_X6_10 rfl (dq 40 rfl) ?_
        refine a_aload_n K (dq 41 rfl) rfl rfl ?_
        refine a_get K (T := 0) (i := 0) (k := 1) (v := .ref (ρ 1 1)) v_0 rfl rfl in_X6 (Nat.le_of_ble_eq_true rfl) fl_X6_16 rfl (dq 42 rfl) ?_
        obtain ⟨r19, h19, h⟩ := bnd h
        refine a_callVv K (s_X1_copyFrom S 0 1 (by decide) (by decide) r18 r19 h19) v_1 rfl rfl cw_X1_copyFrom ml_X6_296 (by decide) rfl (rest := []) rfl (Nat.le_of_ble_eq_true rfl) (dq 43 rfl) (by decide) ?_
        refine a_iconst K (dq 44 rfl) (v := 0) rfl ?_
        obtain rfl := Option.some.inj h
        exact a_iret K rfl rfl (dq 45 rfl) (Nat.le_of_ble_eq_true rfl) (Nat.le_of_ble_eq_true rfl) rfl rfl
set_option maxRecDepth 20000 in
set_option maxHeartbeats 1000000 in
theorem s_X6_carryOutText {l : Launch} {D : va_G} {ty : Nat → ClassId} {ρ : Nat → Nat → Nat} {N0 : Nat} (S : St l ty ρ N0) (a1 : Int32)  (σ : Sg) (r : (Int32 × Sg)) (h : p_X6_carryOutText a1 σ = some r) : AMet l D ty ρ N0 yX6_carryOutText (Cond.code yX6_carryOutText cX6_carryOutText 3 (some .boolean) :: GW) (rmk 6 0 0) [.ref (ρ 0 0), .int a1] σ (oI r.1) r.2 := by
  refine am_enter S (by decide) rfl rfl (Nat.le_of_ble_eq_true rfl) ?_
  intro p e s m args below meth c K hX
  have dq := @tat _ _ dt_X6_carryOutText
  unfold p_X6_carryOutText at h
  show WA p l e _ s m args below meth c D ty ρ N0 3 _ 0 [some (.ref (ρ 0 0)), some (.int a1), none] [] σ 0 0
  refine a_aload_n K (dq 0 rfl) rfl rfl ?_
  refine a_get K (T := 0) (i := 0) (k := 1) (v := .ref (ρ 1 1)) v_0 rfl rfl in_X6 (Nat.le_of_ble_eq_true rfl) fl_X6_16 rfl (dq 1 rfl) ?_
  refine a_aload_n K (dq 2 rfl) rfl rfl ?_
  refine a_get K (T := 0) (i := 0) (k := 0) (v := .ref (ρ 1 0)) v_0 rfl rfl in_X6 (Nat.le_of_ble_eq_true rfl) fl_X6_10 rfl (dq 3 rfl) ?_
  obtain ⟨r1, h1, h⟩ := bnd h
  refine a_callVv K (s_X1_copyFrom S 1 0 (by decide) (by decide) σ r1 h1) (vC1 (by decide)) rfl rfl cw_X1_copyFrom ml_X6_296 (by decide) rfl (rest := []) rfl (Nat.le_of_ble_eq_true rfl) (dq 4 rfl) (by decide) ?_
  refine a_aload_n K (dq 5 rfl) rfl rfl ?_
  refine a_get K (T := 0) (i := 0) (k := 6) (v := .ref (ρ 9 0)) v_0 rfl rfl in_X6 (Nat.le_of_ble_eq_true rfl) fl_X6_39 rfl (dq 6 rfl) ?_
  obtain ⟨r2, h2, h⟩ := bnd h
  refine a_callVv K (s_X4_startReading S   r1 r2 h2) v_9 rfl rfl cw_X4_startReading ml_X6_330 (by decide) rfl (rest := []) rfl (Nat.le_of_ble_eq_true rfl) (dq 7 rfl) (by decide) ?_
  refine a_iconst K (dq 8 rfl) (v := 0) rfl ?_
  refine a_istore_n K (dq 9 rfl) rfl (Nat.le_of_ble_eq_true rfl) (ls' := [some (.ref (ρ 0 0)), some (.int a1), some (.int 0)]) rfl ?_
  exact s_X6_carryOutText_L20 S    400 a1 0 r2 r h K hX
def t_X6_commands : List (Nat × Instr × Nat) := [(0, .aload_n 0, 1), (1, .getfield 39, 3), (4, .invokevirtual 200, 3), (7, .istore_n 1, 1), (8, .aload_n 0, 1), (9, .iload_n 1, 1), (10, .iconst (-1), 1), (11, .if_icmp .ne 13, 3), (14, .aload_n 0, 1), (15, .getfield 39, 3), (18, .invokevirtual 203, 3), (21, .goto 4, 3), (24, .iconst (-1), 1), (25, .putfield 43, 3), (28, .aload_n 0, 1), (29, .getfield 43, 3), (32, .iconst (-1), 1), (33, .if_icmp .ne 15, 3), (36, .aload_n 0, 1), (37, .iload_n 1, 1), (38, .invokevirtual 206, 3), (41, .ifCond .eq 7, 3), (44, .iconst 1, 1), (45, .goto 4, 3), (48, .iconst 0, 1), (49, .istore_n 2, 1), (50, .aload_n 0, 1), (51, .getfield 39, 3), (54, .invokevirtual 209, 3), (57, .aload_n 0, 1), (58, .getfield 43, 3), (61, .iconst (-1), 1), (62, .if_icmp .eq 13, 3), (65, .new 95, 3), (68, .dup, 1), (69, .ldc 212, 2), (71, .invokespecial 99, 3), (74, .athrow, 1), (75, .iload_n 2, 1), (76, .ifCond .ne 13, 3), (79, .new 214, 3), (82, .dup, 1), (83, .ldc 216, 2), (85, .invokespecial 218, 3), (88, .athrow, 1), (89, .iload_n 1, 1), (90, .ireturn, 1)]
theorem dt_X6_commands : tblOK cX6_commands t_X6_commands = true := by decide +kernel
def p_X6_commands  (σ : Sg) : Option ((Int32 ⊕ String) × Sg) :=
  (p_X4_countCommands  σ).bind fun r1 => if r1.1 = (-1) then ((p_X4_position  r1.2).bind fun r15 => if (gI (sI r1.2 0 0 7 r15) 0 0 7) = (-1) then ((p_X6_carryOutText r1.1 (sI r1.2 0 0 7 r15)).bind fun r20 => if r20.1 = 0 then ((p_X4_clear  r20.2).bind fun r22 => if (gI r22 0 0 7) = (-1) then (some (.inr "java/lang/UnsupportedOperationException", r22)) else (some (.inr "java/lang/IllegalArgumentException", r22))) else ((p_X4_clear  r20.2).bind fun r25 => if (gI r25 0 0 7) = (-1) then (some (.inl r1.1, r25)) else (some (.inr "java/lang/IllegalArgumentException", r25)))) else ((p_X4_clear  (sI r1.2 0 0 7 r15)).bind fun r17 => if (gI r17 0 0 7) = (-1) then (some (.inr "java/lang/UnsupportedOperationException", r17)) else (some (.inr "java/lang/IllegalArgumentException", r17)))) else (if (gI (sI r1.2 0 0 7 (-1)) 0 0 7) = (-1) then ((p_X6_carryOutText r1.1 (sI r1.2 0 0 7 (-1))).bind fun r7 => if r7.1 = 0 then ((p_X4_clear  r7.2).bind fun r9 => if (gI r9 0 0 7) = (-1) then (some (.inr "java/lang/UnsupportedOperationException", r9)) else (some (.inr "java/lang/IllegalArgumentException", r9))) else ((p_X4_clear  r7.2).bind fun r12 => if (gI r12 0 0 7) = (-1) then (some (.inl r1.1, r12)) else (some (.inr "java/lang/IllegalArgumentException", r12)))) else ((p_X4_clear  (sI r1.2 0 0 7 (-1))).bind fun r4 => if (gI r4 0 0 7) = (-1) then (some (.inr "java/lang/UnsupportedOperationException", r4)) else (some (.inr "java/lang/IllegalArgumentException", r4))))
set_option maxRecDepth 20000 in
set_option maxHeartbeats 1000000 in
theorem s_X6_commands {l : Launch} {D : va_G} {ty : Nat → ClassId} {ρ : Nat → Nat → Nat} {N0 : Nat} (S : St l ty ρ N0)   (σ : Sg) (r : ((Int32 ⊕ String) × Sg)) (h : p_X6_commands  σ = some r) : AMet l D ty ρ N0 yX6_commands (Cond.code yX6_commands cX6_commands 3 (some .int) :: GW) (rmk 7 1 6) [.ref (ρ 0 0)] σ (oT r.1) r.2 := by
  refine am_enter S (by decide) rfl rfl (Nat.le_of_ble_eq_true rfl) ?_
  intro p e s m args below meth c K hX
  have dq := @tat _ _ dt_X6_commands
  unfold p_X6_commands at h
  show WA p l e _ s m args below meth c D ty ρ N0 3 _ 0 [some (.ref (ρ 0 0)), none, none] [] σ 0 0
  refine a_aload_n K (dq 0 rfl) rfl rfl ?_
  refine a_get K (T := 0) (i := 0) (k := 6) (v := .ref (ρ 9 0)) v_0 rfl rfl in_X6 (Nat.le_of_ble_eq_true rfl) fl_X6_39 rfl (dq 1 rfl) ?_
  obtain ⟨r1, h1, h⟩ := bnd h
  refine a_callVi K (s_X4_countCommands S   σ r1 h1) v_9 rfl rfl cw_X4_countCommands ml_X6_200 (by decide) rfl (rest := []) rfl (Nat.le_of_ble_eq_true rfl) (dq 2 rfl) (by decide) ?_
  refine a_istore_n K (dq 3 rfl) rfl (Nat.le_of_ble_eq_true rfl) (ls' := [some (.ref (ρ 0 0)), some (.int r1.1), none]) rfl ?_
  refine a_aload_n K (dq 4 rfl) rfl rfl ?_
  refine a_iload_n K (dq 5 rfl) rfl rfl ?_
  refine a_iconst K (dq 6 rfl) (v := (-1)) rfl ?_
  refine a_icmp_ne K (tgt := 24) (dq 7 rfl) rfl (fun c2 => ?_) (fun c2 => ?_)
  · have h := ite_f c2 h
    refine a_iconst K (dq 12 rfl) (v := (-1)) rfl ?_
    refine a_put K (T := 0) (i := 0) (k := 7) v_0 rfl rfl in_X6 tyX6 tyX6_ok nmX6 (Nat.le_of_ble_eq_true rfl) fl_X6_43 rfl rfl (tyX6_ok 7 (by decide)) rfl rfl (dq 13 rfl) ?_
    refine a_aload_n K (dq 14 rfl) rfl rfl ?_
    refine a_get K (T := 0) (i := 0) (k := 7) (v := .int (gI (sI r1.2 0 0 7 (-1)) 0 0 7)) v_0 rfl rfl in_X6 (Nat.le_of_ble_eq_true rfl) fl_X6_43 rfl (dq 15 rfl) ?_
    refine a_iconst K (dq 16 rfl) (v := (-1)) rfl ?_
    refine a_icmp_ne K (tgt := 48) (dq 17 rfl) rfl (fun c3 => ?_) (fun c3 => ?_)
    · have h := ite_f c3 h
      refine a_iconst K (dq 24 rfl) (v := 0) rfl ?_
      refine a_istore_n K (dq 25 rfl) rfl (Nat.le_of_ble_eq_true rfl) (ls' := [some (.ref (ρ 0 0)), some (.int r1.1), some (.int 0)]) rfl ?_
      refine a_aload_n K (dq 26 rfl) rfl rfl ?_
      refine a_get K (T := 0) (i := 0) (k := 6) (v := .ref (ρ 9 0)) v_0 rfl rfl in_X6 (Nat.le_of_ble_eq_true rfl) fl_X6_39 rfl (dq 27 rfl) ?_
      obtain ⟨r4, h4, h⟩ := bnd h
      refine a_callVv K (s_X4_clear S   (sI r1.2 0 0 7 (-1)) r4 h4) v_9 rfl rfl cw_X4_clear ml_X6_209 (by decide) rfl (rest := []) rfl (Nat.le_of_ble_eq_true rfl) (dq 28 rfl) (by decide) ?_
      refine a_aload_n K (dq 29 rfl) rfl rfl ?_
      refine a_get K (T := 0) (i := 0) (k := 7) (v := .int (gI r4 0 0 7)) v_0 rfl rfl in_X6 (Nat.le_of_ble_eq_true rfl) fl_X6_43 rfl (dq 30 rfl) ?_
      refine a_iconst K (dq 31 rfl) (v := (-1)) rfl ?_
      refine a_icmp_eq K (tgt := 75) (dq 32 rfl) rfl (fun c5 => ?_) (fun c5 => ?_)
      · have h := ite_t c5 h
        refine a_iload_n K (dq 38 rfl) rfl rfl ?_
        refine a_if_ne K (tgt := 89) (dq 39 rfl) rfl (fun c6 => ?_) (fun c6 => ?_)
        · exact absurd c6 (by decide)
        · obtain rfl := Option.some.inj h
          exact a_throwS K hX th_X6_214_216_218 (dq 40 rfl) (dq 41 rfl) (dq 42 rfl) (dq 43 rfl) (dq 44 rfl) (Nat.le_of_ble_eq_true rfl) (Nat.le_of_ble_eq_true rfl) (Nat.le_of_ble_eq_true rfl) (Nat.le_of_ble_eq_true rfl) (Nat.le_of_ble_eq_true rfl) (Nat.le_of_ble_eq_true rfl) rfl rfl
      · have h := ite_f c5 h
        obtain rfl := Option.some.inj h
        exact a_throwS K hX th_X6_95_212_99 (dq 33 rfl) (dq 34 rfl) (dq 35 rfl) (dq 36 rfl) (dq 37 rfl) (Nat.le_of_ble_eq_true rfl) (Nat.le_of_ble_eq_true rfl) (Nat.le_of_ble_eq_true rfl) (Nat.le_of_ble_eq_true rfl) (Nat.le_of_ble_eq_true rfl) (Nat.le_of_ble_eq_true rfl) rfl rfl
    · have h := ite_t c3 h
      refine a_aload_n K (dq 18 rfl) rfl rfl ?_
      refine a_iload_n K (dq 19 rfl) rfl rfl ?_
      obtain ⟨r7, h7, h⟩ := bnd h
      refine a_callVi K (s_X6_carryOutText S r1.1  (sI r1.2 0 0 7 (-1)) r7 h7) v_0 rfl rfl cw_X6_carryOutText ml_X6_206 (by decide) rfl (rest := []) rfl (Nat.le_of_ble_eq_true rfl) (dq 20 rfl) (by decide) ?_
      refine a_if_eq K (tgt := 48) (dq 21 rfl) rfl (fun c8 => ?_) (fun c8 => ?_)
      · have h := ite_t c8 h
        refine a_iconst K (dq 24 rfl) (v := 0) rfl ?_
        refine a_istore_n K (dq 25 rfl) rfl (Nat.le_of_ble_eq_true rfl) (ls' := [some (.ref (ρ 0 0)), some (.int r1.1), some (.int 0)]) rfl ?_
        refine a_aload_n K (dq 26 rfl) rfl rfl ?_
        refine a_get K (T := 0) (i := 0) (k := 6) (v := .ref (ρ 9 0)) v_0 rfl rfl in_X6 (Nat.le_of_ble_eq_true rfl) fl_X6_39 rfl (dq 27 rfl) ?_
        obtain ⟨r9, h9, h⟩ := bnd h
        refine a_callVv K (s_X4_clear S   r7.2 r9 h9) v_9 rfl rfl cw_X4_clear ml_X6_209 (by decide) rfl (rest := []) rfl (Nat.le_of_ble_eq_true rfl) (dq 28 rfl) (by decide) ?_
        refine a_aload_n K (dq 29 rfl) rfl rfl ?_
        refine a_get K (T := 0) (i := 0) (k := 7) (v := .int (gI r9 0 0 7)) v_0 rfl rfl in_X6 (Nat.le_of_ble_eq_true rfl) fl_X6_43 rfl (dq 30 rfl) ?_
        refine a_iconst K (dq 31 rfl) (v := (-1)) rfl ?_
        refine a_icmp_eq K (tgt := 75) (dq 32 rfl) rfl (fun c10 => ?_) (fun c10 => ?_)
        · have h := ite_t c10 h
          refine a_iload_n K (dq 38 rfl) rfl rfl ?_
          refine a_if_ne K (tgt := 89) (dq 39 rfl) rfl (fun c11 => ?_) (fun c11 => ?_)
          · exact absurd c11 (by decide)
          · obtain rfl := Option.some.inj h
            exact a_throwS K hX th_X6_214_216_218 (dq 40 rfl) (dq 41 rfl) (dq 42 rfl) (dq 43 rfl) (dq 44 rfl) (Nat.le_of_ble_eq_true rfl) (Nat.le_of_ble_eq_true rfl) (Nat.le_of_ble_eq_true rfl) (Nat.le_of_ble_eq_true rfl) (Nat.le_of_ble_eq_true rfl) (Nat.le_of_ble_eq_true rfl) rfl rfl
        · have h := ite_f c10 h
          obtain rfl := Option.some.inj h
          exact a_throwS K hX th_X6_95_212_99 (dq 33 rfl) (dq 34 rfl) (dq 35 rfl) (dq 36 rfl) (dq 37 rfl) (Nat.le_of_ble_eq_true rfl) (Nat.le_of_ble_eq_true rfl) (Nat.le_of_ble_eq_true rfl) (Nat.le_of_ble_eq_true rfl) (Nat.le_of_ble_eq_true rfl) (Nat.le_of_ble_eq_true rfl) rfl rfl
      · have h := ite_f c8 h
        refine a_iconst K (dq 22 rfl) (v := 1) rfl ?_
        refine a_goto K (tgt := 49) (dq 23 rfl) rfl ?_
        refine a_istore_n K (dq 25 rfl) rfl (Nat.le_of_ble_eq_true rfl) (ls' := [some (.ref (ρ 0 0)), some (.int r1.1), some (.int 1)]) rfl ?_
        refine a_aload_n K (dq 26 rfl) rfl rfl ?_
        refine a_get K (T := 0) (i := 0) (k := 6) (v := .ref (ρ 9 0)) v_0 rfl rfl in_X6 (Nat.le_of_ble_eq_true rfl) fl_X6_39 rfl (dq 27 rfl) ?_
        obtain ⟨r12, h12, h⟩ := bnd h
        refine a_callVv K (s_X4_clear S   r7.2 r12 h12) v_9 rfl rfl cw_X4_clear ml_X6_209 (by decide) rfl (rest := []) rfl (Nat.le_of_ble_eq_true rfl) (dq 28 rfl) (by decide) ?_
        refine a_aload_n K (dq 29 rfl) rfl rfl ?_
        refine a_get K (T := 0) (i := 0) (k := 7) (v := .int (gI r12 0 0 7)) v_0 rfl rfl in_X6 (Nat.le_of_ble_eq_true rfl) fl_X6_43 rfl (dq 30 rfl) ?_
        refine a_iconst K (dq 31 rfl) (v := (-1)) rfl ?_
        refine a_icmp_eq K (tgt := 75) (dq 32 rfl) rfl (fun c13 => ?_) (fun c13 => ?_)
        · have h := ite_t c13 h
          refine a_iload_n K (dq 38 rfl) rfl rfl ?_
          refine a_if_ne K (tgt := 89) (dq 39 rfl) rfl (fun c14 => ?_) (fun c14 => ?_)
          · refine a_iload_n K (dq 45 rfl) rfl rfl ?_
            obtain rfl := Option.some.inj h
            exact a_iret K rfl rfl (dq 46 rfl) (Nat.le_of_ble_eq_true rfl) (Nat.le_of_ble_eq_true rfl) rfl rfl
          · exact absurd c14 (by decide)
        · have h := ite_f c13 h
          obtain rfl := Option.some.inj h
          exact a_throwS K hX th_X6_95_212_99 (dq 33 rfl) (dq 34 rfl) (dq 35 rfl) (dq 36 rfl) (dq 37 rfl) (Nat.le_of_ble_eq_true rfl) (Nat.le_of_ble_eq_true rfl) (Nat.le_of_ble_eq_true rfl) (Nat.le_of_ble_eq_true rfl) (Nat.le_of_ble_eq_true rfl) (Nat.le_of_ble_eq_true rfl) rfl rfl
  · have h := ite_t c2 h
    refine a_aload_n K (dq 8 rfl) rfl rfl ?_
    refine a_get K (T := 0) (i := 0) (k := 6) (v := .ref (ρ 9 0)) v_0 rfl rfl in_X6 (Nat.le_of_ble_eq_true rfl) fl_X6_39 rfl (dq 9 rfl) ?_
    obtain ⟨r15, h15, h⟩ := bnd h
    refine a_callVi K (s_X4_position S   r1.2 r15 h15) v_9 rfl rfl cw_X4_position ml_X6_203 (by decide) rfl (rest := [.ref (ρ 0 0)]) rfl (Nat.le_of_ble_eq_true rfl) (dq 10 rfl) (by decide) ?_
    refine a_goto K (tgt := 25) (dq 11 rfl) rfl ?_
    refine a_put K (T := 0) (i := 0) (k := 7) v_0 rfl rfl in_X6 tyX6 tyX6_ok nmX6 (Nat.le_of_ble_eq_true rfl) fl_X6_43 rfl rfl (tyX6_ok 7 (by decide)) rfl rfl (dq 13 rfl) ?_
    refine a_aload_n K (dq 14 rfl) rfl rfl ?_
    refine a_get K (T := 0) (i := 0) (k := 7) (v := .int (gI (sI r1.2 0 0 7 r15) 0 0 7)) v_0 rfl rfl in_X6 (Nat.le_of_ble_eq_true rfl) fl_X6_43 rfl (dq 15 rfl) ?_
    refine a_iconst K (dq 16 rfl) (v := (-1)) rfl ?_
    refine a_icmp_ne K (tgt := 48) (dq 17 rfl) rfl (fun c16 => ?_) (fun c16 => ?_)
    · have h := ite_f c16 h
      refine a_iconst K (dq 24 rfl) (v := 0) rfl ?_
      refine a_istore_n K (dq 25 rfl) rfl (Nat.le_of_ble_eq_true rfl) (ls' := [some (.ref (ρ 0 0)), some (.int r1.1), some (.int 0)]) rfl ?_
      refine a_aload_n K (dq 26 rfl) rfl rfl ?_
      refine a_get K (T := 0) (i := 0) (k := 6) (v := .ref (ρ 9 0)) v_0 rfl rfl in_X6 (Nat.le_of_ble_eq_true rfl) fl_X6_39 rfl (dq 27 rfl) ?_
      obtain ⟨r17, h17, h⟩ := bnd h
      refine a_callVv K (s_X4_clear S   (sI r1.2 0 0 7 r15) r17 h17) v_9 rfl rfl cw_X4_clear ml_X6_209 (by decide) rfl (rest := []) rfl (Nat.le_of_ble_eq_true rfl) (dq 28 rfl) (by decide) ?_
      refine a_aload_n K (dq 29 rfl) rfl rfl ?_
      refine a_get K (T := 0) (i := 0) (k := 7) (v := .int (gI r17 0 0 7)) v_0 rfl rfl in_X6 (Nat.le_of_ble_eq_true rfl) fl_X6_43 rfl (dq 30 rfl) ?_
      refine a_iconst K (dq 31 rfl) (v := (-1)) rfl ?_
      refine a_icmp_eq K (tgt := 75) (dq 32 rfl) rfl (fun c18 => ?_) (fun c18 => ?_)
      · have h := ite_t c18 h
        refine a_iload_n K (dq 38 rfl) rfl rfl ?_
        refine a_if_ne K (tgt := 89) (dq 39 rfl) rfl (fun c19 => ?_) (fun c19 => ?_)
        · exact absurd c19 (by decide)
        · obtain rfl := Option.some.inj h
          exact a_throwS K hX th_X6_214_216_218 (dq 40 rfl) (dq 41 rfl) (dq 42 rfl) (dq 43 rfl) (dq 44 rfl) (Nat.le_of_ble_eq_true rfl) (Nat.le_of_ble_eq_true rfl) (Nat.le_of_ble_eq_true rfl) (Nat.le_of_ble_eq_true rfl) (Nat.le_of_ble_eq_true rfl) (Nat.le_of_ble_eq_true rfl) rfl rfl
      · have h := ite_f c18 h
        obtain rfl := Option.some.inj h
        exact a_throwS K hX th_X6_95_212_99 (dq 33 rfl) (dq 34 rfl) (dq 35 rfl) (dq 36 rfl) (dq 37 rfl) (Nat.le_of_ble_eq_true rfl) (Nat.le_of_ble_eq_true rfl) (Nat.le_of_ble_eq_true rfl) (Nat.le_of_ble_eq_true rfl) (Nat.le_of_ble_eq_true rfl) (Nat.le_of_ble_eq_true rfl) rfl rfl
    · have h := ite_t c16 h
      refine a_aload_n K (dq 18 rfl) rfl rfl ?_
      refine a_iload_n K (dq 19 rfl) rfl rfl ?_
      obtain ⟨r20, h20, h⟩ := bnd h
      refine a_callVi K (s_X6_carryOutText S r1.1  (sI r1.2 0 0 7 r15) r20 h20) v_0 rfl rfl cw_X6_carryOutText ml_X6_206 (by decide) rfl (rest := []) rfl (Nat.le_of_ble_eq_true rfl) (dq 20 rfl) (by decide) ?_
      refine a_if_eq K (tgt := 48) (dq 21 rfl) rfl (fun c21 => ?_) (fun c21 => ?_)
      · have h := ite_t c21 h
        refine a_iconst K (dq 24 rfl) (v := 0) rfl ?_
        refine a_istore_n K (dq 25 rfl) rfl (Nat.le_of_ble_eq_true rfl) (ls' := [some (.ref (ρ 0 0)), some (.int r1.1), some (.int 0)]) rfl ?_
        refine a_aload_n K (dq 26 rfl) rfl rfl ?_
        refine a_get K (T := 0) (i := 0) (k := 6) (v := .ref (ρ 9 0)) v_0 rfl rfl in_X6 (Nat.le_of_ble_eq_true rfl) fl_X6_39 rfl (dq 27 rfl) ?_
        obtain ⟨r22, h22, h⟩ := bnd h
        refine a_callVv K (s_X4_clear S   r20.2 r22 h22) v_9 rfl rfl cw_X4_clear ml_X6_209 (by decide) rfl (rest := []) rfl (Nat.le_of_ble_eq_true rfl) (dq 28 rfl) (by decide) ?_
        refine a_aload_n K (dq 29 rfl) rfl rfl ?_
        refine a_get K (T := 0) (i := 0) (k := 7) (v := .int (gI r22 0 0 7)) v_0 rfl rfl in_X6 (Nat.le_of_ble_eq_true rfl) fl_X6_43 rfl (dq 30 rfl) ?_
        refine a_iconst K (dq 31 rfl) (v := (-1)) rfl ?_
        refine a_icmp_eq K (tgt := 75) (dq 32 rfl) rfl (fun c23 => ?_) (fun c23 => ?_)
        · have h := ite_t c23 h
          refine a_iload_n K (dq 38 rfl) rfl rfl ?_
          refine a_if_ne K (tgt := 89) (dq 39 rfl) rfl (fun c24 => ?_) (fun c24 => ?_)
          · exact absurd c24 (by decide)
          · obtain rfl := Option.some.inj h
            exact a_throwS K hX th_X6_214_216_218 (dq 40 rfl) (dq 41 rfl) (dq 42 rfl) (dq 43 rfl) (dq 44 rfl) (Nat.le_of_ble_eq_true rfl) (Nat.le_of_ble_eq_true rfl) (Nat.le_of_ble_eq_true rfl) (Nat.le_of_ble_eq_true rfl) (Nat.le_of_ble_eq_true rfl) (Nat.le_of_ble_eq_true rfl) rfl rfl
        · have h := ite_f c23 h
          obtain rfl := Option.some.inj h
          exact a_throwS K hX th_X6_95_212_99 (dq 33 rfl) (dq 34 rfl) (dq 35 rfl) (dq 36 rfl) (dq 37 rfl) (Nat.le_of_ble_eq_true rfl) (Nat.le_of_ble_eq_true rfl) (Nat.le_of_ble_eq_true rfl) (Nat.le_of_ble_eq_true rfl) (Nat.le_of_ble_eq_true rfl) (Nat.le_of_ble_eq_true rfl) rfl rfl
      · have h := ite_f c21 h
        refine a_iconst K (dq 22 rfl) (v := 1) rfl ?_
        refine a_goto K (tgt := 49) (dq 23 rfl) rfl ?_
        refine a_istore_n K (dq 25 rfl) rfl (Nat.le_of_ble_eq_true rfl) (ls' := [some (.ref (ρ 0 0)), some (.int r1.1), some (.int 1)]) rfl ?_
        refine a_aload_n K (dq 26 rfl) rfl rfl ?_
        refine a_get K (T := 0) (i := 0) (k := 6) (v := .ref (ρ 9 0)) v_0 rfl rfl in_X6 (Nat.le_of_ble_eq_true rfl) fl_X6_39 rfl (dq 27 rfl) ?_
        obtain ⟨r25, h25, h⟩ := bnd h
        refine a_callVv K (s_X4_clear S   r20.2 r25 h25) v_9 rfl rfl cw_X4_clear ml_X6_209 (by decide) rfl (rest := []) rfl (Nat.le_of_ble_eq_true rfl) (dq 28 rfl) (by decide) ?_
        refine a_aload_n K (dq 29 rfl) rfl rfl ?_
        refine a_get K (T := 0) (i := 0) (k := 7) (v := .int (gI r25 0 0 7)) v_0 rfl rfl in_X6 (Nat.le_of_ble_eq_true rfl) fl_X6_43 rfl (dq 30 rfl) ?_
        refine a_iconst K (dq 31 rfl) (v := (-1)) rfl ?_
        refine a_icmp_eq K (tgt := 75) (dq 32 rfl) rfl (fun c26 => ?_) (fun c26 => ?_)
        · have h := ite_t c26 h
          refine a_iload_n K (dq 38 rfl) rfl rfl ?_
          refine a_if_ne K (tgt := 89) (dq 39 rfl) rfl (fun c27 => ?_) (fun c27 => ?_)
          · refine a_iload_n K (dq 45 rfl) rfl rfl ?_
            obtain rfl := Option.some.inj h
            exact a_iret K rfl rfl (dq 46 rfl) (Nat.le_of_ble_eq_true rfl) (Nat.le_of_ble_eq_true rfl) rfl rfl
          · exact absurd c27 (by decide)
        · have h := ite_f c26 h
          obtain rfl := Option.some.inj h
          exact a_throwS K hX th_X6_95_212_99 (dq 33 rfl) (dq 34 rfl) (dq 35 rfl) (dq 36 rfl) (dq 37 rfl) (Nat.le_of_ble_eq_true rfl) (Nat.le_of_ble_eq_true rfl) (Nat.le_of_ble_eq_true rfl) (Nat.le_of_ble_eq_true rfl) (Nat.le_of_ble_eq_true rfl) (Nat.le_of_ble_eq_true rfl) rfl rfl
