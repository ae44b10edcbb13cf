/-! STRINGS that are constants, and the JDK's own members over them; floatToIntBits -/
section AM7
variable {p : Program} {l : Launch} {e : Env} {R : Room} {s : State} {m : MethodId} {args : Array Value} {below : List Frame} {meth : Method} {c : Code} {Q : State → Prop}
variable {D : va_G} {ty : Nat → ClassId} {ρ : Nat → Nat → Nat} {N0 nL : Nat} {cc : ByteArray} {own : String} {ret : Option FieldType}
variable {pc : Nat} {ls : List (Option Value)} {st : List Value} {σ σ' : Sg} {cells slots : Nat} {out : Option Value ⊕ String}
theorem a_gets (K : Cx p l s m args meth c cc nL own ret D ty ρ N0) {C n d : String} {v : Value} {index : Nat} (hZ : va_Z C n d v (fun q => N0 ≤ q) s s.heap) (hl : Cond.fieldLink own index C n d ∈ GW) (hdg : decode cc pc = .ok (.getstatic index, 3))
    (kk : WA p l e R s m args below meth c D ty ρ N0 nL Q (pc + 3) ls (v :: st) σ cells slots) : WA p l e R s m args below meth c D ty ρ N0 nL Q pc ls st σ cells slots := fun H locs lsr hP hS hL => va_gets K.1.1 K.1.2.1 hZ hS K.1.2.2.2.1 (K.1.2.2.2.2 _ hl) (fun _ h => h) hdg (kk H locs lsr hP hS hL)
theorem a_sget (K : Cx p l s m args meth c cc nL own ret D ty ρ N0) {n d : String} {v : Value} {index q : Nat} (hE : va_OF "java/lang/String" n d v q (fun q => N0 ≤ q) s s.heap) (hl : Cond.fieldLink own index "java/lang/String" n d ∈ GW) (hdg : decode cc pc = .ok (.getfield index, 3))
    (kk : WA p l e R s m args below meth c D ty ρ N0 nL Q (pc + 3) ls (v :: st) σ cells slots) : WA p l e R s m args below meth c D ty ρ N0 nL Q pc ls (.ref q :: st) σ cells slots := fun H locs lsr hP hS hL => vk_getf K.1.1 K.1.2.1 hE hS K.1.2.2.2.1 (K.1.2.2.2.2 _ hl) (fun _ h => h) hdg (kk H locs lsr hP hS hL)
theorem a_tlen (K : Cx p l s m args meth c cc nL own ret D ty ρ N0) {t9 : FieldType} {t N : Nat} {f : Nat → Value} (hT : va_T t9 t N f (fun q => N0 ≤ q) s s.heap) {v : Int32} (hv : Int32.ofNat N = v) (hdg : decode cc pc = .ok (.arraylength, 1))
    (kk : WA p l e R s m args below meth c D ty ρ N0 nL Q (pc + 1) ls (.int v :: st) σ cells slots) : WA p l e R s m args below meth c D ty ρ N0 nL Q pc ls (.ref t :: st) σ cells slots := fun H locs lsr hP hS hL => va_tlen K.1.1 K.1.2.1 hT hS hv hdg (kk H locs lsr hP hS hL)
theorem a_tb (K : Cx p l s m args meth c cc nL own ret D ty ρ N0) {t N : Nat} {f : Nat → Value} (hT : va_T .byte t N f (fun q => N0 ≤ q) s s.heap) {j : Int32} (hin : vp_in j N) {v : Value} (hv : f j.toNatClampNeg = v) (hdg : decode cc pc = .ok (.baload, 1))
    (kk : WA p l e R s m args below meth c D ty ρ N0 nL Q (pc + 1) ls (v :: st) σ cells slots) : WA p l e R s m args below meth c D ty ρ N0 nL Q pc ls (.int j :: .ref t :: st) σ cells slots := fun H locs lsr hP hS hL => va_tb K.1.1 K.1.2.1 hT hS hin hv hdg (kk H locs lsr hP hS hL)
theorem a_ishr (K : Cx p l s m args meth c cc nL own ret D ty ρ N0) {x y : Int32} (hdg : decode cc pc = .ok (.ishr, 1))
    (k : WA p l e R s m args below meth c D ty ρ N0 nL Q (pc + 1) ls (.int (x >>> (y &&& 31)) :: st) σ cells slots) : WA p l e R s m args below meth c D ty ρ N0 nL Q pc ls (.int y :: .int x :: st) σ cells slots := fun H locs lsr hP hS hL => lv_ishr K.1.1 K.1.2.1 hdg (k H locs lsr hP hS hL)
theorem a_ldcS (K : Cx p l s m args meth c cc nL own ret D ty ρ N0) {tx : String} {index q : Nat} (hZ : vk_R own index tx q s) (hdg : decode cc pc = .ok (.ldc index, 2))
    (k : WA p l e R s m args below meth c D ty ρ N0 nL Q (pc + 2) ls (.ref q :: st) σ cells slots) : WA p l e R s m args below meth c D ty ρ N0 nL Q pc ls st σ cells slots := fun H locs lsr hP hS hL => va_ldcS K.1.1 K.1.2.1 K.1.2.2.2.1 hZ hdg (k H locs lsr hP hS hL)
/-- a virtual call on an object that was there before the run -/
theorem a_callVR (K : Cx p l s m args meth c cc nL own ret D ty ρ N0) {b index maxL n : Nat} {C : String} {y : MethodName} {bytes : ByteArray} {ret' : Option FieldType} {rm : Room} {As rest : List Value}
    (hM : AMet l D ty ρ N0 y (Cond.code y bytes maxL ret' :: GW) rm (.ref b :: As) σ out σ') (hrec : ∀ H locs, va_S (fun q => N0 ≤ q) s.heap H locs → ∃ cell : Cell, H[b]? = some cell ∧ cell.vm.isStatics = false ∧ s.vm.findClass C = some cell.cls)
    (hw : CwV C y bytes maxL ret' n) (hl : Cond.methodLink own index y ∈ GW) (hR : Fits rm R maxL) (hn : As.length = n) (hst : As.reverse ++ .ref b :: rest = st) (hW : (rest.map fun v => v.category).sum ≤ 8) (hdg : decode cc pc = .ok (.invokevirtual index, 3)) (hf : cells + rm.cells ≤ R.cells ∧ slots + rm.slots ≤ R.slots)
    (kk : ∀ ov, out = .inl ov → WA p l e R s m args below meth c D ty ρ N0 nL Q (pc + 3) ls (ov.toList ++ rest) σ' (cells + rm.cells) (slots + rm.slots))
    (kx : ∀ E, out = .inr E → WX p l e R s m args below meth c D ty ρ N0 nL Q pc ls rest E σ' (cells + rm.cells) (slots + rm.slots)) : WA p l e R s m args below meth c D ty ρ N0 nL Q pc ls st σ cells slots := fun H locs lsr hP hS hL => by
  subst hst
  obtain ⟨h1, h2, h3, h4, h5⟩ := hw
  have hG : GoodIn GW (wsV own index C y (Cond.code y bytes maxL ret' :: GW)) := goodIn_GW (fun w h => by
    simp only [wsV, List.cons_append, List.nil_append, List.mem_cons] at h
    rcases h with rfl | rfl | rfl | rfl | rfl | h <;> assumption)
  have hcw := cwV (R := R) (s := s) (args := args) (rm := rm) n K.1.2.2.2.2 hG rfl rfl rfl h5 hR
  have hrun := vx_runV (p := p) (l := l) (e := e) (below := below) (meth := meth) (locs := locs) (cells := cells) (slots := slots) (g := F0 m pc lsr (As.reverse ++ .ref b :: rest)) (rest := rest) K.1 hM hcw
    ⟨blind_W _, hrec H locs hS, fun U hU hW => ⟨rfl, world_of K hP hS hU hW⟩⟩ rfl hn hL.1 rfl (lv_room hW) hdg hf
  exact a_call_core hrun hS hL kk kx
/-- a static call of another class's method -/
theorem a_callSX (K : Cx p l s m args meth c cc nL own ret D ty ρ N0) {C : String} {index maxL n : Nat} {y : MethodName} {bytes : ByteArray} {ret' : Option FieldType} {rm : Room} {As rest : List Value}
    (hM : AMet l D ty ρ N0 y (Cond.code y bytes maxL ret' :: GW) rm As σ out σ') (hw : CwS C y bytes maxL ret' n) (hl : Cond.methodLink own index y ∈ GW) (hR : Fits rm R maxL) (hn : As.length = n) (hst : As.reverse ++ rest = st) (hW : (rest.map fun v => v.category).sum ≤ 8) (hdg : decode cc pc = .ok (.invokestatic index, 3)) (hf : cells + rm.cells ≤ R.cells ∧ slots + rm.slots ≤ R.slots)
    (kk : ∀ ov, out = .inl ov → WA p l e R s m args below meth c D ty ρ N0 nL Q (pc + 3) ls (ov.toList ++ rest) σ' (cells + rm.cells) (slots + rm.slots))
    (kx : ∀ E, out = .inr E → WX p l e R s m args below meth c D ty ρ N0 nL Q pc ls rest E σ' (cells + rm.cells) (slots + rm.slots)) : WA p l e R s m args below meth c D ty ρ N0 nL Q pc ls st σ cells slots := fun H locs lsr hP hS hL => by
  subst hst
  obtain ⟨h1, h2, h3, h4, h5⟩ := hw
  have hG : GoodIn GW (Cond.code y bytes maxL ret' :: GW) := goodIn_GW (fun w h => by
    simp only [List.mem_cons] at h
    rcases h with rfl | h <;> assumption)
  have hcw : CallB R s args own index y bytes maxL ret' (Cond.code y bytes maxL ret' :: GW) rm rm.cells rm.slots n ∧ (Cond.static y).before args s = true :=
    ⟨callB_of n K.1.2.2.2.2 hG rfl rfl rfl (by rw [h4]; exact K.1.2.2.2.2 _ h3) (K.1.2.2.2.2 _ hl) h5 hR, K.1.2.2.2.2 _ h2⟩
  have hrun := vx_runS (p := p) (l := l) (e := e) (below := below) (meth := meth) (locs := locs) (cells := cells) (slots := slots) (g := F0 m pc lsr (As.reverse ++ rest)) (rest := rest) K.1 hM hcw
    ⟨blind_W _, fun U hU hW => ⟨rfl, world_of K hP hS hU hW⟩⟩ rfl hn hL.1 rfl (lv_room hW) hdg hf
  exact a_call_core hrun hS hL kk kx
theorem a_rawbits (K : Cx p l s m args meth c cc nL own ret D ty ρ N0) {index : Nat} (hl : Cond.methodLink own index ⟨"java/lang/Float", "floatToRawIntBits", "(F)I"⟩ ∈ GW) (hn : Cond.native ⟨"java/lang/Float", "floatToRawIntBits", "(F)I"⟩ ∈ GW) (hs : Cond.static ⟨"java/lang/Float", "floatToRawIntBits", "(F)I"⟩ ∈ GW) (hi : Cond.initialized "java/lang/Float" ∈ GW) {b : UInt32}
    (hf : 1 ≤ R.frames) (hlo : (st.map fun v => v.category).sum + 15 ≤ R.locals) (hdg : decode cc pc = .ok (.invokestatic index, 3))
    (k : WA p l e R s m args below meth c D ty ρ N0 nL Q (pc + 3) ls (.int b.toInt32 :: st) σ cells slots) : WA p l e R s m args below meth c D ty ρ N0 nL Q pc ls (.float b :: st) σ cells slots := fun H locs lsr hP hS hL =>
  vn_f2i K.1.1 K.1.2.1 (K.1.2.2.1.trans hL.1.symm) K.1.2.2.2.1 (K.1.2.2.2.2 _ hl) (K.1.2.2.2.2 _ hn) (K.1.2.2.2.2 _ hs) (K.1.2.2.2.2 _ hi) hf hlo hdg (k H locs lsr hP hS hL)
end AM7
theorem cw_J_coder : CwV RJ0 yJ0_coder_7d493 cJ0_coder_7d493 1 (some .byte) 0 := ⟨gwp 874 (by decide +kernel) rfl, gwp 872 (by decide +kernel) rfl, gwp 873 (by decide +kernel) rfl, gwp 18 (by decide +kernel) rfl, by decide +kernel⟩
theorem cw_J_latin : CwV RJ0 yJ0_isLatin1_aae02 cJ0_isLatin1_aae02 1 (some .boolean) 0 := ⟨gwp 884 (by decide +kernel) rfl, gwp 882 (by decide +kernel) rfl, gwp 883 (by decide +kernel) rfl, gwp 18 (by decide +kernel) rfl, by decide +kernel⟩
theorem cw_J_length : CwV RJ0 yJ0_length_8abf5 cJ0_length_8abf5 1 (some .int) 0 := ⟨gwp 870 (by decide +kernel) rfl, gwp 868 (by decide +kernel) rfl, gwp 869 (by decide +kernel) rfl, gwp 18 (by decide +kernel) rfl, by decide +kernel⟩
theorem cw_J_isEmpty : CwV RJ0 yJ0_isEmpty_aae02 cJ0_isEmpty_aae02 1 (some .boolean) 0 := ⟨gwp 866 (by decide +kernel) rfl, gwp 864 (by decide +kernel) rfl, gwp 865 (by decide +kernel) rfl, gwp 18 (by decide +kernel) rfl, by decide +kernel⟩
theorem cw_J_charAt : CwV RJ0 yJ0_charAt_5068e cJ0_charAt_5068e 2 (some .char) 1 := ⟨gwp 880 (by decide +kernel) rfl, gwp 878 (by decide +kernel) rfl, gwp 879 (by decide +kernel) rfl, gwp 18 (by decide +kernel) rfl, by decide +kernel⟩
theorem cw_J_check : CwS RJ0 yJ0_checkIndex_df160 cJ0_checkIndex_df160 2 none 2 := ⟨gwp 890 (by decide +kernel) rfl, gwp 889 (by decide +kernel) rfl, gwp 18 (by decide +kernel) rfl, by decide +kernel⟩
theorem cw_J_lcharAt : CwS RJ1 yJ1_charAt_3b067 cJ1_charAt_3b067 2 (some .char) 2 := ⟨gwp 887 (by decide +kernel) rfl, gwp 886 (by decide +kernel) rfl, gwp 22 (by decide +kernel) rfl, by decide +kernel⟩
theorem cw_J_pre : CwS RJ3 yJ3_checkIndex_8e157 cJ3_checkIndex_8e157 3 (some .int) 3 := ⟨gwp 895 (by decide +kernel) rfl, gwp 894 (by decide +kernel) rfl, gwp 23 (by decide +kernel) rfl, by decide +kernel⟩
theorem fl_J_38 : Cond.fieldLink RJ0 38 "java/lang/String" "COMPACT_STRINGS" "Z" ∈ GW := gwp 875 (by decide +kernel) rfl
theorem fl_J_15 : Cond.fieldLink RJ0 15 "java/lang/String" "coder" "B" ∈ GW := gwp 1575 (by decide +kernel) rfl
theorem fl_J_9 : Cond.fieldLink RJ0 9 "java/lang/String" "value" "[B" ∈ GW := gwp 1574 (by decide +kernel) rfl
theorem fl_J_1053 : Cond.fieldLink RJ0 1053 "jdk/internal/util/Preconditions" "SIOOBE_FORMATTER" "Ljava/util/function/BiFunction;" ∈ GW := gwp 891 (by decide +kernel) rfl
theorem ml_J_335 : Cond.methodLink RJ0 335 yJ0_coder_7d493 ∈ GW := gwp 871 (by decide +kernel) rfl
theorem ml_J_492 : Cond.methodLink RJ0 492 yJ0_isLatin1_aae02 ∈ GW := gwp 881 (by decide +kernel) rfl
theorem ml_J_495 : Cond.methodLink RJ0 495 yJ1_charAt_3b067 ∈ GW := gwp 885 (by decide +kernel) rfl
theorem ml_J_1059 : Cond.methodLink RJ0 1059 yJ3_checkIndex_8e157 ∈ GW := gwp 893 (by decide +kernel) rfl
theorem ml_J1_9 : Cond.methodLink RJ1 9 yJ0_checkIndex_df160 ∈ GW := gwp 888 (by decide +kernel) rfl
theorem ml_X4_47 : Cond.methodLink RX4 47 yJ0_isEmpty_aae02 ∈ GW := gwp 863 (by decide +kernel) rfl
theorem ml_X4_58 : Cond.methodLink RX4 58 yJ0_length_8abf5 ∈ GW := gwp 867 (by decide +kernel) rfl
theorem ml_X4_61 : Cond.methodLink RX4 61 yJ0_charAt_5068e ∈ GW := gwp 877 (by decide +kernel) rfl
theorem ml_X4_43 : Cond.methodLink RX4 43 yX4_shapeOf ∈ GW := gwp 854 (by decide +kernel) rfl
theorem cw_X4_shapeOf : CwS RX4 yX4_shapeOf cX4_shapeOf 1 (some (.object "java/lang/String")) 1 := ⟨gwp 856 (by decide +kernel) rfl, gwp 855 (by decide +kernel) rfl, gwp 6 (by decide +kernel) rfl, by decide +kernel⟩
section STR
variable {l : Launch} {D : va_G} {ty : Nat → ClassId} {ρ : Nat → Nat → Nat} {N0 : Nat}
def t_Jcoder : List (Nat × Instr × Nat) := [(0, .getstatic 38, 3), (3, .ifCond .eq 10, 3), (6, .aload_n 0, 1), (7, .getfield 15, 3), (10, .goto 4, 3), (13, .iconst 1, 1), (14, .ireturn, 1)]
theorem dt_Jcoder : tblOK cJ0_coder_7d493 t_Jcoder = true := by decide +kernel
set_option maxRecDepth 20000 in
theorem s_Jcoder (S : St l ty ρ N0) {i : Nat} (hi : i < 6) (σ : Sg) : AMet l D ty ρ N0 yJ0_coder_7d493 (Cond.code yJ0_coder_7d493 cJ0_coder_7d493 1 (some .byte) :: GW) (rmk 1 0 0) [.ref (ρ 40 i)] σ (oI 0) σ := by
  refine am_enter S (by decide) rfl rfl (Nat.le_of_ble_eq_true rfl) ?_
  intro p e s m args below meth c K hX
  have dq := @tat _ _ dt_Jcoder
  obtain ⟨-, z1, z2, z3⟩ := K.2.2.1.2.2.1.1 i hi
  show WA p l e _ s m args below meth c D ty ρ N0 1 _ 0 [some (.ref (ρ 40 i))] [] σ 0 0
  refine a_gets K K.2.2.1.2.2.2.1 fl_J_38 (dq 0 rfl) ?_
  refine a_if_eq K (tgt := 13) (dq 1 rfl) rfl (fun c1 => absurd c1 (by decide)) (fun c1 => ?_)
  refine a_aload_n K (dq 2 rfl) rfl rfl ?_
  refine a_sget K z1 fl_J_15 (dq 3 rfl) ?_
  refine a_goto K (tgt := 14) (dq 4 rfl) rfl ?_
  exact a_iret K rfl rfl (dq 6 rfl) (Nat.le_of_ble_eq_true rfl) (Nat.le_of_ble_eq_true rfl) rfl rfl
def t_Jlatin : List (Nat × Instr × Nat) := [(0, .getstatic 38, 3), (3, .ifCond .eq 14, 3), (6, .aload_n 0, 1), (7, .getfield 15, 3), (10, .ifCond .ne 7, 3), (13, .iconst 1, 1), (14, .goto 4, 3), (17, .iconst 0, 1), (18, .ireturn, 1)]
theorem dt_Jlatin : tblOK cJ0_isLatin1_aae02 t_Jlatin = true := by decide +kernel
set_option maxRecDepth 20000 in
theorem s_Jlatin (S : St l ty ρ N0) {i : Nat} (hi : i < 6) (σ : Sg) : AMet l D ty ρ N0 yJ0_isLatin1_aae02 (Cond.code yJ0_isLatin1_aae02 cJ0_isLatin1_aae02 1 (some .boolean) :: GW) (rmk 1 0 0) [.ref (ρ 40 i)] σ (oI 1) σ := by
  refine am_enter S (by decide) rfl rfl (Nat.le_of_ble_eq_true rfl) ?_
  intro p e s m args below meth c K hX
  have dq := @tat _ _ dt_Jlatin
  obtain ⟨-, z1, z2, z3⟩ := K.2.2.1.2.2.1.1 i hi
  show WA p l e _ s m args below meth c D ty ρ N0 1 _ 0 [some (.ref (ρ 40 i))] [] σ 0 0
  refine a_gets K K.2.2.1.2.2.2.1 fl_J_38 (dq 0 rfl) ?_
  refine a_if_eq K (tgt := 17) (dq 1 rfl) rfl (fun c1 => absurd c1 (by decide)) (fun c1 => ?_)
  refine a_aload_n K (dq 2 rfl) rfl rfl ?_
  refine a_sget K z1 fl_J_15 (dq 3 rfl) ?_
  refine a_if_ne K (tgt := 17) (dq 4 rfl) rfl (fun c2 => absurd rfl c2) (fun c2 => ?_)
  refine a_iconst K (dq 5 rfl) (v := 1) rfl ?_
  refine a_goto K (tgt := 18) (dq 6 rfl) rfl ?_
  exact a_iret K rfl rfl (dq 8 rfl) (Nat.le_of_ble_eq_true rfl) (Nat.le_of_ble_eq_true rfl) rfl rfl
def shL (i : Nat) : Int32 := nI (shLen.getD i 0)
def shE (i : Nat) : Int32 := if shLen.getD i 0 = 0 then 1 else 0
def shC (i k : Nat) : Int32 := (shByt.getD i []).getD k 0
theorem recS {p : Program} {s : State} {m : MethodId} {args : Array Value} {meth : Method} {c : Code} {cc : ByteArray} {nL : Nat} {own : String} {ret : Option FieldType} (K : Cx p l s m args meth c cc nL own ret D ty ρ N0) {i : Nat} (hi : i < 6) : ∀ H locs, va_S (fun q => N0 ≤ q) s.heap H locs → ∃ cell : Cell, H[ρ 40 i]? = some cell ∧ cell.vm.isStatics = false ∧ s.vm.findClass RJ0 = some cell.cls := fun _ _ hS => vk_recv K.2.2.1.2.2.1 hi hS
def t_Jlength : List (Nat × Instr × Nat) := [(0, .aload_n 0, 1), (1, .getfield 9, 3), (4, .arraylength, 1), (5, .aload_n 0, 1), (6, .invokevirtual 335, 3), (9, .ishr, 1), (10, .ireturn, 1)]
theorem dt_Jlength : tblOK cJ0_length_8abf5 t_Jlength = true := by decide +kernel
theorem shL_shr : ∀ i, i < 6 → shL i >>> ((0 : Int32) &&& 31) = shL i := by decide +kernel
set_option maxRecDepth 20000 in
theorem s_Jlength (S : St l ty ρ N0) {i : Nat} (hi : i < 6) (σ : Sg) : AMet l D ty ρ N0 yJ0_length_8abf5 (Cond.code yJ0_length_8abf5 cJ0_length_8abf5 1 (some .int) :: GW) (rmk 2 0 0) [.ref (ρ 40 i)] σ (oI (shL i)) σ := by
  refine am_enter S (by decide) rfl rfl (Nat.le_of_ble_eq_true rfl) ?_
  intro p e s m args below meth c K hX
  have dq := @tat _ _ dt_Jlength
  obtain ⟨-, z1, z2, z3⟩ := K.2.2.1.2.2.1.1 i hi
  show WA p l e _ s m args below meth c D ty ρ N0 1 _ 0 [some (.ref (ρ 40 i))] [] σ 0 0
  refine a_aload_n K (dq 0 rfl) rfl rfl ?_
  refine a_sget K z2 fl_J_9 (dq 1 rfl) ?_
  refine a_tlen K z3 (v := shL i) rfl (dq 2 rfl) ?_
  refine a_aload_n K (dq 3 rfl) rfl rfl ?_
  refine a_callVR K (s_Jcoder S hi σ) (recS K hi) cw_J_coder ml_J_335 (by decide) rfl (rest := [.int (shL i)]) rfl (Nat.le_of_ble_eq_true rfl) (dq 4 rfl) (by decide) (fun ov ho => ?_) (fun E ho => by cases ho)
  cases ho
  refine a_ishr K (x := shL i) (y := 0) (dq 5 rfl) ?_
  rw [shL_shr i hi]
  exact a_iret K rfl rfl (dq 6 rfl) (Nat.le_of_ble_eq_true rfl) (Nat.le_of_ble_eq_true rfl) rfl rfl
def t_Jempty : List (Nat × Instr × Nat) := [(0, .aload_n 0, 1), (1, .getfield 9, 3), (4, .arraylength, 1), (5, .ifCond .ne 7, 3), (8, .iconst 1, 1), (9, .goto 4, 3), (12, .iconst 0, 1), (13, .ireturn, 1)]
theorem dt_Jempty : tblOK cJ0_isEmpty_aae02 t_Jempty = true := by decide +kernel
theorem shE_ne : ∀ i, i < 6 → (¬ shL i = 0 → shE i = 0) ∧ (shL i = 0 → shE i = 1) := by decide +kernel
set_option maxRecDepth 20000 in
theorem s_Jempty (S : St l ty ρ N0) {i : Nat} (hi : i < 6) (σ : Sg) : AMet l D ty ρ N0 yJ0_isEmpty_aae02 (Cond.code yJ0_isEmpty_aae02 cJ0_isEmpty_aae02 1 (some .boolean) :: GW) (rmk 1 0 0) [.ref (ρ 40 i)] σ (oI (shE i)) σ := by
  refine am_enter S (by decide) rfl rfl (Nat.le_of_ble_eq_true rfl) ?_
  intro p e s m args below meth c K hX
  have dq := @tat _ _ dt_Jempty
  obtain ⟨-, z1, z2, z3⟩ := K.2.2.1.2.2.1.1 i hi
  show WA p l e _ s m args below meth c D ty ρ N0 1 _ 0 [some (.ref (ρ 40 i))] [] σ 0 0
  refine a_aload_n K (dq 0 rfl) rfl rfl ?_
  refine a_sget K z2 fl_J_9 (dq 1 rfl) ?_
  refine a_tlen K z3 (v := shL i) rfl (dq 2 rfl) ?_
  refine a_if_ne K (tgt := 12) (dq 3 rfl) rfl (fun c1 => ?_) (fun c1 => ?_)
  · refine a_iconst K (dq 6 rfl) (v := 0) rfl ?_
    exact a_iret K rfl rfl (dq 7 rfl) (Nat.le_of_ble_eq_true rfl) (Nat.le_of_ble_eq_true rfl) (by rw [(shE_ne i hi).1 c1]; rfl) rfl
  · refine a_iconst K (dq 4 rfl) (v := 1) rfl ?_
    refine a_goto K (tgt := 13) (dq 5 rfl) rfl ?_
    exact a_iret K rfl rfl (dq 7 rfl) (Nat.le_of_ble_eq_true rfl) (Nat.le_of_ble_eq_true rfl) (by rw [(shE_ne i hi).2 c1]; rfl) rfl
def t_Jpre : List (Nat × Instr × Nat) := [(0, .iload_n 0, 1), (1, .ifCond .lt 8, 3), (4, .iload_n 0, 1), (5, .iload_n 1, 1), (6, .if_icmp .lt 10, 3), (16, .iload_n 0, 1), (17, .ireturn, 1)]
theorem dt_Jpre : tblOK cJ3_checkIndex_8e157 t_Jpre = true := by decide +kernel
set_option maxRecDepth 20000 in
theorem s_Jpre (S : St l ty ρ N0) {a b : Int32} {v : Value} (h0 : ¬ a < 0) (h1 : a < b) (hv : v = .null ∨ ∃ t, v = .ref t) (σ : Sg) : AMet l D ty ρ N0 yJ3_checkIndex_8e157 (Cond.code yJ3_checkIndex_8e157 cJ3_checkIndex_8e157 3 (some .int) :: GW) (rmk 1 0 0) [.int a, .int b, v] σ (oI a) σ := by
  refine am_enter S (by decide) rfl (by rcases hv with rfl | ⟨t, rfl⟩ <;> rfl) (Nat.le_of_ble_eq_true rfl) ?_
  intro p e s m args below meth c K hX
  have dq := @tat _ _ dt_Jpre
  show WA p l e _ s m args below meth c D ty ρ N0 3 _ 0 [some (.int a), some (.int b), some v] [] σ 0 0
  refine a_iload_n K (dq 0 rfl) rfl rfl ?_
  refine a_if_lt K (tgt := 9) (dq 1 rfl) rfl (fun c1 => absurd c1 h0) (fun c1 => ?_)
  refine a_iload_n K (dq 2 rfl) rfl rfl ?_
  refine a_iload_n K (dq 3 rfl) rfl rfl ?_
  refine a_icmp_lt K (tgt := 16) (dq 4 rfl) rfl (fun c2 => ?_) (fun c2 => absurd h1 c2)
  refine a_iload_n K (dq 5 rfl) rfl rfl ?_
  exact a_iret K rfl rfl (dq 6 rfl) (Nat.le_of_ble_eq_true rfl) (Nat.le_of_ble_eq_true rfl) rfl rfl
def t_Jcheck : List (Nat × Instr × Nat) := [(0, .iload_n 0, 1), (1, .iload_n 1, 1), (2, .getstatic 1053, 3), (5, .invokestatic 1059, 3), (8, .pop, 1), (9, .return_, 1)]
theorem dt_Jcheck : tblOK cJ0_checkIndex_df160 t_Jcheck = true := by decide +kernel
set_option maxRecDepth 20000 in
theorem s_Jcheck (S : St l ty ρ N0) {a b : Int32} (h0 : ¬ a < 0) (h1 : a < b) (σ : Sg) : AMet l D ty ρ N0 yJ0_checkIndex_df160 (Cond.code yJ0_checkIndex_df160 cJ0_checkIndex_df160 2 none :: GW) (rmk 2 0 0) [.int a, .int b] σ (.inl none) σ := by
  refine am_enter S (by decide) rfl rfl (Nat.le_of_ble_eq_true rfl) ?_
  intro p e s m args below meth c K hX
  have dq := @tat _ _ dt_Jcheck
  show WA p l e _ s m args below meth c D ty ρ N0 2 _ 0 [some (.int a), some (.int b)] [] σ 0 0
  refine a_iload_n K (dq 0 rfl) rfl rfl ?_
  refine a_iload_n K (dq 1 rfl) rfl rfl ?_
  have hz : ∃ v : Value, (v = .null ∨ ∃ t, v = .ref t) ∧ va_Z "jdk/internal/util/Preconditions" "SIOOBE_FORMATTER" "Ljava/util/function/BiFunction;" v (fun q => N0 ≤ q) s s.heap := by
    rcases K.2.2.1.2.2.2.2.1 with h | ⟨t, h⟩
    · exact ⟨.null, Or.inl rfl, h⟩
    · exact ⟨.ref t, Or.inr ⟨t, rfl⟩, h⟩
  obtain ⟨v, hv, hZ⟩ := hz
  refine a_gets K hZ fl_J_1053 (dq 2 rfl) ?_
  refine a_callSX K (s_Jpre S h0 h1 hv σ) cw_J_pre ml_J_1059 (by decide) rfl (rest := []) rfl (Nat.le_of_ble_eq_true rfl) (dq 3 rfl) (by decide) (fun ov ho => ?_) (fun E ho => by cases ho)
  cases ho
  refine a_pop K (va := .int a) (dq 4 rfl) rfl ?_
  exact a_vret K rfl (dq 5 rfl) (Nat.le_of_ble_eq_true rfl) (Nat.le_of_ble_eq_true rfl) rfl rfl
def t_Jlchar : List (Nat × Instr × Nat) := [(0, .iload_n 1, 1), (1, .aload_n 0, 1), (2, .arraylength, 1), (3, .invokestatic 9, 3), (6, .aload_n 0, 1), (7, .iload_n 1, 1), (8, .baload, 1), (9, .sipush 255, 3), (12, .iand, 1), (13, .i2c, 1), (14, .ireturn, 1)]
theorem dt_Jlchar : tblOK cJ1_charAt_3b067 t_Jlchar = true := by decide +kernel
theorem shC_ok : ∀ i, i < 6 → ∀ k, k < 5 → ((shC i k &&& 255).toUInt32 % 65536).toInt32 = shC i k ∧ nch (shC i k) = shC i k := by decide +kernel
theorem shLen5 : ∀ i, i < 6 → shLen.getD i 0 ≤ 5 := by decide +kernel
theorem nch_spec (x : Int32) : narrow .char (.int x) = .int (nch x) := rfl
set_option maxRecDepth 20000 in
theorem s_Jlchar (S : St l ty ρ N0) {i : Nat} (hi : i < 6) {k : Int32} (hk : vp_in k (shLen.getD i 0)) (σ : Sg) : AMet l D ty ρ N0 yJ1_charAt_3b067 (Cond.code yJ1_charAt_3b067 cJ1_charAt_3b067 2 (some .char) :: GW) (rmk 3 0 0) [.ref (ρ 41 i), .int k] σ (oI (shC i k.toNatClampNeg)) σ := by
  have h5 := shLen5 i hi
  obtain ⟨j, hj, rfl⟩ := vp_in_of hk (by omega)
  rw [nI_clamp (by omega)]
  obtain ⟨q1, q2⟩ := shC_ok i hi j (by omega)
  refine am_enter S (by decide) rfl rfl (Nat.le_of_ble_eq_true rfl) ?_
  intro p e s m args below meth c K hX
  have dq := @tat _ _ dt_Jlchar
  obtain ⟨-, z1, z2, z3⟩ := K.2.2.1.2.2.1.1 i hi
  show WA p l e _ s m args below meth c D ty ρ N0 2 _ 0 [some (.ref (ρ 41 i)), some (.int (nI j))] [] σ 0 0
  refine a_iload_n K (dq 0 rfl) rfl rfl ?_
  refine a_aload_n K (dq 1 rfl) rfl rfl ?_
  refine a_tlen K z3 (v := shL i) rfl (dq 2 rfl) ?_
  refine a_callSX K (s_Jcheck S (nI_pos (by omega)) (nI_lt hj (by omega)) σ) cw_J_check ml_J1_9 (by decide) rfl (rest := []) rfl (Nat.le_of_ble_eq_true rfl) (dq 3 rfl) (by decide) (fun ov ho => ?_) (fun E ho => by cases ho)
  cases ho
  show WA p l e _ s m args below meth c D ty ρ N0 2 _ 6 [some (.ref (ρ 41 i)), some (.int (nI j))] [] σ _ _
  refine a_aload_n K (dq 4 rfl) rfl rfl ?_
  refine a_iload_n K (dq 5 rfl) rfl rfl ?_
  refine a_tb K z3 hk (v := .int (shC i j)) (by show Value.int ((shByt.getD i []).getD (nI j).toNatClampNeg 0) = _; rw [nI_clamp (by omega)]; rfl) (dq 6 rfl) ?_
  refine a_sipush K (dq 7 rfl) (v := 255) rfl ?_
  refine a_iand K (dq 8 rfl) ?_
  refine a_i2c K (dq 9 rfl) ?_
  rw [q1]
  exact a_iret K rfl (w := shC i j) ((nch_spec _).trans (by rw [q2])) (dq 10 rfl) (Nat.le_of_ble_eq_true rfl) (Nat.le_of_ble_eq_true rfl) rfl rfl
def t_Jchar : List (Nat × Instr × Nat) := [(0, .aload_n 0, 1), (1, .invokevirtual 492, 3), (4, .ifCond .eq 12, 3), (7, .aload_n 0, 1), (8, .getfield 9, 3), (11, .iload_n 1, 1), (12, .invokestatic 495, 3), (15, .ireturn, 1)]
theorem dt_Jchar : tblOK cJ0_charAt_5068e t_Jchar = true := by decide +kernel
set_option maxRecDepth 20000 in
theorem s_Jchar (S : St l ty ρ N0) {i : Nat} (hi : i < 6) {k : Int32} (hk : vp_in k (shLen.getD i 0)) (σ : Sg) : AMet l D ty ρ N0 yJ0_charAt_5068e (Cond.code yJ0_charAt_5068e cJ0_charAt_5068e 2 (some .char) :: GW) (rmk 4 0 0) [.ref (ρ 40 i), .int k] σ (oI (shC i k.toNatClampNeg)) σ := by
  have h5 := shLen5 i hi
  have q2 : nch (shC i k.toNatClampNeg) = shC i k.toNatClampNeg := by
    obtain ⟨j, hj, rfl⟩ := vp_in_of hk (by omega)
    rw [nI_clamp (by omega)]
    exact (shC_ok i hi j (by omega)).2
  refine am_enter S (by decide) rfl rfl (Nat.le_of_ble_eq_true rfl) ?_
  intro p e s m args below meth c K hX
  have dq := @tat _ _ dt_Jchar
  obtain ⟨-, z1, z2, z3⟩ := K.2.2.1.2.2.1.1 i hi
  show WA p l e _ s m args below meth c D ty ρ N0 2 _ 0 [some (.ref (ρ 40 i)), some (.int k)] [] σ 0 0
  refine a_aload_n K (dq 0 rfl) rfl rfl ?_
  refine a_callVR K (s_Jlatin S hi σ) (recS K hi) cw_J_latin ml_J_492 (by decide) rfl (rest := []) rfl (Nat.le_of_ble_eq_true rfl) (dq 1 rfl) (by decide) (fun ov ho => ?_) (fun E ho => by cases ho)
  cases ho
  refine a_if_eq K (x := 1) (tgt := 16) (dq 2 rfl) rfl (fun c1 => absurd c1 (by decide)) (fun c1 => ?_)
  refine a_aload_n K (dq 3 rfl) rfl rfl ?_
  refine a_sget K z2 fl_J_9 (dq 4 rfl) ?_
  refine a_iload_n K (dq 5 rfl) rfl rfl ?_
  refine a_callSX K (s_Jlchar S hi hk σ) cw_J_lcharAt ml_J_495 (by decide) rfl (rest := []) rfl (Nat.le_of_ble_eq_true rfl) (dq 6 rfl) (by decide) (fun ov ho => ?_) (fun E ho => by cases ho)
  cases ho
  exact a_iret K rfl (w := shC i k.toNatClampNeg) ((nch_spec _).trans (by rw [q2])) (dq 7 rfl) (Nat.le_of_ble_eq_true rfl) (Nat.le_of_ble_eq_true rfl) rfl rfl
/-- which shape a letter has -/
def p_X4_shapeOf (a : Int32) : Nat := if a = 99 then 1 else if a = 100 then 4 else if a = 101 then 2 else if a = 102 then 0 else if a = 108 then 1 else if a = 114 then 2 else if a = 116 then 3 else 5
theorem shape_lt (a : Int32) : p_X4_shapeOf a < 6 := by
  unfold p_X4_shapeOf
  repeat' split
  all_goals decide
def t_X4_shapeOf : List (Nat × Instr × Nat) := [(0, .iload_n 0, 1), (1, .tableswitch 102 99 116 #[90, 99, 93, 87, 102, 102, 102, 102, 102, 90, 102, 102, 102, 102, 102, 93, 102, 96], 87), (88, .ldc 69, 2), (90, .areturn, 1), (91, .ldc 71, 2), (93, .areturn, 1), (94, .ldc 73, 2), (96, .areturn, 1), (97, .ldc 75, 2), (99, .areturn, 1), (100, .ldc 77, 2), (102, .areturn, 1), (103, .ldc 79, 2), (105, .areturn, 1)]
theorem dt_X4_shapeOf : tblOK cX4_shapeOf t_X4_shapeOf = true := by decide +kernel
set_option maxRecDepth 20000 in
set_option maxHeartbeats 1000000 in
theorem s_X4_shapeOf (S : St l ty ρ N0) (a : Int32) (σ : Sg) : AMet l D ty ρ N0 yX4_shapeOf (Cond.code yX4_shapeOf cX4_shapeOf 1 (some (.object "java/lang/String")) :: GW) (rmk 1 0 0) [.int a] σ (.inl (some (.ref (ρ 40 (p_X4_shapeOf a))))) σ := by
  refine am_enter S (by decide) rfl rfl (Nat.le_of_ble_eq_true rfl) ?_
  intro p e s m args below meth c K hX
  have dq := @tat _ _ dt_X4_shapeOf
  have hs := K.2.2.1.2.2.2.2.2
  show WA p l e _ s m args below meth c D ty ρ N0 1 _ 0 [some (.int a)] [] σ 0 0
  refine a_iload_n K (dq 0 rfl) rfl rfl ?_
  by_cases c1 : a = 99
  · refine a_tableIn K (off := 90) (tgt := 91) (dq 1 rfl) (by rw [c1]; decide) (by rw [c1]; decide) (by rw [c1]; rfl) rfl ?_
    refine a_ldcS K (hs 1 (by decide)) (dq 4 rfl) ?_
    exact a_aret K rfl (Or.inl ⟨_, rfl⟩) (Or.inr ⟨_, rfl⟩) (dq 5 rfl) (Nat.le_of_ble_eq_true rfl) (Nat.le_of_ble_eq_true rfl) (by rw [c1]; rfl) rfl
  by_cases c2 : a = 100
  · refine a_tableIn K (off := 99) (tgt := 100) (dq 1 rfl) (by rw [c2]; decide) (by rw [c2]; decide) (by rw [c2]; rfl) rfl ?_
    refine a_ldcS K (hs 4 (by decide)) (dq 10 rfl) ?_
    exact a_aret K rfl (Or.inl ⟨_, rfl⟩) (Or.inr ⟨_, rfl⟩) (dq 11 rfl) (Nat.le_of_ble_eq_true rfl) (Nat.le_of_ble_eq_true rfl) (by rw [c2]; rfl) rfl
  by_cases c3 : a = 101
  · refine a_tableIn K (off := 93) (tgt := 94) (dq 1 rfl) (by rw [c3]; decide) (by rw [c3]; decide) (by rw [c3]; rfl) rfl ?_
    refine a_ldcS K (hs 2 (by decide)) (dq 6 rfl) ?_
    exact a_aret K rfl (Or.inl ⟨_, rfl⟩) (Or.inr ⟨_, rfl⟩) (dq 7 rfl) (Nat.le_of_ble_eq_true rfl) (Nat.le_of_ble_eq_true rfl) (by rw [c3]; rfl) rfl
  by_cases c4 : a = 102
  · refine a_tableIn K (off := 87) (tgt := 88) (dq 1 rfl) (by rw [c4]; decide) (by rw [c4]; decide) (by rw [c4]; rfl) rfl ?_
    refine a_ldcS K (hs 0 (by decide)) (dq 2 rfl) ?_
    exact a_aret K rfl (Or.inl ⟨_, rfl⟩) (Or.inr ⟨_, rfl⟩) (dq 3 rfl) (Nat.le_of_ble_eq_true rfl) (Nat.le_of_ble_eq_true rfl) (by rw [c4]; rfl) rfl
  by_cases c5 : a = 108
  · refine a_tableIn K (off := 90) (tgt := 91) (dq 1 rfl) (by rw [c5]; decide) (by rw [c5]; decide) (by rw [c5]; rfl) rfl ?_
    refine a_ldcS K (hs 1 (by decide)) (dq 4 rfl) ?_
    exact a_aret K rfl (Or.inl ⟨_, rfl⟩) (Or.inr ⟨_, rfl⟩) (dq 5 rfl) (Nat.le_of_ble_eq_true rfl) (Nat.le_of_ble_eq_true rfl) (by rw [c5]; rfl) rfl
  by_cases c6 : a = 114
  · refine a_tableIn K (off := 93) (tgt := 94) (dq 1 rfl) (by rw [c6]; decide) (by rw [c6]; decide) (by rw [c6]; rfl) rfl ?_
    refine a_ldcS K (hs 2 (by decide)) (dq 6 rfl) ?_
    exact a_aret K rfl (Or.inl ⟨_, rfl⟩) (Or.inr ⟨_, rfl⟩) (dq 7 rfl) (Nat.le_of_ble_eq_true rfl) (Nat.le_of_ble_eq_true rfl) (by rw [c6]; rfl) rfl
  by_cases c7 : a = 116
  · refine a_tableIn K (off := 96) (tgt := 97) (dq 1 rfl) (by rw [c7]; decide) (by rw [c7]; decide) (by rw [c7]; rfl) rfl ?_
    refine a_ldcS K (hs 3 (by decide)) (dq 8 rfl) ?_
    exact a_aret K rfl (Or.inl ⟨_, rfl⟩) (Or.inr ⟨_, rfl⟩) (dq 9 rfl) (Nat.le_of_ble_eq_true rfl) (Nat.le_of_ble_eq_true rfl) (by rw [c7]; rfl) rfl
  refine a_tableD K (tgt := 103) (dq 1 rfl) ?_ rfl ?_
  · have := i32ne c1 (k := 99) (by decide); have := i32ne c2 (k := 100) (by decide); have := i32ne c3 (k := 101) (by decide); have := i32ne c4 (k := 102) (by decide); have := i32ne c5 (k := 108) (by decide); have := i32ne c6 (k := 114) (by decide); have := i32ne c7 (k := 116) (by decide)
    have hz : a.toInt < 99 ∨ 116 < a.toInt ∨ a.toInt = 103 ∨ a.toInt = 104 ∨ a.toInt = 105 ∨ a.toInt = 106 ∨ a.toInt = 107 ∨ a.toInt = 109 ∨ a.toInt = 110 ∨ a.toInt = 111 ∨ a.toInt = 112 ∨ a.toInt = 113 ∨ a.toInt = 115 := by omega
    rcases hz with q | q | q | q | q | q | q | q | q | q | q | q | q
    · exact Or.inl q
    · exact Or.inr (Or.inl q)
    all_goals (rw [q]; exact Or.inr (Or.inr rfl))
  · refine a_ldcS K (hs 5 (by decide)) (dq 12 rfl) ?_
    exact a_aret K rfl (Or.inl ⟨_, rfl⟩) (Or.inr ⟨_, rfl⟩) (dq 13 rfl) (Nat.le_of_ble_eq_true rfl) (Nat.le_of_ble_eq_true rfl) (by unfold p_X4_shapeOf; rw [if_neg c1, if_neg c2, if_neg c3, if_neg c4, if_neg c5, if_neg c6, if_neg c7]) rfl
end STR
