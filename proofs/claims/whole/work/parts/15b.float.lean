/-! Float.isNaN, Float.floatToIntBits: of a class some of whose methods are run by entries of the machine -/
theorem vx_ofWF {l : Launch} {y : MethodName} {ws ws' : List Cond} {rm : Room} {Pc : Array Value → State → Prop} {Qc : Array Value → State → Outcome → State → Prop} {XC : String → State → State → Prop} {mc ms : Nat} {free : Addr → Prop} {cc : ByteArray} {maxL : Nat} {ret : Option FieldType}
    (hy : plainFor y = true) (hw : ws = Cond.code y cc maxL ret :: ws')
    (body : ∀ p e s m args below meth c s₁, BodyLoose p l y (headSpec ws rm) cc maxL ret e s m args below meth c s₁ → c.maxLocals = maxL → (∀ x ∈ c.exceptionTable.toList, False) → Pc args s →
      W p l e (headSpec ws rm).room s m args below meth c s.heap [] 0 0 (vx_MQ below Qc XC args s mc ms free) (entryFrame m args maxL)) : vx_Met l y ws rm Pc Qc XC mc ms free := by
  refine MetFree.of_bodySF (code := cc) (maxLocals := maxL) (ret := ret) hy ?_ ?_
  · intro args s m h hn
    obtain ⟨meth, c, h1, h2, h3, h4, h5, h6, -, -⟩ := Cond.code_spec hn (atoms_spec (ws := ws) h _ (by rw [hw]; exact List.mem_cons_self))
    exact ⟨meth, c, h1, h2, h3, h4, h5, h6⟩
  · intro p e s m args below meth c s₁ B hml hP _
    have hh0 : s₁.heap = s.heap := by rw [B.state]; rfl
    have ht : ∀ x ∈ c.exceptionTable.toList, False := by
      obtain ⟨meth9, c9, h1, h2, -, -, -, -, h7, -⟩ := Cond.code_spec B.named (atoms_spec (ws := ws) B.pre _ (by rw [hw]; exact List.mem_cons_self))
      cases Option.some.inj (h1.symm.trans B.method)
      cases Option.some.inj (h2.symm.trans (Stand.of_body B).code)
      intro x hx
      rw [Array.isEmpty_iff.mp h7] at hx
      cases hx
    obtain ⟨t, a1, o, b1, b2, b3⟩ := body p e s m args below meth c s₁ B hml ht hP s₁ hh0 (Stand.of_body B)
    exact ⟨t, o, a1, b1, b2, b3⟩
theorem am_enterF {l : Launch} {D : va_G} {ty : Nat → ClassId} {ρ : Nat → Nat → Nat} {N0 : Nat} {cc : ByteArray} {own : String} {ret : Option FieldType} {σ σ' : Sg} {out : Option Value ⊕ String} {y : MethodName} {maxL : Nat} {rm : Room} {as : List Value} (S : St l ty ρ N0) (hy : plainFor y = true) (ho : y.cls = own) (has : as.all (fun v => v.category == 1) = true) (hn : as.length ≤ maxL)
    (body : ∀ p e s m args below meth c, Cx p l s m args meth c cc maxL own ret D ty ρ N0 → (∀ x ∈ c.exceptionTable.toList, False) → WA p l e rm s m args below meth c D ty ρ N0 maxL (vx_MQ below (oQ D ty ρ N0 out σ') (oX D ty ρ N0 out σ') args s rm.cells rm.slots (fun q => N0 ≤ q)) 0 (as.map some ++ List.replicate (maxL - as.length) none) [] σ 0 0) :
    AMet l D ty ρ N0 y (Cond.code y cc maxL ret :: GW) rm as σ out σ' := by
  refine vx_ofWF hy rfl ?_
  intro p e s m args below meth c s₁ B hml hX hv
  obtain ⟨rfl, hw⟩ := hv
  have hts := atoms_spec (ws := Cond.code y cc maxL ret :: GW) B.pre
  have hcat : ∀ v ∈ as, v.category = 1 := fun v h => by simpa using List.all_eq_true.mp has v h
  rw [lg_entry_eq]
  exact body p e s m _ below meth c ⟨⟨B.exec, B.bytes, hml, ho ▸ findClass_of_methodNamed B.named, fun w h => hts w (List.mem_cons_of_mem _ h)⟩, hw.2.1, hw.2.2.1, hw.2.2.2, S.2, B.notSynchronized, S.1, B.returns⟩ hX s.heap [] _ hw.1 va_S.rf (LR.entry hcat hn)
def fnan (b : UInt32) : Int32 := if Op.cmpValue (FP.fcmp b b) .l = 0 then 0 else 1
def fbits (b : UInt32) : Int32 := if fnan b = 0 then b.toInt32 else 2143289344
theorem cw_J_isNaN : CwS RJxf58ca yJxf58ca_isNaN_12338 cJxf58ca_isNaN_12338 1 (some .boolean) 1 := ⟨gwp 1520 (by decide +kernel) rfl, gwp 1519 (by decide +kernel) rfl, gwp 27 (by decide +kernel) rfl, by decide +kernel⟩
theorem cw_J_fbits : CwS RJxf58ca yJxf58ca_floatToIntBits_5c35a cJxf58ca_floatToIntBits_5c35a 1 (some .int) 1 := ⟨gwp 1517 (by decide +kernel) rfl, gwp 1516 (by decide +kernel) rfl, gwp 27 (by decide +kernel) rfl, by decide +kernel⟩
theorem ml_X7_242 : Cond.methodLink RX7 242 yJxf58ca_floatToIntBits_5c35a ∈ GW := gwp 1515 (by decide +kernel) rfl
theorem ml_Jf_59 : Cond.methodLink RJxf58ca 59 yJxf58ca_isNaN_12338 ∈ GW := gwp 1518 (by decide +kernel) rfl
theorem ml_Jf_74 : Cond.methodLink RJxf58ca 74 ⟨"java/lang/Float", "floatToRawIntBits", "(F)I"⟩ ∈ GW := gwp 1521 (by decide +kernel) rfl
theorem kc_Jf_77 : Cond.constant RJxf58ca 77 2143289344 ∈ GW := gwp 1524 (by decide +kernel) rfl
def t_Jnan : List (Nat × Instr × Nat) := [(0, .fload_n 0, 1), (1, .fload_n 0, 1), (2, .fcmp .l, 1), (3, .ifCond .eq 7, 3), (6, .iconst 1, 1), (7, .goto 4, 3), (10, .iconst 0, 1), (11, .ireturn, 1)]
theorem dt_Jnan : tblOK cJxf58ca_isNaN_12338 t_Jnan = true := by decide +kernel
set_option maxRecDepth 20000 in
theorem s_Jnan {l : Launch} {D : va_G} {ty : Nat → ClassId} {ρ : Nat → Nat → Nat} {N0 : Nat} (S : St l ty ρ N0) (b : UInt32) (σ : Sg) : AMet l D ty ρ N0 yJxf58ca_isNaN_12338 (Cond.code yJxf58ca_isNaN_12338 cJxf58ca_isNaN_12338 1 (some .boolean) :: GW) (rmk 1 0 0) [.float b] σ (oI (fnan b)) σ := by
  refine am_enterF S (by decide +kernel) rfl rfl (Nat.le_of_ble_eq_true rfl) ?_
  intro p e s m args below meth c K hX
  have dq := @tat _ _ dt_Jnan
  show WA p l e _ s m args below meth c D ty ρ N0 1 _ 0 [some (.float b)] [] σ 0 0
  refine a_fload_n K (dq 0 rfl) rfl rfl ?_
  refine a_fload_n K (dq 1 rfl) rfl rfl ?_
  refine a_fcmp K (dq 2 rfl) ?_
  refine a_if_eq K (tgt := 10) (dq 3 rfl) rfl (fun c1 => ?_) (fun c1 => ?_)
  · refine a_iconst K (dq 6 rfl) (v := 0) rfl ?_
    exact a_iret K rfl rfl (dq 7 rfl) (Nat.le_of_ble_eq_true rfl) (Nat.le_of_ble_eq_true rfl) (by rw [fnan, if_pos c1]; rfl) rfl
  · refine a_iconst K (dq 4 rfl) (v := 1) rfl ?_
    refine a_goto K (tgt := 11) (dq 5 rfl) rfl ?_
    exact a_iret K rfl rfl (dq 7 rfl) (Nat.le_of_ble_eq_true rfl) (Nat.le_of_ble_eq_true rfl) (by rw [fnan, if_neg c1]; rfl) rfl
def t_Jfbits : List (Nat × Instr × Nat) := [(0, .fload_n 0, 1), (1, .invokestatic 59, 3), (4, .ifCond .ne 8, 3), (7, .fload_n 0, 1), (8, .invokestatic 74, 3), (11, .ireturn, 1), (12, .ldc 77, 2), (14, .ireturn, 1)]
theorem dt_Jfbits : tblOK cJxf58ca_floatToIntBits_5c35a t_Jfbits = true := by decide +kernel
set_option maxRecDepth 20000 in
theorem s_Jfbits {l : Launch} {D : va_G} {ty : Nat → ClassId} {ρ : Nat → Nat → Nat} {N0 : Nat} (S : St l ty ρ N0) (b : UInt32) (σ : Sg) : AMet l D ty ρ N0 yJxf58ca_floatToIntBits_5c35a (Cond.code yJxf58ca_floatToIntBits_5c35a cJxf58ca_floatToIntBits_5c35a 1 (some .int) :: GW) (rmk 2 0 0) [.float b] σ (oI (fbits b)) σ := by
  refine am_enterF S (by decide +kernel) rfl rfl (Nat.le_of_ble_eq_true rfl) ?_
  intro p e s m args below meth c K hX
  have dq := @tat _ _ dt_Jfbits
  show WA p l e _ s m args below meth c D ty ρ N0 1 _ 0 [some (.float b)] [] σ 0 0
  refine a_fload_n K (dq 0 rfl) rfl rfl ?_
  refine a_callSX K (s_Jnan S b σ) cw_J_isNaN ml_Jf_59 (by decide) rfl (rest := []) rfl (Nat.le_of_ble_eq_true rfl) (dq 1 rfl) (by decide) (fun ov ho => ?_) (fun E ho => by cases ho)
  cases ho
  refine a_if_ne K (x := fnan b) (tgt := 12) (dq 2 rfl) rfl (fun c1 => ?_) (fun c1 => ?_)
  · refine a_ldc K (v := 2143289344) kc_Jf_77 (dq 6 rfl) ?_
    exact a_iret K rfl rfl (dq 7 rfl) (Nat.le_of_ble_eq_true rfl) (Nat.le_of_ble_eq_true rfl) (by rw [fbits, if_neg c1]; rfl) rfl
  · refine a_fload_n K (dq 3 rfl) rfl rfl ?_
    refine a_rawbits K ml_Jf_74 (gwp 1523 (by decide +kernel) rfl) (gwp 1522 (by decide +kernel) rfl) (gwp 27 (by decide +kernel) rfl) (Nat.le_of_ble_eq_true rfl) (Nat.le_of_ble_eq_true rfl) (dq 4 rfl) ?_
    exact a_iret K rfl rfl (dq 5 rfl) (Nat.le_of_ble_eq_true rfl) (Nat.le_of_ble_eq_true rfl) (by rw [fbits, if_pos c1]; rfl) rfl
