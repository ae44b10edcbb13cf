/-! ENTRY, CALLS, ENDS AND THROWS over the store -/
section AM2
variable {p : Program} {l : Launch} {e : Env} {R : Room} {s : State} {m : MethodId} {args : Array Value} {below : List Frame} {meth : Method} {c : Code} {Q : State → Prop}
variable {D : va_G} {ty : Nat → ClassId} {ρ : Nat → Nat → Nat} {N0 nL : Nat} {cc : ByteArray} {own : String} {ret : Option FieldType}
variable {pc : Nat} {ls : List (Option Value)} {st : List Value} {σ σ' : Sg} {cells slots : Nat} {out : Option Value ⊕ String}
theorem world_of {H : Heap} {locs : List Loc} {U : State} (K : Cx p l s m args meth c cc nL own ret D ty ρ N0) (hP : va_P D vwCl (WS ty ρ σ) H) (hS : va_S (fun q => N0 ≤ q) s.heap H locs) (hU : U.heap = H) (hW : s.WarmedH U.vm) : World D ty ρ N0 σ U := by
  refine ⟨by rw [hU]; exact hP, K.2.1.warm hW, ?_, ?_⟩
  · rw [hU]
    exact (K.2.2.1.kept (fun a h1 h2 => hS.2.1 a h1 h2)).moved hW
  · rw [hU]
    exact Nat.le_trans K.2.2.2.1 hS.1
theorem am_enter {y : MethodName} {maxL : Nat} {rm : Room} {as : List Value} (S : St l ty ρ N0) (hy : plainName y.cls = true) (ho : y.cls = own) (has : as.all (fun v => v.category == 1) = true) (hn : as.length ≤ maxL)
    (body : ∀ p e s m args below meth c, Cx p l s m args meth c cc maxL own ret D ty ρ N0 → (∀ x ∈ c.exceptionTable.toList, False) → WA p l e rm s m args below meth c D ty ρ N0 maxL (vx_MQ below (oQ D ty ρ N0 out σ') (oX D ty ρ N0 out σ') args s rm.cells rm.slots (fun q => N0 ≤ q)) 0 (as.map some ++ List.replicate (maxL - as.length) none) [] σ 0 0) :
    AMet l D ty ρ N0 y (Cond.code y cc maxL ret :: GW) rm as σ out σ' := by
  refine vx_ofW hy rfl ?_
  intro p e s m args below meth c s₁ B hml hX hv
  obtain ⟨rfl, hw⟩ := hv
  have hts := atoms_spec (ws := Cond.code y cc maxL ret :: GW) B.pre
  have hcat : ∀ v ∈ as, v.category = 1 := fun v h => by simpa using List.all_eq_true.mp has v h
  rw [lg_entry_eq]
  exact body p e s m _ below meth c ⟨⟨B.exec, B.bytes, hml, ho ▸ findClass_of_methodNamed B.named, fun w h => hts w (List.mem_cons_of_mem _ h)⟩, hw.2.1, hw.2.2.1, hw.2.2.2, S.2, B.notSynchronized, S.1, B.returns⟩ hX s.heap [] _ hw.1 va_S.rf (LR.entry hcat hn)
theorem a_call_core {H : Heap} {locs : List Loc} {lsr : Array Slot} {mc ms : Nat} {rest st0 : List Value} {a : Array Value} (hr : vx_Run p l e R s m args below meth c H locs cells slots mc ms (F0 m pc lsr st0) rest (oQ D ty ρ N0 out σ' a) (oX D ty ρ N0 out σ') (fun q => N0 ≤ q)) (hS : va_S (fun q => N0 ≤ q) s.heap H locs) (hL : LR nL ls lsr)
    (kk : ∀ ov, out = .inl ov → WA p l e R s m args below meth c D ty ρ N0 nL Q (pc + 3) ls (ov.toList ++ rest) σ' (cells + mc) (slots + ms))
    (kx : ∀ E, out = .inr E → WX p l e R s m args below meth c D ty ρ N0 nL Q pc ls rest E σ' (cells + mc) (slots + ms)) : W p l e R s m args below meth c H locs cells slots Q (F0 m pc lsr st0) := by
  intro T hT X
  rcases hr T hT X with ⟨v, st₀, t, T', L, h0, X', hL', e1, e2, ⟨⟨ov, ho, hov⟩, hP', hF⟩, st⟩ | ⟨q, st₀, t, T', L, E, ce, h0, X', hL', e1, e2, ⟨ho, hP', hF⟩, hce, hcv, hcl, st⟩
  · cases hov
    obtain ⟨k1, k2, k3⟩ := vx_keep (A0 := fun q => N0 ≤ q) (A1 := fun q => N0 ≤ q) h0 e1 hS (fun q _ h => h) (fun q h => h) hL' hF
    obtain ⟨t2, a1, b1⟩ := kk v ho T'.heap (locs ++ L) lsr (by rw [e1]; exact hP') k3 hL T' rfl X'
    exact ⟨t2, st t2 a1, b1⟩
  · obtain ⟨k1, k2, k3⟩ := vx_keep (A0 := fun q => N0 ≤ q) (A1 := fun q => N0 ≤ q) h0 e1 hS (fun q _ h => h) (fun q h => h) hL' hF
    obtain ⟨t2, a1, b1⟩ := kx E ho T'.heap (locs ++ L) lsr q ce (by rw [e1]; exact hP') k3 hL (by rw [e1]; exact hce) hcv hcl T' rfl X'
    exact ⟨t2, st.trans a1, b1⟩
theorem a_callV (K : Cx p l s m args meth c cc nL own ret D ty ρ N0) {T0 i0 ci N index maxL n : Nat} {C : String} {TT : u_T} {ds : List (Option (Nat × Option Nat))} {y : MethodName} {bytes : ByteArray} {ret' : Option FieldType} {rm : Room} {As rest : List Value}
    (hM : AMet l D ty ρ N0 y (Cond.code y bytes maxL ret' :: GW) rm (.ref (ρ T0 i0) :: As) σ out σ') (hv : Vld T0 i0) (hd : dsc T0 = some (ci, ds)) (hc : vwCl[ci]? = some (C, TT, N))
    (hcode : Cond.code y bytes maxL ret' ∈ GW) (hl : Cond.methodLink own index y ∈ GW) (hi : Cond.instanceMethod y ∈ GW) (hs : Cond.selects C y y ∈ GW) (hini : Cond.initialized C ∈ GW)
    (hd' : y.cls = C ∧ y.cls ≠ "java/lang/invoke/MethodHandle" ∧ y.cls ≠ "java/lang/invoke/VarHandle" ∧ (parseMethodDescriptor y.desc).map (fun d => d.parameters.length) = some n) (hR : rm.frames + 1 ≤ R.frames ∧ 8 + (maxL + 11) + rm.locals ≤ R.locals)
    (hn : As.length = n) (hst : As.reverse ++ .ref (ρ T0 i0) :: rest = st) (hW : (rest.map fun v => v.category).sum ≤ 8) (hdg : decode cc pc = .ok (.invokevirtual index, 3)) (hf : cells + rm.cells ≤ R.cells ∧ slots + rm.slots ≤ R.slots)
    (kk : ∀ ov, out = .inl ov → WA p l e R s m args below meth c D ty ρ N0 nL Q (pc + 3) ls (ov.toList ++ rest) σ' (cells + rm.cells) (slots + rm.slots))
    (kx : ∀ E, out = .inr E → WX p l e R s m args below meth c D ty ρ N0 nL Q pc ls rest E σ' (cells + rm.cells) (slots + rm.slots)) : WA p l e R s m args below meth c D ty ρ N0 nL Q pc ls st σ cells slots := fun H locs lsr hP hS hL => by
  obtain ⟨q, hq, hw⟩ := ws_at (ty := ty) (ρ := ρ) (σ := σ) hv
  rw [cell_obj hd] at hw
  subst hst
  have hG : GoodIn GW (wsV own index C y (Cond.code y bytes maxL ret' :: GW)) := goodIn_GW (fun w h => by
    simp only [wsV, List.cons_append, List.nil_append, List.mem_cons] at h
    rcases h with rfl | rfl | rfl | rfl | rfl | h <;> assumption)
  have hcw := cwV (R := R) (s := s) (args := args) (rm := rm) n K.1.2.2.2.2 hG rfl rfl rfl hd' hR
  have hrun := vx_runV (p := p) (l := l) (e := e) (below := below) (meth := meth) (locs := locs) (cells := cells) (slots := slots) (g := F0 m pc lsr (As.reverse ++ .ref (ρ T0 i0) :: rest)) (rest := rest) K.1 hM hcw
    ⟨blind_W _, va_recv K.2.1.1 hP hc hw, fun U hU hW => ⟨rfl, world_of K hP hS hU hW⟩⟩ rfl hn hL.1 rfl (lv_room hW) hdg hf
  exact a_call_core hrun hS hL kk kx
theorem a_callS (K : Cx p l s m args meth c cc nL own ret D ty ρ N0) {index maxL n : Nat} {y : MethodName} {bytes : ByteArray} {ret' : Option FieldType} {rm : Room} {As rest : List Value}
    (hM : AMet l D ty ρ N0 y (Cond.code y bytes maxL ret' :: GW) rm As σ out σ')
    (hcode : Cond.code y bytes maxL ret' ∈ GW) (hl : Cond.methodLink own index y ∈ GW) (hi : Cond.static y ∈ GW) (hini : Cond.initialized own ∈ GW)
    (hd' : y.cls = own ∧ y.cls ≠ "java/lang/invoke/MethodHandle" ∧ y.cls ≠ "java/lang/invoke/VarHandle" ∧ (parseMethodDescriptor y.desc).map (fun d => d.parameters.length) = some n) (hR : rm.frames + 1 ≤ R.frames ∧ 8 + (maxL + 11) + rm.locals ≤ R.locals)
    (hn : As.length = n) (hst : As.reverse ++ rest = st) (hW : (rest.map fun v => v.category).sum ≤ 8) (hdg : decode cc pc = .ok (.invokestatic index, 3)) (hf : cells + rm.cells ≤ R.cells ∧ slots + rm.slots ≤ R.slots)
    (kk : ∀ ov, out = .inl ov → WA p l e R s m args below meth c D ty ρ N0 nL Q (pc + 3) ls (ov.toList ++ rest) σ' (cells + rm.cells) (slots + rm.slots))
    (kx : ∀ E, out = .inr E → WX p l e R s m args below meth c D ty ρ N0 nL Q pc ls rest E σ' (cells + rm.cells) (slots + rm.slots)) : WA p l e R s m args below meth c D ty ρ N0 nL Q pc ls st σ cells slots := fun H locs lsr hP hS hL => by
  subst hst
  have hG : GoodIn GW (wsS own index y (Cond.code y bytes maxL ret' :: GW)) := goodIn_GW (fun w h => by
    simp only [wsS, List.cons_append, List.nil_append, List.mem_cons] at h
    rcases h with rfl | rfl | rfl | rfl | h <;> assumption)
  have hcw := cwS (R := R) (s := s) (args := args) (rm := rm) n K.1.2.2.2.2 hG rfl rfl rfl hd' hR
  have hrun := vx_runS (p := p) (l := l) (e := e) (below := below) (meth := meth) (locs := locs) (cells := cells) (slots := slots) (g := F0 m pc lsr (As.reverse ++ rest)) (rest := rest) K.1 hM hcw
    ⟨blind_W _, fun U hU hW => ⟨rfl, world_of K hP hS hU hW⟩⟩ rfl hn hL.1 rfl (lv_room hW) hdg hf
  exact a_call_core hrun hS hL kk kx
/-- an int, or what is narrower, is answered -/
theorem W_nret {H : Heap} {locs : List Loc} {Qc : Array Value → State → Outcome → State → Prop} {free : Addr → Prop} {v w : Int32} {t9 : FieldType} (hexec : p.tables.exec = Jvm.exec) (hb : c.code = cc) (hr : meth.sig.returnType = some t9) (hn : narrow t9 (.int v) = .int w)
    (hq : ∀ t : State, t.heap = H → s.WarmedH t.vm → Qc args s (.returned (some (.int w))) t) (hf : ∀ q ∈ locs, free q.base) {lsr : Array Slot} (hdg : decode cc pc = .ok (.ireturn, 1)) (hlocks : meth.locks = false) : W p l e R s m args below meth c H locs cells slots (MQ below Qc args s cells slots free) (F0 m pc lsr [.int v]) := by
  intro T hT X
  obtain ⟨fs, hret, hrun, hended, hW, hframe⟩ := X.leave (v := some (.int w)) (hlocks := hlocks) (fun h => by rw [hr] at h; cases h)
  have hmeth' : T.vm.method? m = some meth := X.method'
  refine ⟨T.setFrames fs, ?_, .returned (some (.int w)), hrun, hended, hq _ hT hW, locs, ⟨⟨_, rfl⟩, hW, hframe⟩, hf⟩
  jvm_step X.here [X.here.top, hexec, hb, hdg, hmeth', hr, hn]
  (try refine ⟨rfl, ?_⟩); (try refine ⟨rfl, ?_⟩)
  first | (intro acts; rw [hret _ acts rfl rfl rfl]) | rw [hret _ _ rfl rfl rfl]
  exact Steps.refl _
theorem a_iret (K : Cx p l s m args meth c cc nL own ret D ty ρ N0) {t9 : FieldType} (hr : ret = some t9) {v w : Int32} (hn : narrow t9 (.int v) = .int w) (hdg : decode cc pc = .ok (.ireturn, 1)) {mc ms : Nat} (hc : cells ≤ mc) (hs : slots ≤ ms) (ho : out = .inl (some (.int w))) (hσ : σ' = σ) :
    WA p l e R s m args below meth c D ty ρ N0 nL (vx_MQ below (oQ D ty ρ N0 out σ') (oX D ty ρ N0 out σ') args s mc ms (fun q => N0 ≤ q)) pc ls [.int v] σ cells slots := fun H locs lsr hP hS hL => by
  subst hr; subst ho; subst hσ
  refine W.widen hc hs (vx_ret ?_)
  exact W_nret K.1.1 K.1.2.1 K.2.2.2.2.2.2.2 hn (fun t ht hW => ⟨⟨_, rfl, rfl⟩, by rw [ht]; exact hP, hS.F ht⟩) hS.2.2 hdg K.2.2.2.2.2.1
theorem a_vret (K : Cx p l s m args meth c cc nL own ret D ty ρ N0) (hr : ret = none) (hdg : decode cc pc = .ok (.return_, 1)) {mc ms : Nat} (hc : cells ≤ mc) (hs : slots ≤ ms) (ho : out = .inl none) (hσ : σ' = σ) :
    WA p l e R s m args below meth c D ty ρ N0 nL (vx_MQ below (oQ D ty ρ N0 out σ') (oX D ty ρ N0 out σ') args s mc ms (fun q => N0 ≤ q)) pc ls [] σ cells slots := fun H locs lsr hP hS hL => by
  subst hr; subst ho; subst hσ
  refine W.widen hc hs (vx_ret ?_)
  exact W.vret K.1.1 K.1.2.1 K.2.2.2.2.2.2.2 (fun t ht hW => ⟨⟨_, rfl, rfl⟩, by rw [ht]; exact hP, hS.F ht⟩) hS.2.2 hdg K.2.2.2.2.2.1
theorem a_dret (K : Cx p l s m args meth c cc nL own ret D ty ρ N0) (hr : ret = some .double) {v : UInt64} (hdg : decode cc pc = .ok (.dreturn, 1)) {mc ms : Nat} (hc : cells ≤ mc) (hs : slots ≤ ms) (ho : out = .inl (some (.double v))) (hσ : σ' = σ) :
    WA p l e R s m args below meth c D ty ρ N0 nL (vx_MQ below (oQ D ty ρ N0 out σ') (oX D ty ρ N0 out σ') args s mc ms (fun q => N0 ≤ q)) pc ls [.double v] σ cells slots := fun H locs lsr hP hS hL => by
  subst hr; subst ho; subst hσ
  refine W.widen hc hs (vx_ret ?_)
  exact W.dret K.1.1 K.1.2.1 K.2.2.2.2.2.2.2 (fun t ht hW => ⟨⟨_, rfl, rfl⟩, by rw [ht]; exact hP, hS.F ht⟩) hS.2.2 hdg K.2.2.2.2.2.1
/-- what was thrown leaves the method -/
theorem a_out (K : Cx p l s m args meth c cc nL own ret D ty ρ N0) (hX : ∀ x ∈ c.exceptionTable.toList, False) {E : String} {mc ms : Nat} (hc : cells ≤ mc) (hs : slots ≤ ms) (ho : out = .inr E) (hσ : σ' = σ) :
    WX p l e R s m args below meth c D ty ρ N0 nL (vx_MQ below (oQ D ty ρ N0 out σ') (oX D ty ρ N0 out σ') args s mc ms (fun q => N0 ≤ q)) pc ls st E σ cells slots := fun H locs lsr q ce hP hS hL hce hcv hcl => by
  subst ho; subst hσ
  exact vx_out (fun x hx => (hX x hx).elim) K.2.2.2.2.2.1 hce hcv hcl (fun t ht hA => ⟨rfl, by rw [ht]; exact hP, hS.F ht⟩) hS.2.2 hc hs
/-- 'throw new E(text)' -/
theorem a_throw (K : Cx p l s m args meth c cc nL own ret D ty ρ N0) (hX : ∀ x ∈ c.exceptionTable.toList, False) {cls text : String} {names : List String} {ik is ic mc ms : Nat} (hcls : Bundle.fit cls = true) (hnames : ∀ n ∈ names, Bundle.fit n = true)
    (hk : Cond.classLink own ik cls ∈ GW) (hini : Cond.initialized cls ∈ GW) (hstr : Cond.stringRef own is text ∈ tables_1) (hg : ∀ w ∈ (vx_atS own ic cls names).filter goodWord, w ∈ GW) (hb : ∀ w ∈ (vx_atS own ic cls names).filter (fun w => !goodWord w), w ∈ Cond.castable cls cls :: dcls) (hcast : Cond.castable cls cls ∈ tables_1)
    (hgood : ∀ w ∈ Cond.classLink own ik cls :: Cond.initialized cls :: vx_atS own ic cls names, vx_ot w = true)
    (d0 : decode cc pc = .ok (.new ik, 3)) (d3 : decode cc (pc + 3) = .ok (.dup, 1)) (d4 : decode cc (pc + 4) = .ok (.ldc is, 2)) (d6 : decode cc (pc + 6) = .ok (.invokespecial ic, 3)) (d9 : decode cc (pc + 9) = .ok (.athrow, 1))
    (hRf : names.length + 3 < R.frames) (hRl : (st.map fun v => v.category).sum + (13 * (names.length + 1) + 43) ≤ R.locals) (hRc : cells + 1 ≤ R.cells) (hRs : slots + 6 ≤ R.slots) (hc : cells + 1 ≤ mc) (hs : slots + 6 ≤ ms) (ho : out = .inr cls) (hσ : σ' = σ) :
    WA p l e R s m args below meth c D ty ρ N0 nL (vx_MQ below (oQ D ty ρ N0 out σ') (oX D ty ρ N0 out σ') args s mc ms (fun q => N0 ≤ q)) pc ls st σ cells slots := fun H locs lsr hP hS hL => by
  subst ho; subst hσ
  obtain ⟨sa, hsa⟩ := K.2.1.2.2.1 own is text hstr
  have hat : ∀ w ∈ vx_atS own ic cls names, w.before args s = true := vx_hat (B := Cond.castable cls cls :: dcls) (fun w h => K.1.2.2.2.2 w (hg w h)) hb (vx_c (va_Nw.use rfl (K.2.1.2.1 cls cls hcast)) (dcls_ok K.2.1))
  exact vx_throwS K.1.1 K.1.2.1 K.2.2.2.2.2.2.1 K.1.2.2.2.1 hcls hnames (K.1.2.2.2.2 _ hk) (K.1.2.2.2.2 _ hini) hsa hat hgood K.2.2.1.1 K.2.2.1.2.1 hS (hL.1.trans K.1.2.2.1.symm) d0 d3 d4 d6 d9 (fun x hx => (hX x hx).elim) hRf hRl hRc hRs K.2.2.2.2.2.1
    (fun t hA h1 h2 => ⟨rfl, hP.kept (fun k q hq => h2 q.1 ((hP k q hq).lt)), Nat.le_trans hS.1 h1, fun q h3 h4 => (h2 q (Nat.lt_of_lt_of_le h3 hS.1)).trans (hS.2.1 q h3 h4)⟩) hS.2.2 hc hs
theorem a_widen {k n : Nat} (h1 : cells ≤ k) (h2 : slots ≤ n) (kk : WA p l e R s m args below meth c D ty ρ N0 nL Q pc ls st σ k n) : WA p l e R s m args below meth c D ty ρ N0 nL Q pc ls st σ cells slots := fun H locs lsr hP hS hL => W.widen h1 h2 (kk H locs lsr hP hS hL)
/-- fewer locals are known -/
theorem a_less {ls' : List (Option Value)} (hw : ∀ (k : Nat) (v : Value), ls'[k]? = some (some v) → ls[k]? = some (some v)) (kk : WA p l e R s m args below meth c D ty ρ N0 nL Q pc ls' st σ cells slots) : WA p l e R s m args below meth c D ty ρ N0 nL Q pc ls st σ cells slots := fun H locs lsr hP hS hL => kk H locs lsr hP hS (hL.weaken hw)
end AM2
