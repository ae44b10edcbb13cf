/-! METHODS WITH HANDLERS, the law's two one-place rows, what the law itself does -/
section AM8
variable {p : Program} {l : Launch} {e : Env} {R : Room} {s : State} {m : MethodId} {args : Array Value} {below : List Frame} {meth : Method} {c : Code} {Q : State → Prop}
variable {D : va_G} {ty : Nat → ClassId} {ρ : Nat → Nat → Nat} {N0 nL : Nat} {cc : ByteArray} {own : String} {ret : Option FieldType}
variable {pc : Nat} {ls : List (Option Value)} {st : List Value} {σ σ' : Sg} {cells slots : Nat} {out : Option Value ⊕ String}
theorem am_enterH {y : MethodName} {maxL : Nat} {rm : Room} {as : List Value} {hh : List (Nat × Nat × Nat × Nat)} (S : St l ty ρ N0) (hy : plainName y.cls = true) (ho : y.cls = own) (has : as.all (fun v => v.category == 1) = true) (hn : as.length ≤ maxL)
    (body : ∀ p e s m args below meth c, Cx p l s m args meth c cc maxL own ret D ty ρ N0 → c.exceptionTable.toList = tableOf hh → WA p l e rm s m args below meth c D ty ρ N0 maxL (vx_MQ below (oQ D ty ρ N0 out σ') (oX D ty ρ N0 out σ') args s rm.cells rm.slots (fun q => N0 ≤ q)) 0 (as.map some ++ List.replicate (maxL - as.length) none) [] σ 0 0) :
    AMet l D ty ρ N0 y (Cond.codeWith y cc maxL ret hh :: GW) rm as σ out σ' := by
  refine vx_ofWH hy rfl ?_
  intro p e s m args below meth c s₁ B hml hv
  obtain ⟨rfl, hw⟩ := hv
  have hts := atoms_spec (ws := Cond.codeWith y cc maxL ret hh :: GW) B.pre
  have hcat : ∀ v ∈ as, v.category = 1 := fun v h => by simpa using List.all_eq_true.mp has v h
  have hT := vx_table (x := y) B (hts _ List.mem_cons_self)
  rw [lg_entry_eq]
  exact body p e s m _ below meth c ⟨⟨B.exec, B.bytes, hml, ho ▸ findClass_of_methodNamed B.named, fun w h => hts w (List.mem_cons_of_mem _ h)⟩, hw.2.1, hw.2.2.1, hw.2.2.2, S.2, B.notSynchronized, S.1, B.returns⟩ hT s.heap [] _ hw.1 va_S.rf (LR.entry hcat hn)
def CwH (C : String) (y : MethodName) (bytes : ByteArray) (maxL : Nat) (ret' : Option FieldType) (hh : List (Nat × Nat × Nat × Nat)) (n : Nat) : Prop := Cond.codeWith y bytes maxL ret' hh ∈ GW ∧ Cond.static y ∈ GW ∧ Cond.initialized C ∈ GW ∧ (y.cls = C ∧ y.cls ≠ "java/lang/invoke/MethodHandle" ∧ y.cls ≠ "java/lang/invoke/VarHandle" ∧ (parseMethodDescriptor y.desc).map (fun d => d.parameters.length) = some n)
/-- a static call of a method with handlers -/
theorem a_callH (K : Cx p l s m args meth c cc nL own ret D ty ρ N0) {C : String} {index maxL n : Nat} {y : MethodName} {bytes : ByteArray} {ret' : Option FieldType} {hh : List (Nat × Nat × Nat × Nat)} {rm : Room} {As rest : List Value} {x : Int32}
    (hM : AMet l D ty ρ N0 y (Cond.codeWith y bytes maxL ret' hh :: GW) rm As σ (oI x) σ') (hw : CwH C y bytes maxL ret' hh n) (hl : Cond.methodLink own index y ∈ GW) (hR : Fits rm R maxL) (hn : As.length = n) (hst : As.reverse ++ rest = st) (hW : (rest.map fun v => v.category).sum ≤ 8) (hdg : decode cc pc = .ok (.invokestatic index, 3)) (hf : cells + rm.cells ≤ R.cells ∧ slots + rm.slots ≤ R.slots)
    (kk : WA p l e R s m args below meth c D ty ρ N0 nL Q (pc + 3) ls (.int x :: rest) σ' (cells + rm.cells) (slots + rm.slots)) : WA p l e R s m args below meth c D ty ρ N0 nL Q pc ls st σ cells slots := fun H locs lsr hP hS hL => by
  subst hst
  obtain ⟨h1, h2, h3, h4, h5⟩ := hw
  have h3' : Cond.initialized y.cls ∈ GW := by rw [h4]; exact h3
  have hG : GoodIn GW (va_wsS own index y (Cond.codeWith y bytes maxL ret' hh :: GW)) := goodIn_GW (fun w h => by
    simp only [va_wsS, List.cons_append, List.nil_append, List.mem_cons] at h
    rcases h with rfl | rfl | rfl | rfl | h <;> assumption)
  have hcw := vx_cwSW (R := R) (s := s) (args := args) (rm := rm) n K.1.2.2.2.2 hG rfl rfl rfl h5 hR
  have hrun := vx_runSX (p := p) (l := l) (e := e) (below := below) (meth := meth) (locs := locs) (cells := cells) (slots := slots) (g := F0 m pc lsr (As.reverse ++ rest)) (rest := rest) K.1 hM hcw
    ⟨blind_W _, fun U hU hW => ⟨rfl, world_of K hP hS hU hW⟩⟩ rfl hn hL.1 rfl (lv_room hW) hdg hf
  exact a_call_core hrun hS hL (fun ov ho => by cases ho; exact kk) (fun E ho => by cases ho)
theorem cell_out1 {f g : Nat → Int64} {cA : ClassId} (h : f 0 = g 0) : vp_cell cA (1, .inr (.inl f)) = vp_cell cA (1, .inr (.inl g)) := by
  rw [vp_cell_l, vp_cell_l]
  unfold arrV
  congr 1
  apply Array.ext
  · simp
  · intro i h1 h2
    have : i = 0 := by simp at h1; omega
    subst this
    simp [h]
theorem cell_out2 {f g : Nat → UInt64} {cA : ClassId} (h : f 0 = g 0) : vp_cell cA (1, .inr (.inr (.inr (.inl f)))) = vp_cell cA (1, .inr (.inr (.inr (.inl g)))) := by
  show arrV cA 1 (fun j => .double (f j)) = arrV cA 1 (fun j => .double (g j))
  unfold arrV
  congr 1
  apply Array.ext
  · simp
  · intro i h1 h2
    have : i = 0 := by simp at h1; omega
    subst this
    simp [h]
theorem cell_30 : cellOf ty ρ σ 30 0 = .inl (ty 3, 1, .inr (.inl (fun _ => gL σ))) := rfl
theorem cell_31 : cellOf ty ρ σ 31 0 = .inl (ty 4, 1, .inr (.inr (.inr (.inl (fun _ => gD σ))))) := rfl
theorem wp_swap {cl : List vw_C} {ws : va_W} {H : Heap} {q a : Nat} {cA : ClassId} {x y : vp_A} (h : va_P D cl (ws.set q (a, .inl (cA, x))) H) (hxy : vp_cell cA x = vp_cell cA y) : va_P D cl (ws.set q (a, .inl (cA, y))) H := by
  intro k z hz
  by_cases hk : k = q
  · subst hk
    have hl : k < ws.length := by have := (List.getElem?_eq_some_iff.mp hz).1; simpa using this
    rw [List.getElem?_set_self hl] at hz
    cases hz
    have h1 := h k (a, .inl (cA, x)) (by rw [List.getElem?_set_self hl])
    exact (show H[a]? = some (vp_cell cA x) from h1).trans (by rw [hxy])
  · rw [List.getElem?_set_ne (Ne.symm hk)] at hz
    exact h k z (by rw [List.getElem?_set_ne (Ne.symm hk)]; exact hz)
theorem a_last (K : Cx p l s m args meth c cc nL own ret D ty ρ N0) {x : Int64} (hdg : decode cc pc = .ok (.lastore, 1))
    (kk : WA p l e R s m args below meth c D ty ρ N0 nL Q (pc + 1) ls st (sL σ x) cells slots) : WA p l e R s m args below meth c D ty ρ N0 nL Q pc ls (.long x :: .int 0 :: .ref (ρ 30 0) :: st) σ cells slots := fun H locs lsr hP hS hL => by
  obtain ⟨q, hq, hw⟩ := ws_at (ty := ty) (ρ := ρ) (σ := σ) v_30
  rw [cell_30] at hw
  refine va_last K.1.1 K.1.2.1 K.2.1.1 hP (K.2.2.2.2.1 σ) hS q 3 hw rfl (ib_in rfl) hdg (fun H1 locs1 hP1 _ hS1 => kk H1 locs1 lsr ?_ hS1 hL)
  have e9 := ws_set (ty := ty) (ρ := ρ) (σ := σ) (σ' := sL σ x) (e := .inl (ty 3, 1, .inr (.inl (fun _ => x)))) hq rfl (fun T' i' hne hm => cell_congr (fun _ => rfl) (fun _ => rfl) (fun h => by
      exfalso
      have h9 : ∀ q ∈ objs, akind q.1 = 3 → q = (30, 0) := by decide +kernel
      have := h9 _ hm h
      simp only [Prod.mk.injEq] at this
      exact hne this) (fun _ => rfl))
  rw [← e9]
  exact wp_swap hP1 (cell_out1 rfl)
theorem a_dast (K : Cx p l s m args meth c cc nL own ret D ty ρ N0) {x : UInt64} (hdg : decode cc pc = .ok (.dastore, 1))
    (kk : WA p l e R s m args below meth c D ty ρ N0 nL Q (pc + 1) ls st (sD σ x) cells slots) : WA p l e R s m args below meth c D ty ρ N0 nL Q pc ls (.double x :: .int 0 :: .ref (ρ 31 0) :: st) σ cells slots := fun H locs lsr hP hS hL => by
  obtain ⟨q, hq, hw⟩ := ws_at (ty := ty) (ρ := ρ) (σ := σ) v_31
  rw [cell_31] at hw
  refine va_dast K.1.1 K.1.2.1 K.2.1.1 hP (K.2.2.2.2.1 σ) hS q 4 hw rfl (ib_in rfl) hdg (fun H1 locs1 hP1 _ hS1 => kk H1 locs1 lsr ?_ hS1 hL)
  have e9 := ws_set (ty := ty) (ρ := ρ) (σ := σ) (σ' := sD σ x) (e := .inl (ty 4, 1, .inr (.inr (.inr (.inl (fun _ => x)))))) hq rfl (fun T' i' hne hm => cell_congr (fun _ => rfl) (fun _ => rfl) (fun _ => rfl) (fun h => by
      exfalso
      have h9 : ∀ q ∈ objs, akind q.1 = 4 → q = (31, 0) := by decide +kernel
      have := h9 _ hm h
      simp only [Prod.mk.injEq] at this
      exact hne this))
  rw [← e9]
  exact wp_swap hP1 (cell_out2 rfl)
theorem a_lald (K : Cx p l s m args meth c cc nL own ret D ty ρ N0) (hdg : decode cc pc = .ok (.laload, 1))
    (kk : WA p l e R s m args below meth c D ty ρ N0 nL Q (pc + 1) ls (.long (gL σ) :: st) σ cells slots) : WA p l e R s m args below meth c D ty ρ N0 nL Q pc ls (.int 0 :: .ref (ρ 30 0) :: st) σ cells slots := fun H locs lsr hP hS hL => by
  obtain ⟨q, hq, hw⟩ := ws_at (ty := ty) (ρ := ρ) (σ := σ) v_30
  rw [cell_30] at hw
  exact va_lald K.1.1 K.1.2.1 K.2.1.1 hP q 3 hw rfl (ib_in rfl) hdg (kk H locs lsr hP hS hL)
theorem a_dald (K : Cx p l s m args meth c cc nL own ret D ty ρ N0) (hdg : decode cc pc = .ok (.daload, 1))
    (kk : WA p l e R s m args below meth c D ty ρ N0 nL Q (pc + 1) ls (.double (gD σ) :: st) σ cells slots) : WA p l e R s m args below meth c D ty ρ N0 nL Q pc ls (.int 0 :: .ref (ρ 31 0) :: st) σ cells slots := fun H locs lsr hP hS hL => by
  obtain ⟨q, hq, hw⟩ := ws_at (ty := ty) (ρ := ρ) (σ := σ) v_31
  rw [cell_31] at hw
  exact va_dald K.1.1 K.1.2.1 K.2.1.1 hP q 4 hw rfl (ib_in rfl) hdg (kk H locs lsr hP hS hL)
theorem a_lconst (K : Cx p l s m args meth c cc nL own ret D ty ρ N0) {n : Fin 2} {v : Int64} (hdg : decode cc pc = .ok (.lconst n, 1)) (hv : Int64.ofNat (n : Nat) = v)
    (k : WA p l e R s m args below meth c D ty ρ N0 nL Q (pc + 1) ls (.long v :: st) σ cells slots) : WA p l e R s m args below meth c D ty ρ N0 nL Q pc ls st σ cells slots := fun H locs lsr hP hS hL => lv_lconst K.1.1 K.1.2.1 hdg hv (k H locs lsr hP hS hL)
theorem a_lcmp (K : Cx p l s m args meth c cc nL own ret D ty ρ N0) {x y : Int64} (hdg : decode cc pc = .ok (.lcmp, 1))
    (k : WA p l e R s m args below meth c D ty ρ N0 nL Q (pc + 1) ls (.int (lg_cmp x y) :: st) σ cells slots) : WA p l e R s m args below meth c D ty ρ N0 nL Q pc ls (.long y :: .long x :: st) σ cells slots := fun H locs lsr hP hS hL => W.lcmp K.1.1 K.1.2.1 hdg (k H locs lsr hP hS hL)
/-- caught here: the first row that takes it, past rows of other classes -/
theorem a_catch (K : Cx p l s m args meth c cc nL own ret D ty ρ N0) {hh : List (Nat × Nat × Nat × Nat)} (hT : c.exceptionTable.toList = tableOf hh) {E name : String} (pre : List ExceptionTableEntry) (x : ExceptionTableEntry) (suf : List ExceptionTableEntry) (hsplit : tableOf hh = pre ++ x :: suf)
    (hpass : ∀ z ∈ pre, z.catchType ≠ 0 ∧ ∃ nm : String, Cond.classLink own z.catchType nm ∈ GW ∧ Cond.not (.castable E nm) ∈ flatC narrow_1) (hx : covers x pc = true) (h0 : x.catchType ≠ 0)
    (hlink : Cond.classLink own x.catchType name ∈ GW) (hcast : Cond.castable E name ∈ tables_1)
    (kk : ∀ q : Nat, WA p l e R s m args below meth c D ty ρ N0 nL Q x.handlerPc ls [.ref q] σ cells slots) : WX p l e R s m args below meth c D ty ρ N0 nL Q pc ls st E σ cells slots := fun H locs lsr q ce hP hS hL hce hcv hcl =>
  vx_catch K.1.2.2.2.1 pre x suf (hT.trans hsplit) (fun z hz => by
    obtain ⟨h1, nm, h2, h3⟩ := hpass z hz
    exact Or.inr ⟨h1, nm, K.1.2.2.2.2 _ h2, K.2.1.2.2.2.1 _ _ h3⟩) hx h0 (K.1.2.2.2.2 _ hlink) (va_Nw.use rfl (K.2.1.2.1 _ _ hcast)) hce hcv hcl (kk q H locs lsr hP hS hL)
end AM8
