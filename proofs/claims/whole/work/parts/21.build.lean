/-! BUILDING: constructors, over a list of cells that grows -/
def XT (U : State) : Prop := va_AO RX1 U ∧ va_Nw (.methodLinkNest RX6 31 yX3_init RX6) U
theorem XT.warm {s U : State} (hW : s.WarmedH U.vm) (h : XT s) : XT U := ⟨va_AO.moved hW.alike h.1, va_Nw.warmM hW h.2⟩
def BW (D : va_G) (ty : Nat → ClassId) (N0 : Nat) (ws : va_W) (U : State) : Prop := va_P D vwCl ws U.heap ∧ va_D (fun q => N0 ≤ q) ws ∧ WT D ty U ∧ XT U ∧ N0 ≤ U.heap.size
theorem BW.same {D : va_G} {ty : Nat → ClassId} {N0 : Nat} {ws : va_W} {U U' : State} (hv : U'.vm = U.vm) (hh : U'.heap = U.heap) (h : BW D ty N0 ws U) : BW D ty N0 ws U' := by
  obtain ⟨h1, h2, h3, h4, h5⟩ := h
  have hW : U.WarmedH U'.vm := by rw [hv]; exact State.WarmedH.refl U
  exact ⟨by rw [hh]; exact h1, h2, h3.warm hW, h4.warm hW, by rw [hh]; exact h5⟩
theorem blind_B {D : va_G} {ty : Nat → ClassId} {N0 : Nat} {ws : va_W} (as : List Value) : FrameBlind (va_Pc as (BW D ty N0 ws)) := fun _ _ _ _ h => ⟨h.1, h.2.same rfl rfl⟩
def Cb (p : Program) (s : State) (m : MethodId) (args : Array Value) (meth : Method) (c : Code) (cc : ByteArray) (nL : Nat) (own : String) (D : va_G) (ty : Nat → ClassId) (N0 : Nat) : Prop :=
  (p.tables.exec = Jvm.exec ∧ c.code = cc ∧ c.maxLocals = nL ∧ s.vm.findClass own = some m.cls ∧ ∀ w ∈ GW, w.before args s = true) ∧ WT D ty s ∧ XT s ∧ N0 ≤ s.heap.size
def WB (p : Program) (l : Launch) (e : Env) (R : Room) (s : State) (m : MethodId) (args : Array Value) (below : List Frame) (meth : Method) (c : Code) (D : va_G) (N0 nL : Nat) (Q : State → Prop) (pc : Nat) (ls : List (Option Value)) (st : List Value) (ws : va_W) (cells slots : Nat) : Prop :=
  ∀ (H : Heap) (locs : List Loc) (lsr : Array Slot), va_P D vwCl ws H → va_D (fun q => N0 ≤ q) ws → va_S (fun q => N0 ≤ q) s.heap H locs → LR nL ls lsr → W p l e R s m args below meth c H locs cells slots Q (F0 m pc lsr st)
def bQ (D : va_G) (N0 : Nat) (Φ : va_W → Prop) : Array Value → State → Outcome → State → Prop := fun _ st o t => o = .returned none ∧ (∃ ws', Φ ws' ∧ va_P D vwCl ws' t.heap ∧ va_D (fun q => N0 ≤ q) ws') ∧ va_F (fun q => N0 ≤ q) st t
def BMet (l : Launch) (D : va_G) (ty : Nat → ClassId) (N0 : Nat) (y : MethodName) (cc : ByteArray) (maxL : Nat) (rm : Room) (as : List Value) (ws : va_W) (Φ : va_W → Prop) : Prop :=
  Met l y (Cond.code y cc maxL none :: GW) rm (va_Pc as (BW D ty N0 ws)) (bQ D N0 Φ) rm.cells rm.slots (fun q => N0 ≤ q)
/-- the list as a constructor has it: its own object at q0, what it made behind -/
def nf (ws : va_W) (q0 : Nat) (x : Nat × va_E) (N : va_W) : va_W := ws.set q0 x ++ N
theorem nf_start {ws : va_W} {q0 : Nat} {x : Nat × va_E} (h : ws[q0]? = some x) : ws = nf ws q0 x [] := by
  obtain ⟨h1, h2⟩ := List.getElem?_eq_some_iff.mp h
  rw [nf, List.append_nil, ← h2, List.set_getElem_self]
theorem nf_lt {ws : va_W} {q0 : Nat} {x : Nat × va_E} (h : ws[q0]? = some x) : q0 < ws.length := (List.getElem?_eq_some_iff.mp h).1
theorem nf_this {ws : va_W} {q0 : Nat} {x : Nat × va_E} {N : va_W} (h : q0 < ws.length) : (nf ws q0 x N)[q0]? = some x := by
  unfold nf
  rw [List.getElem?_append_left (by simpa using h), List.getElem?_set_self h]
theorem nf_new {ws : va_W} {q0 : Nat} {x z : Nat × va_E} {N : va_W} {j : Nat} (h : N[j]? = some z) : (nf ws q0 x N)[ws.length + j]? = some z := by
  unfold nf
  rw [List.getElem?_append_right (by simp)]
  simpa using h
theorem nf_app {ws : va_W} {q0 : Nat} {x : Nat × va_E} {N M : va_W} : nf ws q0 x N ++ M = nf ws q0 x (N ++ M) := by simp [nf, List.append_assoc]
theorem nf_setT {ws : va_W} {q0 : Nat} {x y : Nat × va_E} {N : va_W} (h : q0 < ws.length) : (nf ws q0 x N).set q0 y = nf ws q0 y N := by
  unfold nf
  rw [List.set_append_left _ _ (by simpa using h), List.set_set]
theorem nf_setN {ws : va_W} {q0 : Nat} {x y : Nat × va_E} {N : va_W} {j : Nat} : (nf ws q0 x N).set (ws.length + j) y = nf ws q0 x (N.set j y) := by
  unfold nf
  rw [List.set_append_right _ _ (by simp)]
  simp
section BM
variable {p : Program} {l : Launch} {e : Env} {R : Room} {s : State} {m : MethodId} {args : Array Value} {below : List Frame} {meth : Method} {c : Code} {Q : State → Prop}
variable {D : va_G} {ty : Nat → ClassId} {N0 nL : Nat} {cc : ByteArray} {own : String}
variable {pc : Nat} {ls : List (Option Value)} {st : List Value} {ws ws' : va_W} {cells slots : Nat}
theorem b_enter {y : MethodName} {maxL : Nat} {rm : Room} {as : List Value} {Φ : va_W → Prop} (hy : plainName y.cls = true) (ho : y.cls = own) (has : as.all (fun v => v.category == 1) = true) (hn : as.length ≤ maxL)
    (body : ∀ p e s m args below meth c, Cb p s m args meth c cc maxL own D ty N0 → meth.name = y.name → meth.locks = false → meth.sig.returnType = none → WB p l e rm s m args below meth c D N0 maxL (MQ below (bQ D N0 Φ) args s rm.cells rm.slots (fun q => N0 ≤ q)) 0 (as.map some ++ List.replicate (maxL - as.length) none) [] ws 0 0) :
    BMet l D ty N0 y cc maxL rm as ws Φ := by
  refine Met.ofW (cc := cc) (maxL := maxL) (ret := none) hy rfl ?_
  intro p e s m args below meth c s₁ B hml hv
  obtain ⟨rfl, hw⟩ := hv
  have hts := atoms_spec (ws := Cond.code y cc maxL none :: GW) B.pre
  have hcat : ∀ v ∈ as, v.category = 1 := fun v h => by simpa using List.all_eq_true.mp has v h
  rw [lg_entry_eq]
  exact body p e s m _ below meth c ⟨⟨B.exec, B.bytes, hml, ho ▸ findClass_of_methodNamed B.named, fun w h => hts w (List.mem_cons_of_mem _ h)⟩, hw.2.2.1, hw.2.2.2.1, hw.2.2.2.2⟩ (name_of_methodNamed B.named B.method).1 B.notSynchronized B.returns s.heap [] _ hw.1 hw.2.1 va_S.rf (LR.entry hcat hn)
theorem b_aload_n (K : Cb p s m args meth c cc nL own D ty N0) {k : Fin 4} {i x : Nat} (hdg : decode cc pc = .ok (.aload_n k, 1)) (hi : (k : Nat) = i) (hl : ls[i]? = some (some (.ref x)))
    (kk : WB p l e R s m args below meth c D N0 nL Q (pc + 1) ls (.ref x :: st) ws cells slots) : WB p l e R s m args below meth c D N0 nL Q pc ls st ws cells slots := fun H locs lsr hP hD hS hL => lv_aload_n K.1.1 K.1.2.1 hdg hi (hL.2.2 _ _ hl).1 (kk H locs lsr hP hD hS hL)
theorem b_iload_n (K : Cb p s m args meth c cc nL own D ty N0) {k : Fin 4} {i : Nat} {x : Int32} (hdg : decode cc pc = .ok (.iload_n k, 1)) (hi : (k : Nat) = i) (hl : ls[i]? = some (some (.int x)))
    (kk : WB p l e R s m args below meth c D N0 nL Q (pc + 1) ls (.int x :: st) ws cells slots) : WB p l e R s m args below meth c D N0 nL Q pc ls st ws cells slots := fun H locs lsr hP hD hS hL => lv_iload_n K.1.1 K.1.2.1 hdg hi (hL.2.2 _ _ hl).1 (kk H locs lsr hP hD hS hL)
theorem b_iconst (K : Cb p s m args meth c cc nL own D ty N0) {n : Int} {v : Int32} (hdg : decode cc pc = .ok (.iconst n, 1)) (hv : Int32.ofInt n = v)
    (kk : WB p l e R s m args below meth c D N0 nL Q (pc + 1) ls (.int v :: st) ws cells slots) : WB p l e R s m args below meth c D N0 nL Q pc ls st ws cells slots := fun H locs lsr hP hD hS hL => lv_iconst K.1.1 K.1.2.1 hdg hv (kk H locs lsr hP hD hS hL)
theorem b_bipush (K : Cb p s m args meth c cc nL own D ty N0) {n : Int} {v : Int32} (hdg : decode cc pc = .ok (.bipush n, 2)) (hv : (Int8.ofInt n).toInt32 = v)
    (kk : WB p l e R s m args below meth c D N0 nL Q (pc + 2) ls (.int v :: st) ws cells slots) : WB p l e R s m args below meth c D N0 nL Q pc ls st ws cells slots := fun H locs lsr hP hD hS hL => lv_bipush K.1.1 K.1.2.1 hdg hv (kk H locs lsr hP hD hS hL)
theorem b_sipush (K : Cb p s m args meth c cc nL own D ty N0) {n : Int} {v : Int32} (hdg : decode cc pc = .ok (.sipush n, 3)) (hv : (Int16.ofInt n).toInt32 = v)
    (kk : WB p l e R s m args below meth c D N0 nL Q (pc + 3) ls (.int v :: st) ws cells slots) : WB p l e R s m args below meth c D N0 nL Q pc ls st ws cells slots := fun H locs lsr hP hD hS hL => lv_sipush K.1.1 K.1.2.1 hdg hv (kk H locs lsr hP hD hS hL)
theorem b_iadd (K : Cb p s m args meth c cc nL own D ty N0) {x y v : Int32} (hdg : decode cc pc = .ok (.iadd, 1)) (hv : x + y = v)
    (kk : WB p l e R s m args below meth c D N0 nL Q (pc + 1) ls (.int v :: st) ws cells slots) : WB p l e R s m args below meth c D N0 nL Q pc ls (.int y :: .int x :: st) ws cells slots := fun H locs lsr hP hD hS hL => lv_iadd K.1.1 K.1.2.1 hdg (hv ▸ kk H locs lsr hP hD hS hL)
theorem b_dup (K : Cb p s m args meth c cc nL own D ty N0) {va : Value} (hdg : decode cc pc = .ok (.dup, 1)) (hva : va.category = 1)
    (kk : WB p l e R s m args below meth c D N0 nL Q (pc + 1) ls (va :: va :: st) ws cells slots) : WB p l e R s m args below meth c D N0 nL Q pc ls (va :: st) ws cells slots := fun H locs lsr hP hD hS hL => lv_dup K.1.1 K.1.2.1 hdg hva (kk H locs lsr hP hD hS hL)
theorem b_istore_n (K : Cb p s m args meth c cc nL own D ty N0) {k : Fin 4} {i : Nat} {x : Int32} {ls' : List (Option Value)} (hdg : decode cc pc = .ok (.istore_n k, 1)) (hi : (k : Nat) = i) (hn : i < nL) (hl : ls.set i (some (.int x)) = ls')
    (kk : WB p l e R s m args below meth c D N0 nL Q (pc + 1) ls' st ws cells slots) : WB p l e R s m args below meth c D N0 nL Q pc ls (.int x :: st) ws cells slots := fun H locs lsr hP hD hS hL => lv_istore_n K.1.1 K.1.2.1 hdg hi hL.has hn rfl (fun lsr' h' => kk H locs lsr' hP hD hS (hl ▸ hL.put rfl h'))
theorem b_istore (K : Cb p s m args meth c cc nL own D ty N0) {i : Nat} {x : Int32} {ls' : List (Option Value)} (hdg : decode cc pc = .ok (.istore i, 2)) (hn : i < nL) (hl : ls.set i (some (.int x)) = ls')
    (kk : WB p l e R s m args below meth c D N0 nL Q (pc + 2) ls' st ws cells slots) : WB p l e R s m args below meth c D N0 nL Q pc ls (.int x :: st) ws cells slots := fun H locs lsr hP hD hS hL => lv_istore K.1.1 K.1.2.1 hdg hL.has hn rfl (fun lsr' h' => kk H locs lsr' hP hD hS (hl ▸ hL.put rfl h'))
theorem b_astore_n (K : Cb p s m args meth c cc nL own D ty N0) {k : Fin 4} {i x : Nat} {ls' : List (Option Value)} (hdg : decode cc pc = .ok (.astore_n k, 1)) (hi : (k : Nat) = i) (hn : i < nL) (hl : ls.set i (some (.ref x)) = ls')
    (kk : WB p l e R s m args below meth c D N0 nL Q (pc + 1) ls' st ws cells slots) : WB p l e R s m args below meth c D N0 nL Q pc ls (.ref x :: st) ws cells slots := fun H locs lsr hP hD hS hL => lv_astore_n K.1.1 K.1.2.1 hdg hi hL.has hn rfl (fun lsr' h' => kk H locs lsr' hP hD hS (hl ▸ hL.put rfl h'))
theorem b_astore (K : Cb p s m args meth c cc nL own D ty N0) {i x : Nat} {ls' : List (Option Value)} (hdg : decode cc pc = .ok (.astore i, 2)) (hn : i < nL) (hl : ls.set i (some (.ref x)) = ls')
    (kk : WB p l e R s m args below meth c D N0 nL Q (pc + 2) ls' st ws cells slots) : WB p l e R s m args below meth c D N0 nL Q pc ls (.ref x :: st) ws cells slots := fun H locs lsr hP hD hS hL => lv_astore K.1.1 K.1.2.1 hdg hL.has hn rfl (fun lsr' h' => kk H locs lsr' hP hD hS (hl ▸ hL.put rfl h'))
theorem b_iinc (K : Cb p s m args meth c cc nL own D ty N0) {i : Nat} {n : Int} {x v : Int32} {ls' : List (Option Value)} (hdg : decode cc pc = .ok (.iinc i n, 3)) (hx : ls[i]? = some (some (.int x))) (hv : x + Int32.ofInt n = v) (hn : i < nL) (hl : ls.set i (some (.int v)) = ls')
    (kk : WB p l e R s m args below meth c D N0 nL Q (pc + 3) ls' st ws cells slots) : WB p l e R s m args below meth c D N0 nL Q pc ls st ws cells slots := fun H locs lsr hP hD hS hL => by
  obtain ⟨j, hj⟩ := List.getElem?_of_mem (mem_prs.mpr hx)
  exact lv_iinc K.1.1 K.1.2.1 hdg hL.has hj hv hn rfl (fun lsr' h' => kk H locs lsr' hP hD hS (hl ▸ hL.put rfl h'))
theorem b_goto (K : Cb p s m args meth c cc nL own D ty N0) {off : Int} {tgt : Nat} (hdg : decode cc pc = .ok (.goto off, 3)) (ht : (pc : Int) + off = (tgt : Int))
    (kk : WB p l e R s m args below meth c D N0 nL Q tgt ls st ws cells slots) : WB p l e R s m args below meth c D N0 nL Q pc ls st ws cells slots := fun H locs lsr hP hD hS hL => lv_goto K.1.1 K.1.2.1 hdg ht (kk H locs lsr hP hD hS hL)
theorem b_icmp_ge_f (K : Cb p s m args meth c cc nL own D ty N0) {x y : Int32} {off : Int} {tgt : Nat} (hdg : decode cc pc = .ok (.if_icmp .ge off, 3)) (ht : (pc : Int) + off = (tgt : Int)) (hc : ¬ y ≤ x)
    (kk : WB p l e R s m args below meth c D N0 nL Q (pc + 3) ls st ws cells slots) : WB p l e R s m args below meth c D N0 nL Q pc ls (.int y :: .int x :: st) ws cells slots := fun H locs lsr hP hD hS hL => lv_icmp_ge K.1.1 K.1.2.1 hdg ht (fun h => absurd h hc) (fun _ => kk H locs lsr hP hD hS hL)
theorem b_icmp_ge_t (K : Cb p s m args meth c cc nL own D ty N0) {x y : Int32} {off : Int} {tgt : Nat} (hdg : decode cc pc = .ok (.if_icmp .ge off, 3)) (ht : (pc : Int) + off = (tgt : Int)) (hc : y ≤ x)
    (kk : WB p l e R s m args below meth c D N0 nL Q tgt ls st ws cells slots) : WB p l e R s m args below meth c D N0 nL Q pc ls (.int y :: .int x :: st) ws cells slots := fun H locs lsr hP hD hS hL => lv_icmp_ge K.1.1 K.1.2.1 hdg ht (fun _ => kk H locs lsr hP hD hS hL) (fun h => absurd hc h)
theorem b_objInit (K : Cb p s m args meth c cc nL own D ty N0) {idx a : Nat} (hl : Cond.methodLink own idx Lib.objectInit ∈ GW) (hi : Cond.instanceMethod Lib.objectInit ∈ GW) (hc : Cond.code Lib.objectInit ⟨#[0xb1]⟩ 1 none ∈ GW) (hdg : decode cc pc = .ok (.invokespecial idx, 3)) (hf : 1 ≤ R.frames) (hlo : (st.map fun v => v.category).sum + 12 ≤ R.locals)
    (kk : WB p l e R s m args below meth c D N0 nL Q (pc + 3) ls st ws cells slots) : WB p l e R s m args below meth c D N0 nL Q pc ls (.ref a :: st) ws cells slots := fun H locs lsr hP hD hS hL =>
  W.objInit K.1.1 K.1.2.1 K.1.2.2.2.1 (K.1.2.2.2.2 _ hl) (K.1.2.2.2.2 _ hi) (K.1.2.2.2.2 _ hc) rfl (hL.1.trans K.1.2.2.1.symm) rfl hdg hf (by simpa [F0, JFrame.monitorRoom] using hlo) (kk H locs lsr hP hD hS hL)
theorem b_new (K : Cb p s m args meth c cc nL own D ty N0) {C : String} {T : u_T} {N ci index : Nat} {f : Nat → va_W} (hin : ∀ w ∈ u_ws C T N, w ∈ GW) (ty0 : Nat → FieldType) (hty : ∀ k, k < N → parseFieldDescriptor (T k).2.2.1 = some (ty0 k)) (hcl : Cond.classLink own index C ∈ GW) (hinst : Cond.instantiable C N ∈ GW) (hini : Cond.initialized C ∈ GW) (hc : vwCl[ci]? = some (C, T, N)) {fs : List Value} (hfs : ∀ j, j < N → defaultValue (ty0 j) = vp_V fs j) (hce : cells + 1 ≤ R.cells) (hsl : slots + N ≤ R.slots) (hdg : decode cc pc = .ok (.new index, 3)) (he : ∀ q, ws ++ [(q, .inr (ci, fs))] = f q)
    (kk : ∀ q : Nat, WB p l e R s m args below meth c D N0 nL Q (pc + 3) ls (.ref q :: st) (f q) (cells + 1) (slots + N)) : WB p l e R s m args below meth c D N0 nL Q pc ls st ws cells slots := fun H locs lsr hP hD hS hL =>
  va_new K.1.1 K.1.2.1 K.1.2.2.2.2 hin ty0 hty K.1.2.2.2.1 (K.1.2.2.2.2 _ hcl) (K.1.2.2.2.2 _ hinst) (K.1.2.2.2.2 _ hini) K.2.1.1 hP hD hS (fun q h => Nat.le_trans K.2.2.2 h) hc hfs hce hsl hdg (fun q H1 hP1 hD1 hS1 => kk q H1 locs lsr (he q ▸ hP1) (he q ▸ hD1) hS1 hL)
theorem b_newa (K : Cb p s m args meth c cc nL own D ty N0) {atype : ArrayType} {t0 N' : Nat} {f : Nat → va_W} {n : Int32} {a0 : vp_A} (harr : Cond.arrayClass (newarray.typeOf atype) ∈ GW) {t : FieldType} (hty : newarray.typeOf atype = t) (ht0 : (tysOf ty)[t0]? = some (ty t0, t)) (hprim : ∀ C, t ≠ .object C) (ha : ∀ cA : ClassId, vp_cell cA a0 = arrV cA N' (fun _ => defaultValue t)) (hn : ¬ n < 0) (hN : n.toNatClampNeg = N') (hbytes : N' * componentBytes t ≤ 536870912) (hce : cells + 1 ≤ R.cells) (hsl : slots + N' ≤ R.slots) (hdg : decode cc pc = .ok (.newarray atype, 2)) (he : ∀ q, ws ++ [(q, .inl (ty t0, a0))] = f q)
    (kk : ∀ q : Nat, WB p l e R s m args below meth c D N0 nL Q (pc + 2) ls (.ref q :: st) (f q) (cells + 1) (slots + N')) : WB p l e R s m args below meth c D N0 nL Q pc ls (.int n :: st) ws cells slots := fun H locs lsr hP hD hS hL =>
  va_newa K.1.1 K.1.2.1 (K.1.2.2.2.2 _ harr) hty K.2.1.1 hP hD hS (fun q h => Nat.le_trans K.2.2.2 h) ha hn hN hbytes hce hsl hdg (fun q cA H1 hK1 hP1 hD1 hS1 => by
    have h1 := (hK1.2 (tysOf ty).length (cA, t) (by simp)).2
    have h2 := (K.2.1.1.2 t0 _ ht0).2
    have e9 : cA = ty t0 := by
      cases t with
      | object C => exact absurd rfl (hprim C)
      | _ => exact Option.some.inj ((show s.vm.findClass _ = some cA from h1).symm.trans (show s.vm.findClass _ = some (ty t0) from h2))
    subst e9
    exact kk q H1 locs lsr (he q ▸ hP1) (he q ▸ hD1) hS1 hL)
theorem b_anew (K : Cb p s m args meth c cc nL own D ty N0) {index N' : Nat} {f : Nat → va_W} {n : Int32} (hcl : Cond.classLink own index RX1 ∈ GW) (hn : ¬ n < 0) (hN : n.toNatClampNeg = N') (hbytes : N' * 4 ≤ 536870912) (hce : cells + 1 ≤ R.cells) (hsl : slots + N' ≤ R.slots) (hdg : decode cc pc = .ok (.anewarray index, 3)) (he : ∀ q, ws ++ [(q, .inl (ty 2, N', .inr (.inr (.inr (.inr (fun _ => none))))))] = f q)
    (kk : ∀ q : Nat, WB p l e R s m args below meth c D N0 nL Q (pc + 3) ls (.ref q :: st) (f q) (cells + 1) (slots + N')) : WB p l e R s m args below meth c D N0 nL Q pc ls (.int n :: st) ws cells slots := fun H locs lsr hP hD hS hL =>
  va_newq K.1.1 K.1.2.1 K.1.2.2.2.1 (K.1.2.2.2.2 _ hcl) K.2.2.1.1 K.2.1.1 hP hD hS (fun q h => Nat.le_trans K.2.2.2 h) hn hN hbytes hce hsl hdg (fun q cA H1 hK1 hP1 hD1 hS1 => by
    have h1 := (hK1.2 (tysOf ty).length (cA, .object RX1) (by simp)).2
    have h2 := (K.2.1.1.2 2 (ty 2, .object RX1) rfl).2
    obtain ⟨-, -, -, -, -, h3⟩ := h1
    obtain ⟨-, -, -, -, -, h4⟩ := h2
    have e9 : cA = ty 2 := Option.some.inj (h3.symm.trans h4)
    subst e9
    exact kk q H1 locs lsr (he q ▸ hP1) (he q ▸ hD1) hS1 hL)
theorem b_get (K : Cb p s m args meth c cc nL own D ty N0) {C : String} {T : u_T} {N ci index q0 k a : Nat} {fs : List Value} {v : Value} (hin : ∀ w ∈ u_ws C T N, w ∈ GW) (hw : ws[q0]? = some (a, .inr (ci, fs))) (hc : vwCl[ci]? = some (C, T, N)) (hk : k < N) (hlink : Cond.fieldLink own index (T k).1 (T k).2.1 (T k).2.2.1 ∈ GW) (hf : fs[k]? = some v) (hdg : decode cc pc = .ok (.getfield index, 3))
    (kk : WB p l e R s m args below meth c D N0 nL Q (pc + 3) ls (v :: st) ws cells slots) : WB p l e R s m args below meth c D N0 nL Q pc ls (.ref a :: st) ws cells slots := fun H locs lsr hP hD hS hL =>
  va_get (v := v) K.1.1 K.1.2.1 (Ts := GW) K.1.2.2.2.2 hin K.1.2.2.2.1 K.2.1.1 hP q0 hw hc k hk (K.1.2.2.2.2 _ hlink) (fun _ h9 => h9) hf hdg (kk H locs lsr hP hD hS hL)
theorem b_put (K : Cb p s m args meth c cc nL own D ty N0) {C : String} {T : u_T} {N ci index q0 k a : Nat} {fs : List Value} {v : Value} {t9 : FieldType} (hin : ∀ w ∈ u_ws C T N, w ∈ GW) (ty0 : Nat → FieldType) (hty : ∀ k, k < N → parseFieldDescriptor (T k).2.2.1 = some (ty0 k)) (hnm : ∀ a, a < N → ∀ b, b < N → a ≠ b → (T a).2.1 ≠ (T b).2.1) (hw : ws[q0]? = some (a, .inr (ci, fs))) (hc : vwCl[ci]? = some (C, T, N)) (hk : k < N) (hlink : Cond.fieldLink own index (T k).1 (T k).2.1 (T k).2.2.1 ∈ GW) (hfin : (T k).2.2.2 = false) (hpd : parseFieldDescriptor (T k).2.2.1 = some t9) (hn : narrow t9 v = v) (hfit : fits t9 v = true) (hl : k < fs.length) (hdg : decode cc pc = .ok (.putfield index, 3)) (he : ws.set q0 (a, .inr (ci, fs.set k v)) = ws')
    (kk : WB p l e R s m args below meth c D N0 nL Q (pc + 3) ls st ws' cells slots) : WB p l e R s m args below meth c D N0 nL Q pc ls (v :: .ref a :: st) ws cells slots := fun H locs lsr hP hD hS hL =>
  va_put (v := v) K.1.1 K.1.2.1 (Ts := GW) K.1.2.2.2.2 hin ty0 hty hnm K.1.2.2.2.1 K.2.1.1 hP hD hS q0 hw hc k hk (K.1.2.2.2.2 _ hlink) (fun _ h9 => h9) hfin hpd hn hfit hl hdg (fun H1 locs1 hP1 hD1 hS1 => kk H1 locs1 lsr (he ▸ hP1) (he ▸ hD1) hS1 hL)
theorem b_putF (K : Cb p s m args meth c cc nL own D ty N0) {C : String} {T : u_T} {N ci index q0 k a : Nat} {fs : List Value} {v : Value} {t9 : FieldType} (hin : ∀ w ∈ u_ws C T N, w ∈ GW) (ty0 : Nat → FieldType) (hty : ∀ k, k < N → parseFieldDescriptor (T k).2.2.1 = some (ty0 k)) (hnm : ∀ a, a < N → ∀ b, b < N → a ≠ b → (T a).2.1 ≠ (T b).2.1) (hw : ws[q0]? = some (a, .inr (ci, fs))) (hc : vwCl[ci]? = some (C, T, N)) (hk : k < N) (hlink : Cond.fieldLink own index (T k).1 (T k).2.1 (T k).2.2.1 ∈ GW) (hfin : (T k).2.2.2 = true) (hi : meth.name = "<init>") (hdecl : (T k).1 = own) (hpd : parseFieldDescriptor (T k).2.2.1 = some t9) (hn : narrow t9 v = v) (hfit : fits t9 v = true) (hl : k < fs.length) (hdg : decode cc pc = .ok (.putfield index, 3)) (he : ws.set q0 (a, .inr (ci, fs.set k v)) = ws')
    (kk : WB p l e R s m args below meth c D N0 nL Q (pc + 3) ls st ws' cells slots) : WB p l e R s m args below meth c D N0 nL Q pc ls (v :: .ref a :: st) ws cells slots := fun H locs lsr hP hD hS hL =>
  va_putF (v := v) K.1.1 K.1.2.1 (Ts := GW) K.1.2.2.2.2 hin ty0 hty hnm K.1.2.2.2.1 K.2.1.1 hP hD hS q0 hw hc k hk (K.1.2.2.2.2 _ hlink) (fun _ h9 => h9) hfin hi hdecl hpd hn hfit hl hdg (fun H1 locs1 hP1 hD1 hS1 => kk H1 locs1 lsr (he ▸ hP1) (he ▸ hD1) hS1 hL)
theorem b_alen (K : Cb p s m args meth c cc nL own D ty N0) {q0 t0 a : Nat} {cA : ClassId} {x : vp_A} {t : FieldType} {v : Int32} (hw : ws[q0]? = some (a, .inl (cA, x))) (ht : (tysOf ty)[t0]? = some (cA, t)) (hv : Int32.ofNat x.1 = v) (hdg : decode cc pc = .ok (.arraylength, 1))
    (kk : WB p l e R s m args below meth c D N0 nL Q (pc + 1) ls (.int v :: st) ws cells slots) : WB p l e R s m args below meth c D N0 nL Q pc ls (.ref a :: st) ws cells slots := fun H locs lsr hP hD hS hL =>
  va_alen K.1.1 K.1.2.1 K.2.1.1 hP q0 t0 hw ht hv hdg (kk H locs lsr hP hD hS hL)
theorem b_iast (K : Cb p s m args meth c cc nL own D ty N0) {q0 a n : Nat} {f : Nat → Int32} {i x : Int32} {j : Nat} (hw : ws[q0]? = some (a, .inl (ty 0, n, .inl f))) (hin : vp_in i n) (hj : i.toNatClampNeg = j) (hdg : decode cc pc = .ok (.iastore, 1)) (he : ws.set q0 (a, .inl (ty 0, n, .inl (upd f j x))) = ws')
    (kk : WB p l e R s m args below meth c D N0 nL Q (pc + 1) ls st ws' cells slots) : WB p l e R s m args below meth c D N0 nL Q pc ls (.int x :: .int i :: .ref a :: st) ws cells slots := fun H locs lsr hP hD hS hL => by
  subst hj
  exact va_iast K.1.1 K.1.2.1 K.2.1.1 hP hD hS q0 0 hw rfl hin hdg (fun H1 locs1 hP1 hD1 hS1 => kk H1 locs1 lsr (he ▸ hP1) (he ▸ hD1) hS1 hL)
theorem b_aast (K : Cb p s m args meth c cc nL own D ty N0) {q0 q1 a v n : Nat} {f : Nat → Option Nat} {vs : List Value} {i : Int32} {j : Nat} (hw : ws[q0]? = some (a, .inl (ty 2, n, .inr (.inr (.inr (.inr f)))))) (hv : ws[q1]? = some (v, .inr (3, vs))) (hin : vp_in i n) (hj : i.toNatClampNeg = j) (hdg : decode cc pc = .ok (.aastore, 1)) (he : ws.set q0 (a, .inl (ty 2, n, .inr (.inr (.inr (.inr (va_up f j (some v))))))) = ws')
    (kk : WB p l e R s m args below meth c D N0 nL Q (pc + 1) ls st ws' cells slots) : WB p l e R s m args below meth c D N0 nL Q pc ls (.ref v :: .int i :: .ref a :: st) ws cells slots := fun H locs lsr hP hD hS hL => by
  subst hj
  exact va_astq K.1.1 K.1.2.1 K.2.1.1 hP hD hS q0 2 q1 3 hw rfl hv (r := (RX1, TX1, 9)) rfl hin hdg (fun H1 locs1 hP1 hD1 hS1 => kk H1 locs1 lsr (he ▸ hP1) (he ▸ hD1) hS1 hL)
theorem bw_of {H : Heap} {locs : List Loc} {U : State} (K : Cb p s m args meth c cc nL own D ty N0) (hP : va_P D vwCl ws H) (hD : va_D (fun q => N0 ≤ q) ws) (hS : va_S (fun q => N0 ≤ q) s.heap H locs) (hU : U.heap = H) (hW : s.WarmedH U.vm) : BW D ty N0 ws U :=
  ⟨by rw [hU]; exact hP, hD, K.2.1.warm hW, K.2.2.1.warm hW, by rw [hU]; exact Nat.le_trans K.2.2.2 hS.1⟩
theorem b_core {H : Heap} {locs : List Loc} {lsr : Array Slot} {mc ms : Nat} {rest st0 : List Value} {a : Array Value} {Φ : va_W → Prop} (hr : va_Run p l e R s m args below meth c H locs cells slots mc ms (F0 m pc lsr st0) rest (bQ D N0 Φ a) (fun q => N0 ≤ q)) (hS : va_S (fun q => N0 ≤ q) s.heap H locs) (hL : LR nL ls lsr)
    (kk : ∀ ws', Φ ws' → WB p l e R s m args below meth c D N0 nL Q (pc + 3) ls rest ws' (cells + mc) (slots + ms)) : W p l e R s m args below meth c H locs cells slots Q (F0 m pc lsr st0) := by
  intro T hT X
  obtain ⟨v, st₀, t, T', L, h0, X', hL', e1, e2, ⟨hov, ⟨ws', hΦ, hP', hD'⟩, hF⟩, st⟩ := hr T hT X
  cases hov
  obtain ⟨k1, k2, k3⟩ := vx_keep (A0 := fun q => N0 ≤ q) (A1 := fun q => N0 ≤ q) h0 e1 hS (fun q _ h => h) (fun q h => h) hL' hF
  obtain ⟨t2, a1, b1⟩ := kk ws' hΦ T'.heap (locs ++ L) lsr (by rw [e1]; exact hP') hD' k3 hL T' rfl X'
  exact ⟨t2, st t2 a1, b1⟩
/-- a constructor's call: its object is the q0th of the list -/
theorem b_callI (K : Cb p s m args meth c cc nL own D ty N0) {index maxL q0 a ci : Nat} {fs : List Value} {y : MethodName} {bytes : ByteArray} {rm : Room} {Ψ : Nat → List Value → va_W → Prop} (hw : ws[q0]? = some (a, .inr (ci, fs)))
    (hM : BMet l D ty N0 y bytes maxL rm [.ref a] ws (fun w => ∃ F N, Ψ a F N ∧ w = ws.set q0 (a, .inr (ci, F)) ++ N)) (hcode : Cond.code y bytes maxL none ∈ GW) (hl : Cond.methodLink own index y ∈ GW) (hi : Cond.instanceMethod y ∈ GW) (hini : Cond.initialized y.cls ∈ GW) (hy : y.name = "<init>")
    (hd' : y.cls ≠ "java/lang/invoke/MethodHandle" ∧ y.cls ≠ "java/lang/invoke/VarHandle" ∧ (parseMethodDescriptor y.desc).map (fun d => d.parameters.length) = some 0) (hR : Fits rm R maxL) (hW : (st.map fun v => v.category).sum ≤ 8) (hdg : decode cc pc = .ok (.invokespecial index, 3)) (hf : cells + rm.cells ≤ R.cells ∧ slots + rm.slots ≤ R.slots)
    (kk : ∀ F N, Ψ a F N → WB p l e R s m args below meth c D N0 nL Q (pc + 3) ls st (ws.set q0 (a, .inr (ci, F)) ++ N) (cells + rm.cells) (slots + rm.slots)) : WB p l e R s m args below meth c D N0 nL Q pc ls (.ref a :: st) ws cells slots := fun H locs lsr hP hD hS hL => by
  have hG : GoodIn GW (Cond.code y bytes maxL none :: GW) := goodIn_GW (fun w h => by
    rcases List.mem_cons.mp h with rfl | h <;> assumption)
  have hcw := cwI (R := R) (s := s) (args := args) (rm := rm) (own := own) (index := index) (y := y) (bytes := bytes) (maxL := maxL) 0 K.1.2.2.2.2 hG rfl rfl rfl (K.1.2.2.2.2 _ hini) (K.1.2.2.2.2 _ hl) (K.1.2.2.2.2 _ hi) hy hd' hR
  have hrun := va_runI (p := p) (l := l) (e := e) (below := below) (meth := meth) (locs := locs) (cells := cells) (slots := slots) (g := F0 m pc lsr (.ref a :: st)) (As := []) (rest := st) K.1 hM hcw ⟨blind_B _, fun U hU hWm => ⟨rfl, bw_of K hP hD hS hU hWm⟩⟩ rfl rfl hL.1 rfl (lv_room hW) hdg hf
  exact b_core hrun hS hL (fun w hΦ => by
    obtain ⟨F, N, h1, rfl⟩ := hΦ
    exact kk F N h1)
theorem b_callIN (K : Cb p s m args meth c cc nL own D ty N0) {index maxL q0 a ci : Nat} {host : String} {fs : List Value} {y : MethodName} {bytes : ByteArray} {rm : Room} {Ψ : Nat → List Value → va_W → Prop} (hw : ws[q0]? = some (a, .inr (ci, fs)))
    (hM : BMet l D ty N0 y bytes maxL rm [.ref a] ws (fun w => ∃ F N, Ψ a F N ∧ w = ws.set q0 (a, .inr (ci, F)) ++ N)) (hcode : Cond.code y bytes maxL none ∈ GW) (hl : va_Nw (.methodLinkNest own index y host) s) (hi : Cond.instanceMethod y ∈ GW) (hini : Cond.initialized y.cls ∈ GW) (hy : y.name = "<init>")
    (hd' : y.cls ≠ "java/lang/invoke/MethodHandle" ∧ y.cls ≠ "java/lang/invoke/VarHandle" ∧ (parseMethodDescriptor y.desc).map (fun d => d.parameters.length) = some 0) (hR : Fits rm R maxL) (hW : (st.map fun v => v.category).sum ≤ 8) (hdg : decode cc pc = .ok (.invokespecial index, 3)) (hf : cells + rm.cells ≤ R.cells ∧ slots + rm.slots ≤ R.slots)
    (kk : ∀ F N, Ψ a F N → WB p l e R s m args below meth c D N0 nL Q (pc + 3) ls st (ws.set q0 (a, .inr (ci, F)) ++ N) (cells + rm.cells) (slots + rm.slots)) : WB p l e R s m args below meth c D N0 nL Q pc ls (.ref a :: st) ws cells slots := fun H locs lsr hP hD hS hL => by
  have hG : GoodIn GW (Cond.code y bytes maxL none :: GW) := goodIn_GW (fun w h => by
    rcases List.mem_cons.mp h with rfl | h <;> assumption)
  have hcw := va_cnB (R := R) (s := s) (args := args) (rm := rm) (own := own) (host := host) (index := index) (y := y) (bytes := bytes) (maxL := maxL) (ret := none) 0 K.1.2.2.2.2 hG rfl rfl rfl hl (K.1.2.2.2.2 _ hini) hd' hR
  have hrun := va_runIN (p := p) (l := l) (e := e) (below := below) (meth := meth) (locs := locs) (cells := cells) (slots := slots) (g := F0 m pc lsr (.ref a :: st)) (As := []) (rest := st) K.1 hM ⟨hcw, hy, K.1.2.2.2.2 _ hi⟩ ⟨blind_B _, fun U hU hWm => ⟨rfl, bw_of K hP hD hS hU hWm⟩⟩ rfl rfl hL.1 rfl (lv_room hW) hdg hf
  exact b_core hrun hS hL (fun w hΦ => by
    obtain ⟨F, N, h1, rfl⟩ := hΦ
    exact kk F N h1)
theorem b_callS (K : Cb p s m args meth c cc nL own D ty N0) {index maxL n : Nat} {y : MethodName} {bytes : ByteArray} {rm : Room} {As : List Value} {st0 : List Value} (hM : BMet l D ty N0 y bytes maxL rm As ws (fun w => w = ws')) (hcode : Cond.code y bytes maxL none ∈ GW) (hl : Cond.methodLink own index y ∈ GW) (hi : (Cond.static y) ∈ GW) (hini : Cond.initialized y.cls ∈ GW)
    (hd' : y.cls ≠ "java/lang/invoke/MethodHandle" ∧ y.cls ≠ "java/lang/invoke/VarHandle" ∧ (parseMethodDescriptor y.desc).map (fun d => d.parameters.length) = some n) (hn : As.length = n) (hR : Fits rm R maxL) (hst : As.reverse ++ st = st0) (hW : (st.map fun v => v.category).sum ≤ 8) (hdg : decode cc pc = .ok (.invokestatic index, 3)) (hf : cells + rm.cells ≤ R.cells ∧ slots + rm.slots ≤ R.slots)
    (kk : WB p l e R s m args below meth c D N0 nL Q (pc + 3) ls st ws' (cells + rm.cells) (slots + rm.slots)) : WB p l e R s m args below meth c D N0 nL Q pc ls st0 ws cells slots := fun H locs lsr hP hD hS hL => by
  subst hst
  have hG : GoodIn GW (Cond.code y bytes maxL none :: GW) := goodIn_GW (fun w h => by
    rcases List.mem_cons.mp h with rfl | h <;> assumption)
  have hcw : CallB R s args own index y bytes maxL none (Cond.code y bytes maxL none :: GW) rm rm.cells rm.slots n ∧ (Cond.static y).before args s = true := ⟨callB_of (rm := rm) n K.1.2.2.2.2 hG rfl rfl rfl (K.1.2.2.2.2 _ hini) (K.1.2.2.2.2 _ hl) hd' hR, K.1.2.2.2.2 _ hi⟩
  have hrun := va_runS (p := p) (l := l) (e := e) (below := below) (meth := meth) (locs := locs) (cells := cells) (slots := slots) (g := F0 m pc lsr (As.reverse ++ st)) (rest := st) K.1 hM hcw ⟨blind_B _, fun U hU hWm => ⟨rfl, bw_of K hP hD hS hU hWm⟩⟩ rfl hn hL.1 rfl (lv_room hW) hdg hf
  exact b_core hrun hS hL (fun w hΦ => by subst hΦ; exact kk)
theorem b_vret (K : Cb p s m args meth c cc nL own D ty N0) (hlk : meth.locks = false) (hr : meth.sig.returnType = none) {Φ : va_W → Prop} (hdg : decode cc pc = .ok (.return_, 1)) {mc ms : Nat} (hc : cells ≤ mc) (hs : slots ≤ ms) (hΦ : Φ ws) :
    WB p l e R s m args below meth c D N0 nL (MQ below (bQ D N0 Φ) args s mc ms (fun q => N0 ≤ q)) pc ls [] ws cells slots := fun H locs lsr hP hD hS hL => by
  refine W.widen hc hs ?_
  exact W.vret K.1.1 K.1.2.1 hr (fun t ht hW => ⟨rfl, ⟨ws, hΦ, by rw [ht]; exact hP, hD⟩, hS.F ht⟩) hS.2.2 hdg hlk
theorem b_eq (he : ws = ws') (kk : WB p l e R s m args below meth c D N0 nL Q pc ls st ws' cells slots) : WB p l e R s m args below meth c D N0 nL Q pc ls st ws cells slots := he ▸ kk
theorem b_less {ls' : List (Option Value)} (hw : Le2 ls' ls) (kk : WB p l e R s m args below meth c D N0 nL Q pc ls' st ws cells slots) : WB p l e R s m args below meth c D N0 nL Q pc ls st ws cells slots := fun H locs lsr hP hD hS hL => kk H locs lsr hP hD hS (hL.weaken hw.at)
end BM
