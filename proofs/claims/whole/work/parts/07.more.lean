/-! MORE ROWS, and the small words that the printed functions use -/
theorem ite_t {α : Type} {c : Prop} [Decidable c] {a b r : α} (hc : c) (h : (if c then a else b) = r) : a = r := by rw [if_pos hc] at h; exact h
theorem ite_f {α : Type} {c : Prop} [Decidable c] {a b r : α} (hc : ¬ c) (h : (if c then a else b) = r) : b = r := by rw [if_neg hc] at h; exact h
theorem bnd {α β : Type} {x : Option α} {f : α → Option β} {r : β} (h : x.bind f = some r) : ∃ a, x = some a ∧ f a = some r := Option.bind_eq_some_iff.mp h
/-- an index within a row of n places -/
def ib (i : Int32) (n : Nat) : Bool := !(decide (i < 0) || decide (n ≤ i.toNatClampNeg))
theorem ib_in {i : Int32} {n : Nat} (h : ib i n = true) : vp_in i n := by
  simp only [ib, Bool.not_eq_true', Bool.or_eq_false_iff, decide_eq_false_iff_not] at h
  exact fun q => q.elim h.1 h.2
theorem ib_some {α : Type} {i : Int32} {n : Nat} {a : Option α} {r : α} (h : (if ib i n = true then a else none) = some r) : vp_in i n ∧ a = some r := by
  by_cases hc : ib i n = true
  · rw [if_pos hc] at h; exact ⟨ib_in hc, h⟩
  · rw [if_neg hc] at h; cases h
def sm {α β γ : Type} (x : α ⊕ β) (f : α → γ) (g : β → γ) : γ := match x with
  | .inl a => f a
  | .inr b => g b
theorem sm_l {α β γ : Type} {x : α ⊕ β} {f : α → γ} {g : β → γ} {a : α} {r : γ} (hx : x = .inl a) (h : sm x f g = r) : f a = r := by subst hx; exact h
theorem sm_r {α β γ : Type} {x : α ⊕ β} {f : α → γ} {g : β → γ} {b : β} {r : γ} (hx : x = .inr b) (h : sm x f g = r) : g b = r := by subst hx; exact h
def nn32 (r : UInt32) : Bool := decide (r &&& 0x7fffffff ≤ 0x7f800000)
def nn64 (r : UInt64) : Bool := decide (r &&& 0x7fffffffffffffff ≤ 0x7ff0000000000000)
theorem nn32_some {α : Type} {x : UInt32} {a : Option α} {r : α} (h : (if nn32 x = true then a else none) = some r) : vf_n32 x ∧ a = some r := by
  by_cases hc : nn32 x = true
  · rw [if_pos hc] at h; exact ⟨by simpa [nn32, vf_n32] using hc, h⟩
  · rw [if_neg hc] at h; cases h
theorem nn64_some {α : Type} {x : UInt64} {a : Option α} {r : α} (h : (if nn64 x = true then a else none) = some r) : vf_n64 x ∧ a = some r := by
  by_cases hc : nn64 x = true
  · rw [if_pos hc] at h; exact ⟨by simpa [nn64, vf_n64] using hc, h⟩
  · rw [if_neg hc] at h; cases h
def nb (x : Int32) : Int32 := vp_nar .boolean x
def nch (x : Int32) : Int32 := vp_nar .char x
def oI (x : Int32) : Option Value ⊕ String := .inl (some (.int x))
def oT : Int32 ⊕ String → Option Value ⊕ String
  | .inl v => .inl (some (.int v))
  | .inr E => .inr E
def oV : Int32 ⊕ String → Option Value ⊕ String
  | .inl _ => .inl none
  | .inr E => .inr E
def oD : UInt64 ⊕ String → Option Value ⊕ String
  | .inl v => .inl (some (.double v))
  | .inr E => .inr E
/-- fewer known locals -/
def Le2 : List (Option Value) → List (Option Value) → Prop
  | [], _ => True
  | none :: a, _ :: b => Le2 a b
  | none :: a, [] => Le2 a []
  | some v :: a, w :: b => w = some v ∧ Le2 a b
  | some _ :: _, [] => False
theorem Le2.at : ∀ {a b : List (Option Value)}, Le2 a b → ∀ (k : Nat) (v : Value), a[k]? = some (some v) → b[k]? = some (some v)
  | [], _, _, k, v, hk => by simp at hk
  | none :: a, w :: b, h, k, v, hk => by
    cases k with
    | zero => simp at hk
    | succ k => simp only [List.getElem?_cons_succ] at hk ⊢; exact Le2.at (a := a) (b := b) h k v hk
  | none :: a, [], h, k, v, hk => by
    cases k with
    | zero => simp at hk
    | succ k =>
      simp only [List.getElem?_cons_succ] at hk
      have := Le2.at (a := a) (b := []) h k v hk
      simp at this
  | some x :: a, w :: b, h, k, v, hk => by
    cases k with
    | zero => simp only [List.getElem?_cons_zero, Option.some.injEq] at hk ⊢; rw [h.1, hk]
    | succ k => simp only [List.getElem?_cons_succ] at hk ⊢; exact Le2.at (a := a) (b := b) h.2 k v hk
  | some _ :: _, [], h, _, _, _ => h.elim
def tblOK (b : ByteArray) (L : List (Nat × Instr × Nat)) : Bool := L.all (fun x => decide (decode b x.1 = .ok (x.2.1, x.2.2)))
theorem tat {b : ByteArray} {L : List (Nat × Instr × Nat)} (h : tblOK b L = true) (j : Nat) {pc n : Nat} {i : Instr} (hj : L[j]? = some (pc, i, n)) : decode b pc = .ok (i, n) := by
  have := List.all_eq_true.mp h _ (List.mem_of_getElem? hj)
  simpa using this
theorem i32ne {x : Int32} {y : Int32} {k : Int} (h : ¬ x = y) (hk : y.toInt = k) : x.toInt ≠ k := fun q => h (Int32.toInt_inj.mp (q.trans hk.symm))
section AM3
variable {p : Program} {l : Launch} {e : Env} {R : Room} {s : State} {m : MethodId} {args : Array Value} {below : List Frame} {meth : Method} {c : Code} {Q : State → Prop}
variable {D : va_G} {ty : Nat → ClassId} {ρ : Nat → Nat → Nat} {N0 nL : Nat} {cc : ByteArray} {own : String} {ret : Option FieldType}
variable {pc : Nat} {ls : List (Option Value)} {st : List Value} {σ σ' : Sg} {cells slots : Nat} {out : Option Value ⊕ String}
theorem a_fconst0 (K : Cx p l s m args meth c cc nL own ret D ty ρ N0) (hdg : decode cc pc = .ok (.fconst 0, 1)) (k : WA p l e R s m args below meth c D ty ρ N0 nL Q (pc + 1) ls (.float FP.fconst0 :: st) σ cells slots) : WA p l e R s m args below meth c D ty ρ N0 nL Q pc ls st σ cells slots := fun H locs lsr hP hS hL => lv_fconst0 K.1.1 K.1.2.1 hdg (k H locs lsr hP hS hL)
theorem a_fconst1 (K : Cx p l s m args meth c cc nL own ret D ty ρ N0) (hdg : decode cc pc = .ok (.fconst 1, 1)) (k : WA p l e R s m args below meth c D ty ρ N0 nL Q (pc + 1) ls (.float FP.fconst1 :: st) σ cells slots) : WA p l e R s m args below meth c D ty ρ N0 nL Q pc ls st σ cells slots := fun H locs lsr hP hS hL => lv_fconst1 K.1.1 K.1.2.1 hdg (k H locs lsr hP hS hL)
theorem a_fconst2 (K : Cx p l s m args meth c cc nL own ret D ty ρ N0) (hdg : decode cc pc = .ok (.fconst 2, 1)) (k : WA p l e R s m args below meth c D ty ρ N0 nL Q (pc + 1) ls (.float FP.fconst2 :: st) σ cells slots) : WA p l e R s m args below meth c D ty ρ N0 nL Q pc ls st σ cells slots := fun H locs lsr hP hS hL => lv_fconst2 K.1.1 K.1.2.1 hdg (k H locs lsr hP hS hL)
theorem a_dconst0 (K : Cx p l s m args meth c cc nL own ret D ty ρ N0) (hdg : decode cc pc = .ok (.dconst 0, 1)) (k : WA p l e R s m args below meth c D ty ρ N0 nL Q (pc + 1) ls (.double FP.dconst0 :: st) σ cells slots) : WA p l e R s m args below meth c D ty ρ N0 nL Q pc ls st σ cells slots := fun H locs lsr hP hS hL => lv_dconst0 K.1.1 K.1.2.1 hdg (k H locs lsr hP hS hL)
theorem a_ldcw (K : Cx p l s m args meth c cc nL own ret D ty ρ N0) {index : Nat} {v : Int32} (hc : Cond.constant own index v ∈ GW) (hdg : decode cc pc = .ok (.ldc_w index, 3)) (k : WA p l e R s m args below meth c D ty ρ N0 nL Q (pc + 3) ls (.int v :: st) σ cells slots) : WA p l e R s m args below meth c D ty ρ N0 nL Q pc ls st σ cells slots := fun H locs lsr hP hS hL => lv_ldcw K.1.1 K.1.2.1 K.1.2.2.2.1 (K.1.2.2.2.2 _ hc) hdg (k H locs lsr hP hS hL)
theorem a_tableD (K : Cx p l s m args meth c cc nL own ret D ty ρ N0) {dflt lo hi : Int} {offs : Array Int} {len : Nat} {x : Int32} {tgt : Nat} (hdg : decode cc pc = .ok (.tableswitch dflt lo hi offs, len)) (h : x.toInt < lo ∨ hi < x.toInt ∨ offs[(x.toInt - lo).toNat]? = some dflt) (ht : (pc : Int) + dflt = (tgt : Int))
    (k : WA p l e R s m args below meth c D ty ρ N0 nL Q tgt ls st σ cells slots) : WA p l e R s m args below meth c D ty ρ N0 nL Q pc ls (.int x :: st) σ cells slots := by
  by_cases h1 : x.toInt < lo
  · exact a_tableOut K hdg (Or.inl h1) ht k
  · by_cases h2 : hi < x.toInt
    · exact a_tableOut K hdg (Or.inr h2) ht k
    · rcases h with h | h | h
      · exact absurd h h1
      · exact absurd h h2
      · exact a_tableIn K hdg h1 h2 h ht k
theorem a_ialdK (K : Cx p l s m args meth c cc nL own ret D ty ρ N0) {T i nj : Nat} {j : Int32} (hv : Vld T i) (hd : dsc T = none) (hk : akind T = 0) (hin : vp_in j (alen T)) (hj : j.toNatClampNeg = nj) (hdg : decode cc pc = .ok (.iaload, 1))
    (kk : WA p l e R s m args below meth c D ty ρ N0 nL Q (pc + 1) ls (.int (gA σ T i nj) :: st) σ cells slots) : WA p l e R s m args below meth c D ty ρ N0 nL Q pc ls (.int j :: .ref (ρ T i) :: st) σ cells slots := by
  subst hj
  exact a_iald K hv hd hk hin hdg kk
theorem a_caldK (K : Cx p l s m args meth c cc nL own ret D ty ρ N0) {T i nj : Nat} {j : Int32} (hv : Vld T i) (hd : dsc T = none) (hk : akind T = 1) (hin : vp_in j (alen T)) (hj : j.toNatClampNeg = nj) (hdg : decode cc pc = .ok (.caload, 1))
    (kk : WA p l e R s m args below meth c D ty ρ N0 nL Q (pc + 1) ls (.int (gA σ T i nj) :: st) σ cells slots) : WA p l e R s m args below meth c D ty ρ N0 nL Q pc ls (.int j :: .ref (ρ T i) :: st) σ cells slots := by
  subst hj
  exact a_cald K hv hd hk hin hdg kk
theorem a_iastK (K : Cx p l s m args meth c cc nL own ret D ty ρ N0) {T i nj : Nat} {j x : Int32} (hv : Vld T i) (hd : dsc T = none) (hk : akind T = 0) (hin : vp_in j (alen T)) (hj : j.toNatClampNeg = nj) (hdg : decode cc pc = .ok (.iastore, 1))
    (kk : WA p l e R s m args below meth c D ty ρ N0 nL Q (pc + 1) ls st (sA σ T i nj x) cells slots) : WA p l e R s m args below meth c D ty ρ N0 nL Q pc ls (.int x :: .int j :: .ref (ρ T i) :: st) σ cells slots := by
  subst hj
  exact a_iast K hv hd hk hin hdg kk
theorem a_castK (K : Cx p l s m args meth c cc nL own ret D ty ρ N0) {T i nj : Nat} {j x : Int32} (hv : Vld T i) (hd : dsc T = none) (hk : akind T = 1) (hin : vp_in j (alen T)) (hj : j.toNatClampNeg = nj) (hdg : decode cc pc = .ok (.castore, 1))
    (kk : WA p l e R s m args below meth c D ty ρ N0 nL Q (pc + 1) ls st (sA σ T i nj (vp_nar .char x)) cells slots) : WA p l e R s m args below meth c D ty ρ N0 nL Q pc ls (.int x :: .int j :: .ref (ρ T i) :: st) σ cells slots := by
  subst hj
  exact a_cast K hv hd hk hin hdg kk
theorem a_le2 {ls' : List (Option Value)} (hw : Le2 ls' ls) (kk : WA p l e R s m args below meth c D ty ρ N0 nL Q pc ls' st σ cells slots) : WA p l e R s m args below meth c D ty ρ N0 nL Q pc ls st σ cells slots := a_less hw.at kk
/-- what a callee's words are in the tables -/
def CwV (C : String) (y : MethodName) (bytes : ByteArray) (maxL : Nat) (ret' : Option FieldType) (n : Nat) : Prop := Cond.code y bytes maxL ret' ∈ GW ∧ Cond.instanceMethod y ∈ GW ∧ Cond.selects C y y ∈ GW ∧ Cond.initialized C ∈ GW ∧ (y.cls = C ∧ y.cls ≠ "java/lang/invoke/MethodHandle" ∧ y.cls ≠ "java/lang/invoke/VarHandle" ∧ (parseMethodDescriptor y.desc).map (fun d => d.parameters.length) = some n)
def CwS (C : String) (y : MethodName) (bytes : ByteArray) (maxL : Nat) (ret' : Option FieldType) (n : Nat) : Prop := Cond.code y bytes maxL ret' ∈ GW ∧ Cond.static y ∈ GW ∧ Cond.initialized C ∈ GW ∧ (y.cls = C ∧ y.cls ≠ "java/lang/invoke/MethodHandle" ∧ y.cls ≠ "java/lang/invoke/VarHandle" ∧ (parseMethodDescriptor y.desc).map (fun d => d.parameters.length) = some n)
abbrev Fits (rm R : Room) (maxL : Nat) : Prop := rm.frames + 1 ≤ R.frames ∧ 8 + (maxL + 11) + rm.locals ≤ R.locals
/-- an instance's method that answers an int -/
theorem a_callVi (K : Cx p l s m args meth c cc nL own ret D ty ρ N0) {T0 i0 ci N index maxL n : Nat} {C : String} {TT : u_T} {ds : List (Option (Nat × Option Nat))} {y : MethodName} {bytes : ByteArray} {ret' : Option FieldType} {rm : Room} {As rest : List Value} {x : Int32}
    (hM : AMet l D ty ρ N0 y (Cond.code y bytes maxL ret' :: GW) rm (.ref (ρ T0 i0) :: As) σ (oI x) σ') (hv : Vld T0 i0) (hd : dsc T0 = some (ci, ds)) (hc : vwCl[ci]? = some (C, TT, N))
    (hw : CwV C y bytes maxL ret' n) (hl : Cond.methodLink own index y ∈ GW) (hR : Fits rm R maxL) (hn : As.length = n) (hst : As.reverse ++ .ref (ρ T0 i0) :: rest = st) (hW : (rest.map fun v => v.category).sum ≤ 8) (hdg : decode cc pc = .ok (.invokevirtual index, 3)) (hf : cells + rm.cells ≤ R.cells ∧ slots + rm.slots ≤ R.slots)
    (kk : WA p l e R s m args below meth c D ty ρ N0 nL Q (pc + 3) ls (.int x :: rest) σ' (cells + rm.cells) (slots + rm.slots)) : WA p l e R s m args below meth c D ty ρ N0 nL Q pc ls st σ cells slots :=
  a_callV K hM hv hd hc hw.1 hl hw.2.1 hw.2.2.1 hw.2.2.2.1 hw.2.2.2.2 hR hn hst hW hdg hf (fun ov ho => by cases ho; exact kk) (fun E ho => by cases ho)
theorem a_callVv (K : Cx p l s m args meth c cc nL own ret D ty ρ N0) {T0 i0 ci N index maxL n : Nat} {C : String} {TT : u_T} {ds : List (Option (Nat × Option Nat))} {y : MethodName} {bytes : ByteArray} {ret' : Option FieldType} {rm : Room} {As rest : List Value}
    (hM : AMet l D ty ρ N0 y (Cond.code y bytes maxL ret' :: GW) rm (.ref (ρ T0 i0) :: As) σ (.inl none) σ') (hv : Vld T0 i0) (hd : dsc T0 = some (ci, ds)) (hc : vwCl[ci]? = some (C, TT, N))
    (hw : CwV C y bytes maxL ret' n) (hl : Cond.methodLink own index y ∈ GW) (hR : Fits rm R maxL) (hn : As.length = n) (hst : As.reverse ++ .ref (ρ T0 i0) :: rest = st) (hW : (rest.map fun v => v.category).sum ≤ 8) (hdg : decode cc pc = .ok (.invokevirtual index, 3)) (hf : cells + rm.cells ≤ R.cells ∧ slots + rm.slots ≤ R.slots)
    (kk : WA p l e R s m args below meth c D ty ρ N0 nL Q (pc + 3) ls rest σ' (cells + rm.cells) (slots + rm.slots)) : WA p l e R s m args below meth c D ty ρ N0 nL Q pc ls st σ cells slots :=
  a_callV K hM hv hd hc hw.1 hl hw.2.1 hw.2.2.1 hw.2.2.2.1 hw.2.2.2.2 hR hn hst hW hdg hf (fun ov ho => by cases ho; exact kk) (fun E ho => by cases ho)
theorem a_callVt (K : Cx p l s m args meth c cc nL own ret D ty ρ N0) {T0 i0 ci N index maxL n : Nat} {C : String} {TT : u_T} {ds : List (Option (Nat × Option Nat))} {y : MethodName} {bytes : ByteArray} {ret' : Option FieldType} {rm : Room} {As rest : List Value} {r : Int32 ⊕ String}
    (hM : AMet l D ty ρ N0 y (Cond.code y bytes maxL ret' :: GW) rm (.ref (ρ T0 i0) :: As) σ (oT r) σ') (hv : Vld T0 i0) (hd : dsc T0 = some (ci, ds)) (hc : vwCl[ci]? = some (C, TT, N))
    (hw : CwV C y bytes maxL ret' n) (hl : Cond.methodLink own index y ∈ GW) (hR : Fits rm R maxL) (hn : As.length = n) (hst : As.reverse ++ .ref (ρ T0 i0) :: rest = st) (hW : (rest.map fun v => v.category).sum ≤ 8) (hdg : decode cc pc = .ok (.invokevirtual index, 3)) (hf : cells + rm.cells ≤ R.cells ∧ slots + rm.slots ≤ R.slots)
    (kk : ∀ x, r = .inl x → WA p l e R s m args below meth c D ty ρ N0 nL Q (pc + 3) ls (.int x :: rest) σ' (cells + rm.cells) (slots + rm.slots))
    (kx : ∀ E, r = .inr E → WX p l e R s m args below meth c D ty ρ N0 nL Q pc ls rest E σ' (cells + rm.cells) (slots + rm.slots)) : WA p l e R s m args below meth c D ty ρ N0 nL Q pc ls st σ cells slots :=
  a_callV K hM hv hd hc hw.1 hl hw.2.1 hw.2.2.1 hw.2.2.2.1 hw.2.2.2.2 hR hn hst hW hdg hf (fun ov ho => by cases r with
    | inl x => cases ho; exact kk x rfl
    | inr E => cases ho) (fun E ho => by cases r with
    | inl x => cases ho
    | inr E' => cases ho; exact kx _ rfl)
theorem a_callVvt (K : Cx p l s m args meth c cc nL own ret D ty ρ N0) {T0 i0 ci N index maxL n : Nat} {C : String} {TT : u_T} {ds : List (Option (Nat × Option Nat))} {y : MethodName} {bytes : ByteArray} {ret' : Option FieldType} {rm : Room} {As rest : List Value} {r : Int32 ⊕ String}
    (hM : AMet l D ty ρ N0 y (Cond.code y bytes maxL ret' :: GW) rm (.ref (ρ T0 i0) :: As) σ (oV r) σ') (hv : Vld T0 i0) (hd : dsc T0 = some (ci, ds)) (hc : vwCl[ci]? = some (C, TT, N))
    (hw : CwV C y bytes maxL ret' n) (hl : Cond.methodLink own index y ∈ GW) (hR : Fits rm R maxL) (hn : As.length = n) (hst : As.reverse ++ .ref (ρ T0 i0) :: rest = st) (hW : (rest.map fun v => v.category).sum ≤ 8) (hdg : decode cc pc = .ok (.invokevirtual index, 3)) (hf : cells + rm.cells ≤ R.cells ∧ slots + rm.slots ≤ R.slots)
    (kk : ∀ x, r = .inl x → WA p l e R s m args below meth c D ty ρ N0 nL Q (pc + 3) ls rest σ' (cells + rm.cells) (slots + rm.slots))
    (kx : ∀ E, r = .inr E → WX p l e R s m args below meth c D ty ρ N0 nL Q pc ls rest E σ' (cells + rm.cells) (slots + rm.slots)) : WA p l e R s m args below meth c D ty ρ N0 nL Q pc ls st σ cells slots :=
  a_callV K hM hv hd hc hw.1 hl hw.2.1 hw.2.2.1 hw.2.2.2.1 hw.2.2.2.2 hR hn hst hW hdg hf (fun ov ho => by cases r with
    | inl x => cases ho; exact kk x rfl
    | inr E => cases ho) (fun E ho => by cases r with
    | inl x => cases ho
    | inr E' => cases ho; exact kx _ rfl)
theorem a_callSi (K : Cx p l s m args meth c cc nL own ret D ty ρ N0) {index maxL n : Nat} {y : MethodName} {bytes : ByteArray} {ret' : Option FieldType} {rm : Room} {As rest : List Value} {x : Int32}
    (hM : AMet l D ty ρ N0 y (Cond.code y bytes maxL ret' :: GW) rm As σ (oI x) σ') (hw : CwS own y bytes maxL ret' n) (hl : Cond.methodLink own index y ∈ GW) (hR : Fits rm R maxL) (hn : As.length = n) (hst : As.reverse ++ rest = st) (hW : (rest.map fun v => v.category).sum ≤ 8) (hdg : decode cc pc = .ok (.invokestatic index, 3)) (hf : cells + rm.cells ≤ R.cells ∧ slots + rm.slots ≤ R.slots)
    (kk : WA p l e R s m args below meth c D ty ρ N0 nL Q (pc + 3) ls (.int x :: rest) σ' (cells + rm.cells) (slots + rm.slots)) : WA p l e R s m args below meth c D ty ρ N0 nL Q pc ls st σ cells slots :=
  a_callS K hM hw.1 hl hw.2.1 hw.2.2.1 hw.2.2.2 hR hn hst hW hdg hf (fun ov ho => by cases ho; exact kk) (fun E ho => by cases ho)
theorem a_callSv (K : Cx p l s m args meth c cc nL own ret D ty ρ N0) {index maxL n : Nat} {y : MethodName} {bytes : ByteArray} {ret' : Option FieldType} {rm : Room} {As rest : List Value}
    (hM : AMet l D ty ρ N0 y (Cond.code y bytes maxL ret' :: GW) rm As σ (.inl none) σ') (hw : CwS own y bytes maxL ret' n) (hl : Cond.methodLink own index y ∈ GW) (hR : Fits rm R maxL) (hn : As.length = n) (hst : As.reverse ++ rest = st) (hW : (rest.map fun v => v.category).sum ≤ 8) (hdg : decode cc pc = .ok (.invokestatic index, 3)) (hf : cells + rm.cells ≤ R.cells ∧ slots + rm.slots ≤ R.slots)
    (kk : WA p l e R s m args below meth c D ty ρ N0 nL Q (pc + 3) ls rest σ' (cells + rm.cells) (slots + rm.slots)) : WA p l e R s m args below meth c D ty ρ N0 nL Q pc ls st σ cells slots :=
  a_callS K hM hw.1 hl hw.2.1 hw.2.2.1 hw.2.2.2 hR hn hst hW hdg hf (fun ov ho => by cases ho; exact kk) (fun E ho => by cases ho)
/-- what 'throw new E(text)' has in the tables -/
def ThOK (own cls text : String) (names : List String) (ik is ic : Nat) : Prop := Bundle.fit cls = true ∧ (∀ n ∈ names, Bundle.fit n = true) ∧ Cond.classLink own ik cls ∈ GW ∧ Cond.initialized cls ∈ GW ∧ Cond.stringRef own is text ∈ tables_1 ∧ (∀ w ∈ (vx_atS own ic cls names).filter goodWord, w ∈ GW) ∧ (∀ w ∈ (vx_atS own ic cls names).filter (fun w => !goodWord w), w ∈ Cond.castable cls cls :: dcls) ∧ Cond.castable cls cls ∈ tables_1 ∧ (∀ w ∈ Cond.classLink own ik cls :: Cond.initialized cls :: vx_atS own ic cls names, vx_ot w = true)
theorem a_throwS (K : Cx p l s m args meth c cc nL own ret D ty ρ N0) (hX : ∀ x ∈ c.exceptionTable.toList, False) {cls text : String} {names : List String} {ik is ic mc ms : Nat} (h : ThOK own cls text names ik is ic)
    (d0 : decode cc pc = .ok (.new ik, 3)) (d3 : decode cc (pc + 3) = .ok (.dup, 1)) (d4 : decode cc (pc + 4) = .ok (.ldc is, 2)) (d6 : decode cc (pc + 6) = .ok (.invokespecial ic, 3)) (d9 : decode cc (pc + 9) = .ok (.athrow, 1))
    (hRf : names.length + 3 < R.frames) (hRl : (st.map fun v => v.category).sum + (13 * (names.length + 1) + 43) ≤ R.locals) (hRc : cells + 1 ≤ R.cells) (hRs : slots + 6 ≤ R.slots) (hc : cells + 1 ≤ mc) (hs : slots + 6 ≤ ms) (ho : out = .inr cls) (hσ : σ' = σ) :
    WA p l e R s m args below meth c D ty ρ N0 nL (vx_MQ below (oQ D ty ρ N0 out σ') (oX D ty ρ N0 out σ') args s mc ms (fun q => N0 ≤ q)) pc ls st σ cells slots :=
  a_throw K hX h.1 h.2.1 h.2.2.1 h.2.2.2.1 h.2.2.2.2.1 h.2.2.2.2.2.1 h.2.2.2.2.2.2.1 h.2.2.2.2.2.2.2.1 h.2.2.2.2.2.2.2.2 d0 d3 d4 d6 d9 hRf hRl hRc hRs hc hs ho hσ
theorem a_throwW (K : Cx p l s m args meth c cc nL own ret D ty ρ N0) (hX : ∀ x ∈ c.exceptionTable.toList, False) {cls text : String} {names : List String} {ik is ic mc ms : Nat} (h : ThOK own cls text names ik is ic)
    (d0 : decode cc pc = .ok (.new ik, 3)) (d3 : decode cc (pc + 3) = .ok (.dup, 1)) (d4 : decode cc (pc + 4) = .ok (.ldc_w is, 3)) (d7 : decode cc (pc + 7) = .ok (.invokespecial ic, 3)) (d10 : decode cc (pc + 10) = .ok (.athrow, 1))
    (hRf : names.length + 3 < R.frames) (hRl : (st.map fun v => v.category).sum + (13 * (names.length + 1) + 43) ≤ R.locals) (hRc : cells + 1 ≤ R.cells) (hRs : slots + 6 ≤ R.slots) (hc : cells + 1 ≤ mc) (hs : slots + 6 ≤ ms) (ho : out = .inr cls) (hσ : σ' = σ) :
    WA p l e R s m args below meth c D ty ρ N0 nL (vx_MQ below (oQ D ty ρ N0 out σ') (oX D ty ρ N0 out σ') args s mc ms (fun q => N0 ≤ q)) pc ls st σ cells slots := fun H locs lsr hP hS hL => by
  subst ho; subst hσ
  obtain ⟨h1, h2, h3, h4, h5, h6, h7, h8, h9⟩ := h
  obtain ⟨sa, hsa⟩ := K.2.1.2.2.1 own is text h5
  have hat : ∀ w ∈ vx_atS own ic cls names, w.before args s = true := vx_hat (B := Cond.castable cls cls :: dcls) (fun w h => K.1.2.2.2.2 w (h6 w h)) h7 (vx_c (va_Nw.use rfl (K.2.1.2.1 cls cls h8)) (dcls_ok K.2.1))
  exact vx_throwSW K.1.1 K.1.2.1 K.2.2.2.2.2.2.1 K.1.2.2.2.1 h1 h2 (K.1.2.2.2.2 _ h3) (K.1.2.2.2.2 _ h4) hsa hat h9 K.2.2.1.1 K.2.2.1.2.1 hS (hL.1.trans K.1.2.2.1.symm) d0 d3 d4 d7 d10 (fun x hx => (hX x hx).elim) hRf hRl hRc hRs K.2.2.2.2.2.1
    (fun t hA h1 h2 => ⟨rfl, hP.kept (fun k q hq => h2 q.1 ((hP k q hq).lt)), Nat.le_trans hS.1 h1, fun q h3 h4 => (h2 q (Nat.lt_of_lt_of_le h3 hS.1)).trans (hS.2.1 q h3 h4)⟩) hS.2.2 hc hs
end AM3
theorem v_0 : Vld 0 0 := by unfold Vld; decide +kernel
theorem v_1 : Vld 1 0 := by unfold Vld; decide +kernel
theorem v_2 : Vld 2 0 := by unfold Vld; decide +kernel
theorem v_3 : Vld 3 0 := by unfold Vld; decide +kernel
theorem v_4 : Vld 4 0 := by unfold Vld; decide +kernel
theorem v_5 : Vld 5 0 := by unfold Vld; decide +kernel
theorem v_6 : Vld 6 0 := by unfold Vld; decide +kernel
theorem v_7 : Vld 7 0 := by unfold Vld; decide +kernel
theorem v_8 : Vld 8 0 := by unfold Vld; decide +kernel
theorem v_9 : Vld 9 0 := by unfold Vld; decide +kernel
theorem v_10 : Vld 10 0 := by unfold Vld; decide +kernel
theorem v_11 : Vld 11 0 := by unfold Vld; decide +kernel
theorem v_12 : Vld 12 0 := by unfold Vld; decide +kernel
theorem v_13 : Vld 13 0 := by unfold Vld; decide +kernel
theorem v_14 : Vld 14 0 := by unfold Vld; decide +kernel
theorem v_15 : Vld 15 0 := by unfold Vld; decide +kernel
theorem v_16 : Vld 16 0 := by unfold Vld; decide +kernel
theorem v_20 : Vld 20 0 := by unfold Vld; decide +kernel
theorem v_21 : Vld 21 0 := by unfold Vld; decide +kernel
theorem v_22 : Vld 22 0 := by unfold Vld; decide +kernel
theorem v_23 : Vld 23 0 := by unfold Vld; decide +kernel
theorem v_24 : Vld 24 0 := by unfold Vld; decide +kernel
theorem v_25 : Vld 25 0 := by unfold Vld; decide +kernel
theorem v_26 : Vld 26 0 := by unfold Vld; decide +kernel
theorem v_27 : Vld 27 0 := by unfold Vld; decide +kernel
theorem v_28 : Vld 28 0 := by unfold Vld; decide +kernel
theorem v_30 : Vld 30 0 := by unfold Vld; decide +kernel
theorem v_31 : Vld 31 0 := by unfold Vld; decide +kernel
theorem in_X0 : ∀ w ∈ u_ws RX0 TX0 3, w ∈ GW := by decide +kernel
theorem in_X1 : ∀ w ∈ u_ws RX1 TX1 9, w ∈ GW := by decide +kernel
theorem in_X2 : ∀ w ∈ u_ws RX2 TX2 2, w ∈ GW := by decide +kernel
theorem in_X3 : ∀ w ∈ u_ws RX3 TX3 3, w ∈ GW := by decide +kernel
theorem in_X4 : ∀ w ∈ u_ws RX4 TX4 7, w ∈ GW := by decide +kernel
theorem in_X5 : ∀ w ∈ u_ws RX5 TX5 3, w ∈ GW := by decide +kernel
theorem in_X6 : ∀ w ∈ u_ws RX6 TX6 11, w ∈ GW := by decide +kernel
theorem in_X7 : ∀ w ∈ u_ws RX7 TX7 22, w ∈ GW := by decide +kernel
