/-! THE JUDGEMENTS: a method's frame over the store of the run -/
def GW : List Cond := lw_tbl.filter goodWord
theorem gw_good {w : Cond} (h : w ∈ GW) : goodWord w = true := (List.mem_filter.mp h).2
theorem gwp (i : Nat) {w : Cond} (h : tables_1[i]? = some w) (hg : goodWord w = true) : w ∈ GW := List.mem_filter.mpr ⟨List.mem_append_right _ (List.mem_of_getElem? h), hg⟩
theorem gws (i : Nat) {q : MethodName × Nat} (h : lw_privs[i]? = some q) : Cond.selects q.1.cls q.1 q.1 ∈ GW := List.mem_filter.mpr ⟨List.mem_append_left _ (List.mem_map.mpr ⟨q, List.mem_of_getElem? h, rfl⟩), rfl⟩
theorem goodIn_GW {ws : List Cond} (h : ∀ w ∈ ws, w ∈ GW) : GoodIn GW ws := fun w hw => ⟨h w hw, good_of_word (gw_good (h w hw))⟩
def rmk (lvl mc ms : Nat) : Room := { frames := lvl + 10, cells := mc, slots := ms, locals := 40 * lvl + 200 }
/-- what holds of the class tables, in every state of the run -/
def WT (D : va_G) (ty : Nat → ClassId) (U : State) : Prop := va_K D vwCl (tysOf ty) U ∧ (∀ C T, Cond.castable C T ∈ tables_1 → va_Nw (.castable C T) U) ∧ (∀ own k tx, Cond.stringRef own k tx ∈ tables_1 → ∃ a, vk_R own k tx a U) ∧ (∀ C T, Cond.not (.castable C T) ∈ flatC narrow_1 → va_Nc C T U) ∧ (∀ x, Cond.declares x ∈ tables_1 → va_Nw (.declares x) U)
theorem WT.warm {D : va_G} {ty : Nat → ClassId} {s U : State} (hW : s.WarmedH U.vm) (h : WT D ty s) : WT D ty U := by
  obtain ⟨h1, h2, h3, h4, h5⟩ := h
  refine ⟨va_K.moved hW.alike h1, fun C T hc => va_Nw.warmC hW (h2 C T hc), fun own k tx hc => ?_, fun C T hc => (h4 C T hc).moved hW.alike, fun x hc => va_Nw.warmD hW (h5 x hc)⟩
  obtain ⟨a, ha⟩ := h3 own k tx hc
  exact ⟨a, vk_R.warm hW ha⟩
def dcls : List Cond := [.declares ⟨"java/lang/RuntimeException", "<init>", "(Ljava/lang/String;)V"⟩, .declares ⟨"java/lang/Exception", "<init>", "(Ljava/lang/String;)V"⟩, .declares ⟨"java/lang/Throwable", "<init>", "(Ljava/lang/String;)V"⟩]
theorem dcls_ok {D : va_G} {ty : Nat → ClassId} {s : State} {args : Array Value} (h : WT D ty s) : ∀ w ∈ dcls, w.before args s = true :=
  vx_c (va_Nw.use rfl (h.2.2.2.2 _ (List.mem_of_getElem? (i := 346) (by decide +kernel)))) (vx_c (va_Nw.use rfl (h.2.2.2.2 _ (List.mem_of_getElem? (i := 348) (by decide +kernel)))) (vx_c (va_Nw.use rfl (h.2.2.2.2 _ (List.mem_of_getElem? (i := 350) (by decide +kernel)))) vx_n))
/-- the shapes of the commands: their entries in the class Text, their texts, their bytes -/
def shIx : Nat → Nat
  | 0 => 69 | 1 => 71 | 2 => 73 | 3 => 75 | 4 => 77 | _ => 79
def shTx : Nat → String
  | 0 => "3" | 1 => "2-2" | 2 => "2" | 3 => "2-2+2" | 4 => "1>2" | _ => ""
def shLen : List Nat := [1, 3, 1, 5, 3, 0]
def shByt : List (List Int32) := [[51], [50, 45, 50], [50], [50, 45, 50, 43, 50], [49, 62, 50], []]
/-- what holds of cells that were there before the run: two statics of Throwable, the shapes, String's flag, one static more -/
def Zs (ρ : Nat → Nat → Nat) (N0 : Nat) (U : State) (H : Heap) : Prop := vx_Zq Bundle.tN "UNASSIGNED_STACK" Bundle.steD (fun q => N0 ≤ q) U H ∧ vx_Zq Bundle.tN "SUPPRESSED_SENTINEL" Bundle.listD (fun q => N0 ≤ q) U H ∧
  vk_S 6 shLen shByt (ρ 40) (ρ 41) (fun q => N0 ≤ q) U H ∧ va_Z "java/lang/String" "COMPACT_STRINGS" "Z" (.int 1) (fun q => N0 ≤ q) U H ∧ va_Zq "jdk/internal/util/Preconditions" "SIOOBE_FORMATTER" "Ljava/util/function/BiFunction;" (fun q => N0 ≤ q) U H ∧ ∀ i : Nat, i < 6 → vk_R RX4 (shIx i) (shTx i) (ρ 40 i) U
theorem Zs.kept {ρ : Nat → Nat → Nat} {N0 : Nat} {U : State} {H H1 : Heap} (h : Zs ρ N0 U H) (hq : ∀ a : Nat, a < H.size → ¬ N0 ≤ a → H1[a]? = H[a]?) : Zs ρ N0 U H1 := ⟨h.1.kept hq, h.2.1.kept hq, h.2.2.1.kept hq, h.2.2.2.1.kept hq, h.2.2.2.2.1.kept hq, h.2.2.2.2.2⟩
theorem Zs.moved {ρ : Nat → Nat → Nat} {N0 : Nat} {u U : State} {H : Heap} (hW : u.WarmedH U.vm) (h : Zs ρ N0 u H) : Zs ρ N0 U H := ⟨vx_Zq.moved hW.alike h.1, vx_Zq.moved hW.alike h.2.1, vk_S.moved hW.alike h.2.2.1, va_Z.moved hW.alike h.2.2.2.1, va_Zq.moved hW.alike h.2.2.2.2.1, fun i hi => vk_R.warm hW (h.2.2.2.2.2 i hi)⟩
def World (D : va_G) (ty : Nat → ClassId) (ρ : Nat → Nat → Nat) (N0 : Nat) (σ : Sg) (U : State) : Prop := va_P D vwCl (WS ty ρ σ) U.heap ∧ WT D ty U ∧ Zs ρ N0 U U.heap ∧ N0 ≤ U.heap.size
theorem World.same {D : va_G} {ty : Nat → ClassId} {ρ : Nat → Nat → Nat} {N0 : Nat} {σ : Sg} {U U' : State} (hv : U'.vm = U.vm) (hh : U'.heap = U.heap) (h : World D ty ρ N0 σ U) : World D ty ρ N0 σ U' := by
  obtain ⟨h1, h2, h3, h4⟩ := h
  have hW : U.WarmedH U'.vm := by rw [hv]; exact State.WarmedH.refl U
  exact ⟨by rw [hh]; exact h1, h2.warm hW, by rw [hh]; exact h3.moved hW, by rw [hh]; exact h4⟩
/-- the frames that are fixed for a method's walk -/
def Cx (p : Program) (l : Launch) (s : State) (m : MethodId) (args : Array Value) (meth : Method) (c : Code) (cc : ByteArray) (nL : Nat) (own : String) (ret : Option FieldType) (D : va_G) (ty : Nat → ClassId) (ρ : Nat → Nat → Nat) (N0 : Nat) : Prop :=
  (p.tables.exec = Jvm.exec ∧ c.code = cc ∧ c.maxLocals = nL ∧ s.vm.findClass own = some m.cls ∧ ∀ w ∈ GW, w.before args s = true) ∧ WT D ty s ∧ Zs ρ N0 s s.heap ∧ N0 ≤ s.heap.size ∧ (∀ σ : Sg, va_D (fun q => N0 ≤ q) (WS ty ρ σ)) ∧ meth.locks = false ∧ l.stackTraces = false ∧ meth.sig.returnType = ret
def LR (nL : Nat) (ls : List (Option Value)) (lsr : Array Slot) : Prop := lsr.size = nL ∧ lv_wf lsr ∧ ∀ (k : Nat) (v : Value), ls[k]? = some (some v) → lsr[k]? = some (.val v) ∧ v.category = 1
def prs (ls : List (Option Value)) : List (Nat × Value) := (List.range ls.length).filterMap (fun k => match ls[k]? with | some (some v) => some (k, v) | _ => none)
theorem mem_prs {ls : List (Option Value)} {k : Nat} {v : Value} : (k, v) ∈ prs ls ↔ ls[k]? = some (some v) := by
  unfold prs
  rw [List.mem_filterMap]
  constructor
  · rintro ⟨a, -, h⟩
    split at h
    · rename_i w hw
      simp only [Option.some.injEq, Prod.mk.injEq] at h
      obtain ⟨rfl, rfl⟩ := h
      exact hw
    · cases h
  · intro h
    exact ⟨k, List.mem_range.mpr (List.getElem?_eq_some_iff.mp h).1, by rw [h]⟩
theorem LR.has {nL : Nat} {ls : List (Option Value)} {lsr : Array Slot} (h : LR nL ls lsr) : lv_has lsr nL (prs ls) := ⟨h.1, h.2.1, fun q hq => (h.2.2 q.1 q.2 (mem_prs.mp hq)).1⟩
theorem LR.put {nL i : Nat} {ls : List (Option Value)} {lsr lsr' : Array Slot} {v : Value} (h : LR nL ls lsr) (hv : v.category = 1) (h' : lv_has lsr' nL ((i, v) :: (prs ls).filter (fun q => !(q.1 == i) && !(q.1 + 1 == i && q.2.category == 2)))) : LR nL (ls.set i (some v)) lsr' := by
  refine ⟨h'.1, h'.2.1, fun k w hk => ?_⟩
  by_cases hki : k = i
  · subst hki
    have hl : k < ls.length := by have := (List.getElem?_eq_some_iff.mp hk).1; simpa using this
    rw [List.getElem?_set_self hl] at hk
    simp only [Option.some.injEq] at hk
    subst hk
    exact ⟨h'.2.2 (k, v) List.mem_cons_self, hv⟩
  · rw [List.getElem?_set_ne (Ne.symm hki)] at hk
    have hc := (h.2.2 k w hk).2
    refine ⟨h'.2.2 (k, w) (List.mem_cons_of_mem _ (List.mem_filter.mpr ⟨mem_prs.mpr hk, ?_⟩)), hc⟩
    simp [hki, hc]
theorem LR.weaken {nL : Nat} {ls ls' : List (Option Value)} {lsr : Array Slot} (h : LR nL ls lsr) (hw : ∀ (k : Nat) (v : Value), ls'[k]? = some (some v) → ls[k]? = some (some v)) : LR nL ls' lsr := ⟨h.1, h.2.1, fun k v hk => h.2.2 k v (hw k v hk)⟩
theorem lv_args1 : ∀ (as : List Value) (i k : Nat) (v : Value), (∀ v ∈ as, v.category = 1) → as[k]? = some v → (i + k, v) ∈ lv_args i as := by
  intro as
  induction as with
  | nil => intro i k v _ h; simp at h
  | cons a as ih =>
    intro i k v hc h
    have ha : ¬ a.category = 2 := by rw [hc a List.mem_cons_self]; decide
    simp only [lv_args, if_neg ha]
    cases k with
    | zero =>
      simp only [List.getElem?_cons_zero, Option.some.injEq] at h
      subst h
      exact List.mem_cons_self
    | succ k =>
      simp only [List.getElem?_cons_succ] at h
      refine List.mem_cons_of_mem _ ?_
      have := ih (i + 1) k v (fun w hw => hc w (List.mem_cons_of_mem _ hw)) h
      rw [show i + (k + 1) = i + 1 + k by omega]
      exact this
theorem lg_sl1 : ∀ (as : List Value), (∀ v ∈ as, v.category = 1) → (lg_sl as).length = as.length := by
  intro as
  induction as with
  | nil => intro _; rfl
  | cons a as ih =>
    intro hc
    have ha := hc a List.mem_cons_self
    have e := ih (fun w hw => hc w (List.mem_cons_of_mem _ hw))
    simp [lg_sl, ha] at e ⊢
    try omega
theorem LR.entry {as : List Value} {n : Nat} (hc : ∀ v ∈ as, v.category = 1) (hn : as.length ≤ n) : LR n (as.map some ++ List.replicate (n - as.length) none) ((lg_sl as ++ List.replicate (n - (lg_sl as).length) Slot.unset).toArray) := by
  have h := lv_entry as (n := n) (by rw [lg_sl1 as hc]; exact hn)
  refine ⟨h.1, h.2.1, fun k v hk => ?_⟩
  have hk' : as[k]? = some v := by
    by_cases hl : k < as.length
    · rw [List.getElem?_append_left (by simpa using hl), List.getElem?_map] at hk
      cases hx : as[k]? with
      | none => rw [hx] at hk; simp at hk
      | some w => rw [hx] at hk; simpa using hk
    · rw [List.getElem?_append_right (by simpa using hl)] at hk
      have := List.mem_of_getElem? hk
      simp [List.mem_replicate] at this
  have := lv_args1 as 0 k v hc hk'
  rw [Nat.zero_add] at this
  exact ⟨h.2.2 _ this, hc v (List.mem_of_getElem? hk')⟩
/-- the walk over the store: from any heap that holds it -/
def WA (p : Program) (l : Launch) (e : Env) (R : Room) (s : State) (m : MethodId) (args : Array Value) (below : List Frame) (meth : Method) (c : Code) (D : va_G) (ty : Nat → ClassId) (ρ : Nat → Nat → Nat) (N0 nL : Nat) (Q : State → Prop) (pc : Nat) (ls : List (Option Value)) (st : List Value) (σ : Sg) (cells slots : Nat) : Prop :=
  ∀ (H : Heap) (locs : List Loc) (lsr : Array Slot), va_P D vwCl (WS ty ρ σ) H → va_S (fun q => N0 ≤ q) s.heap H locs → LR nL ls lsr → W p l e R s m args below meth c H locs cells slots Q (F0 m pc lsr st)
def WX (p : Program) (l : Launch) (e : Env) (R : Room) (s : State) (m : MethodId) (args : Array Value) (below : List Frame) (meth : Method) (c : Code) (D : va_G) (ty : Nat → ClassId) (ρ : Nat → Nat → Nat) (N0 nL : Nat) (Q : State → Prop) (pc : Nat) (ls : List (Option Value)) (st : List Value) (E : String) (σ : Sg) (cells slots : Nat) : Prop :=
  ∀ (H : Heap) (locs : List Loc) (lsr : Array Slot) (q : Nat) (ce : Cell), va_P D vwCl (WS ty ρ σ) H → va_S (fun q => N0 ≤ q) s.heap H locs → LR nL ls lsr → H[q]? = some ce → ce.vm = .none → s.vm.findClass E = some ce.cls → vx_W p l e R s m args below meth c H locs cells slots Q (F0 m pc lsr st) q
def oQ (D : va_G) (ty : Nat → ClassId) (ρ : Nat → Nat → Nat) (N0 : Nat) (out : Option Value ⊕ String) (σ' : Sg) : Array Value → State → Outcome → State → Prop := fun _ st o t => (∃ ov, out = .inl ov ∧ o = .returned ov) ∧ va_P D vwCl (WS ty ρ σ') t.heap ∧ va_F (fun q => N0 ≤ q) st t
def oX (D : va_G) (ty : Nat → ClassId) (ρ : Nat → Nat → Nat) (N0 : Nat) (out : Option Value ⊕ String) (σ' : Sg) : String → State → State → Prop := fun E st t => out = .inr E ∧ va_P D vwCl (WS ty ρ σ') t.heap ∧ va_F (fun q => N0 ≤ q) st t
/-- THE CONTRACT: called with these values over this store, the method ends with that outcome over that store -/
def AMet (l : Launch) (D : va_G) (ty : Nat → ClassId) (ρ : Nat → Nat → Nat) (N0 : Nat) (y : MethodName) (ws : List Cond) (rm : Room) (as : List Value) (σ : Sg) (out : Option Value ⊕ String) (σ' : Sg) : Prop :=
  vx_Met l y ws rm (va_Pc as (World D ty ρ N0 σ)) (oQ D ty ρ N0 out σ') (oX D ty ρ N0 out σ') rm.cells rm.slots (fun q => N0 ≤ q)
def St (l : Launch) (ty : Nat → ClassId) (ρ : Nat → Nat → Nat) (N0 : Nat) : Prop := l.stackTraces = false ∧ ∀ σ : Sg, va_D (fun q => N0 ≤ q) (WS ty ρ σ)
theorem blind_W {D : va_G} {ty : Nat → ClassId} {ρ : Nat → Nat → Nat} {N0 : Nat} {σ : Sg} (as : List Value) : FrameBlind (va_Pc as (World D ty ρ N0 σ)) := fun _ _ _ _ h => ⟨h.1, h.2.same rfl rfl⟩
section AM
variable {p : Program} {l : Launch} {e : Env} {R : Room} {s : State} {m : MethodId} {args : Array Value} {below : List Frame} {meth : Method} {c : Code} {Q : State → Prop}
variable {D : va_G} {ty : Nat → ClassId} {ρ : Nat → Nat → Nat} {N0 nL : Nat} {cc : ByteArray} {own : String} {ret : Option FieldType}
variable {pc : Nat} {ls : List (Option Value)} {st : List Value} {σ : Sg} {cells slots : Nat}
theorem a_iconst (K : Cx p l s m args meth c cc nL own ret D ty ρ N0) {n : Int} {v : Int32} (hdg : decode cc pc = .ok (.iconst n, 1)) (hv : Int32.ofInt n = v)
    (k : WA p l e R s m args below meth c D ty ρ N0 nL Q (pc + 1) ls (.int v :: st) σ cells slots) : WA p l e R s m args below meth c D ty ρ N0 nL Q pc ls st σ cells slots := fun H locs lsr hP hS hL => lv_iconst K.1.1 K.1.2.1 hdg hv (k H locs lsr hP hS hL)
theorem a_bipush (K : Cx p l s m args meth c cc nL own ret D ty ρ N0) {n : Int} {v : Int32} (hdg : decode cc pc = .ok (.bipush n, 2)) (hv : (Int8.ofInt n).toInt32 = v)
    (k : WA p l e R s m args below meth c D ty ρ N0 nL Q (pc + 2) ls (.int v :: st) σ cells slots) : WA p l e R s m args below meth c D ty ρ N0 nL Q pc ls st σ cells slots := fun H locs lsr hP hS hL => lv_bipush K.1.1 K.1.2.1 hdg hv (k H locs lsr hP hS hL)
theorem a_sipush (K : Cx p l s m args meth c cc nL own ret D ty ρ N0) {n : Int} {v : Int32} (hdg : decode cc pc = .ok (.sipush n, 3)) (hv : (Int16.ofInt n).toInt32 = v)
    (k : WA p l e R s m args below meth c D ty ρ N0 nL Q (pc + 3) ls (.int v :: st) σ cells slots) : WA p l e R s m args below meth c D ty ρ N0 nL Q pc ls st σ cells slots := fun H locs lsr hP hS hL => lv_sipush K.1.1 K.1.2.1 hdg hv (k H locs lsr hP hS hL)
theorem a_iadd (K : Cx p l s m args meth c cc nL own ret D ty ρ N0) {x y : Int32} (hdg : decode cc pc = .ok (.iadd, 1)) 
    (k : WA p l e R s m args below meth c D ty ρ N0 nL Q (pc + 1) ls (.int (x + y) :: st) σ cells slots) : WA p l e R s m args below meth c D ty ρ N0 nL Q pc ls (.int y :: .int x :: st) σ cells slots := fun H locs lsr hP hS hL => lv_iadd K.1.1 K.1.2.1 hdg  (k H locs lsr hP hS hL)
theorem a_isub (K : Cx p l s m args meth c cc nL own ret D ty ρ N0) {x y : Int32} (hdg : decode cc pc = .ok (.isub, 1)) 
    (k : WA p l e R s m args below meth c D ty ρ N0 nL Q (pc + 1) ls (.int (x - y) :: st) σ cells slots) : WA p l e R s m args below meth c D ty ρ N0 nL Q pc ls (.int y :: .int x :: st) σ cells slots := fun H locs lsr hP hS hL => lv_isub K.1.1 K.1.2.1 hdg  (k H locs lsr hP hS hL)
theorem a_imul (K : Cx p l s m args meth c cc nL own ret D ty ρ N0) {x y : Int32} (hdg : decode cc pc = .ok (.imul, 1)) 
    (k : WA p l e R s m args below meth c D ty ρ N0 nL Q (pc + 1) ls (.int (x * y) :: st) σ cells slots) : WA p l e R s m args below meth c D ty ρ N0 nL Q pc ls (.int y :: .int x :: st) σ cells slots := fun H locs lsr hP hS hL => lv_imul K.1.1 K.1.2.1 hdg  (k H locs lsr hP hS hL)
theorem a_iand (K : Cx p l s m args meth c cc nL own ret D ty ρ N0) {x y : Int32} (hdg : decode cc pc = .ok (.iand, 1)) 
    (k : WA p l e R s m args below meth c D ty ρ N0 nL Q (pc + 1) ls (.int (x &&& y) :: st) σ cells slots) : WA p l e R s m args below meth c D ty ρ N0 nL Q pc ls (.int y :: .int x :: st) σ cells slots := fun H locs lsr hP hS hL => lv_iand K.1.1 K.1.2.1 hdg  (k H locs lsr hP hS hL)
theorem a_ishl (K : Cx p l s m args meth c cc nL own ret D ty ρ N0) {x y : Int32} (hdg : decode cc pc = .ok (.ishl, 1)) 
    (k : WA p l e R s m args below meth c D ty ρ N0 nL Q (pc + 1) ls (.int (x <<< (y &&& 31)) :: st) σ cells slots) : WA p l e R s m args below meth c D ty ρ N0 nL Q pc ls (.int y :: .int x :: st) σ cells slots := fun H locs lsr hP hS hL => lv_ishl K.1.1 K.1.2.1 hdg  (k H locs lsr hP hS hL)
theorem a_ineg (K : Cx p l s m args meth c cc nL own ret D ty ρ N0) {x : Int32} (hdg : decode cc pc = .ok (.ineg, 1)) 
    (k : WA p l e R s m args below meth c D ty ρ N0 nL Q (pc + 1) ls (.int (-x) :: st) σ cells slots) : WA p l e R s m args below meth c D ty ρ N0 nL Q pc ls (.int x :: st) σ cells slots := fun H locs lsr hP hS hL => lv_ineg K.1.1 K.1.2.1 hdg  (k H locs lsr hP hS hL)
theorem a_idiv (K : Cx p l s m args meth c cc nL own ret D ty ρ N0) {x y : Int32} (hdg : decode cc pc = .ok (.idiv, 1)) (hne : ¬ y = 0)
    (k : WA p l e R s m args below meth c D ty ρ N0 nL Q (pc + 1) ls (.int (x / y) :: st) σ cells slots) : WA p l e R s m args below meth c D ty ρ N0 nL Q pc ls (.int y :: .int x :: st) σ cells slots := fun H locs lsr hP hS hL => lv_idiv K.1.1 K.1.2.1 hdg hne (k H locs lsr hP hS hL)
theorem a_irem (K : Cx p l s m args meth c cc nL own ret D ty ρ N0) {x y : Int32} (hdg : decode cc pc = .ok (.irem, 1)) (hne : ¬ y = 0)
    (k : WA p l e R s m args below meth c D ty ρ N0 nL Q (pc + 1) ls (.int (x - x / y * y) :: st) σ cells slots) : WA p l e R s m args below meth c D ty ρ N0 nL Q pc ls (.int y :: .int x :: st) σ cells slots := fun H locs lsr hP hS hL => lv_irem K.1.1 K.1.2.1 hdg hne (k H locs lsr hP hS hL)
theorem a_i2c (K : Cx p l s m args meth c cc nL own ret D ty ρ N0) {x : Int32} (hdg : decode cc pc = .ok (.i2c, 1)) 
    (k : WA p l e R s m args below meth c D ty ρ N0 nL Q (pc + 1) ls (.int (x.toUInt32 % 65536).toInt32 :: st) σ cells slots) : WA p l e R s m args below meth c D ty ρ N0 nL Q pc ls (.int x :: st) σ cells slots := fun H locs lsr hP hS hL => lv_i2c K.1.1 K.1.2.1 hdg rfl (k H locs lsr hP hS hL)
theorem a_i2l (K : Cx p l s m args meth c cc nL own ret D ty ρ N0) {x : Int32} (hdg : decode cc pc = .ok (.i2l, 1)) 
    (k : WA p l e R s m args below meth c D ty ρ N0 nL Q (pc + 1) ls (.long x.toInt64 :: st) σ cells slots) : WA p l e R s m args below meth c D ty ρ N0 nL Q pc ls (.int x :: st) σ cells slots := fun H locs lsr hP hS hL => lv_i2l K.1.1 K.1.2.1 hdg rfl (k H locs lsr hP hS hL)
theorem a_i2f (K : Cx p l s m args meth c cc nL own ret D ty ρ N0) {x : Int32} (hdg : decode cc pc = .ok (.i2f, 1)) 
    (k : WA p l e R s m args below meth c D ty ρ N0 nL Q (pc + 1) ls (.float (FP.i2f x) :: st) σ cells slots) : WA p l e R s m args below meth c D ty ρ N0 nL Q pc ls (.int x :: st) σ cells slots := fun H locs lsr hP hS hL => lv_i2f K.1.1 K.1.2.1 hdg  (k H locs lsr hP hS hL)
theorem a_i2d (K : Cx p l s m args meth c cc nL own ret D ty ρ N0) {x : Int32} (hdg : decode cc pc = .ok (.i2d, 1)) 
    (k : WA p l e R s m args below meth c D ty ρ N0 nL Q (pc + 1) ls (.double (FP.i2d x) :: st) σ cells slots) : WA p l e R s m args below meth c D ty ρ N0 nL Q pc ls (.int x :: st) σ cells slots := fun H locs lsr hP hS hL => lv_i2d K.1.1 K.1.2.1 hdg  (k H locs lsr hP hS hL)
theorem a_f2i (K : Cx p l s m args meth c cc nL own ret D ty ρ N0) {x : UInt32} (hdg : decode cc pc = .ok (.f2i, 1)) 
    (k : WA p l e R s m args below meth c D ty ρ N0 nL Q (pc + 1) ls (.int (FP.f2i x) :: st) σ cells slots) : WA p l e R s m args below meth c D ty ρ N0 nL Q pc ls (.float x :: st) σ cells slots := fun H locs lsr hP hS hL => lv_f2i K.1.1 K.1.2.1 hdg  (k H locs lsr hP hS hL)
theorem a_fdiv (K : Cx p l s m args meth c cc nL own ret D ty ρ N0) {x y : UInt32} (hdg : decode cc pc = .ok (.fdiv, 1)) (hne : vf_n32 (FP.fdiv x y))
    (k : WA p l e R s m args below meth c D ty ρ N0 nL Q (pc + 1) ls (.float (FP.fdiv x y) :: st) σ cells slots) : WA p l e R s m args below meth c D ty ρ N0 nL Q pc ls (.float y :: .float x :: st) σ cells slots := fun H locs lsr hP hS hL => lv_fdiv K.1.1 K.1.2.1 hdg hne (k H locs lsr hP hS hL)
theorem a_fmul (K : Cx p l s m args meth c cc nL own ret D ty ρ N0) {x y : UInt32} (hdg : decode cc pc = .ok (.fmul, 1)) (hne : vf_n32 (FP.fmul x y))
    (k : WA p l e R s m args below meth c D ty ρ N0 nL Q (pc + 1) ls (.float (FP.fmul x y) :: st) σ cells slots) : WA p l e R s m args below meth c D ty ρ N0 nL Q pc ls (.float y :: .float x :: st) σ cells slots := fun H locs lsr hP hS hL => lv_fmul K.1.1 K.1.2.1 hdg hne (k H locs lsr hP hS hL)
theorem a_ddiv (K : Cx p l s m args meth c cc nL own ret D ty ρ N0) {x y : UInt64} (hdg : decode cc pc = .ok (.ddiv, 1)) (hne : vf_n64 (FP.ddiv x y))
    (k : WA p l e R s m args below meth c D ty ρ N0 nL Q (pc + 1) ls (.double (FP.ddiv x y) :: st) σ cells slots) : WA p l e R s m args below meth c D ty ρ N0 nL Q pc ls (.double y :: .double x :: st) σ cells slots := fun H locs lsr hP hS hL => lv_ddiv K.1.1 K.1.2.1 hdg hne (k H locs lsr hP hS hL)
theorem a_fcmp (K : Cx p l s m args meth c cc nL own ret D ty ρ N0) {x y : UInt32} {op : CmpOp} (hdg : decode cc pc = .ok (.fcmp op, 1)) 
    (k : WA p l e R s m args below meth c D ty ρ N0 nL Q (pc + 1) ls (.int (Op.cmpValue (FP.fcmp x y) op) :: st) σ cells slots) : WA p l e R s m args below meth c D ty ρ N0 nL Q pc ls (.float y :: .float x :: st) σ cells slots := fun H locs lsr hP hS hL => lv_fcmp K.1.1 K.1.2.1 hdg  (k H locs lsr hP hS hL)
theorem a_dcmp (K : Cx p l s m args meth c cc nL own ret D ty ρ N0) {x y : UInt64} {op : CmpOp} (hdg : decode cc pc = .ok (.dcmp op, 1)) 
    (k : WA p l e R s m args below meth c D ty ρ N0 nL Q (pc + 1) ls (.int (Op.cmpValue (FP.dcmp x y) op) :: st) σ cells slots) : WA p l e R s m args below meth c D ty ρ N0 nL Q pc ls (.double y :: .double x :: st) σ cells slots := fun H locs lsr hP hS hL => lv_dcmp K.1.1 K.1.2.1 hdg  (k H locs lsr hP hS hL)
theorem a_null (K : Cx p l s m args meth c cc nL own ret D ty ρ N0)  (hdg : decode cc pc = .ok (.aconst_null, 1)) 
    (k : WA p l e R s m args below meth c D ty ρ N0 nL Q (pc + 1) ls (.null :: st) σ cells slots) : WA p l e R s m args below meth c D ty ρ N0 nL Q pc ls st σ cells slots := fun H locs lsr hP hS hL => lv_null K.1.1 K.1.2.1 hdg  (k H locs lsr hP hS hL)
theorem a_dup (K : Cx p l s m args meth c cc nL own ret D ty ρ N0) {va : Value} (hdg : decode cc pc = .ok (.dup, 1)) (hva : va.category = 1)
    (k : WA p l e R s m args below meth c D ty ρ N0 nL Q (pc + 1) ls (va :: va :: st) σ cells slots) : WA p l e R s m args below meth c D ty ρ N0 nL Q pc ls (va :: st) σ cells slots := fun H locs lsr hP hS hL => lv_dup K.1.1 K.1.2.1 hdg hva (k H locs lsr hP hS hL)
theorem a_pop (K : Cx p l s m args meth c cc nL own ret D ty ρ N0) {va : Value} (hdg : decode cc pc = .ok (.pop, 1)) (hva : va.category = 1)
    (k : WA p l e R s m args below meth c D ty ρ N0 nL Q (pc + 1) ls st σ cells slots) : WA p l e R s m args below meth c D ty ρ N0 nL Q pc ls (va :: st) σ cells slots := fun H locs lsr hP hS hL => lv_pop K.1.1 K.1.2.1 hdg hva (k H locs lsr hP hS hL)
theorem a_dup2 (K : Cx p l s m args meth c cc nL own ret D ty ρ N0) {va vb : Value} (hdg : decode cc pc = .ok (.dup2, 1)) (hva : va.category = 1) (hvb : vb.category = 1)
    (k : WA p l e R s m args below meth c D ty ρ N0 nL Q (pc + 1) ls (va :: vb :: va :: vb :: st) σ cells slots) : WA p l e R s m args below meth c D ty ρ N0 nL Q pc ls (va :: vb :: st) σ cells slots := fun H locs lsr hP hS hL => lv_dup2_11 K.1.1 K.1.2.1 hdg hva hvb (k H locs lsr hP hS hL)
theorem a_dup_x1 (K : Cx p l s m args meth c cc nL own ret D ty ρ N0) {va vb : Value} (hdg : decode cc pc = .ok (.dup_x1, 1)) (hva : va.category = 1) (hvb : vb.category = 1)
    (k : WA p l e R s m args below meth c D ty ρ N0 nL Q (pc + 1) ls (va :: vb :: va :: st) σ cells slots) : WA p l e R s m args below meth c D ty ρ N0 nL Q pc ls (va :: vb :: st) σ cells slots := fun H locs lsr hP hS hL => lv_dup_x1 K.1.1 K.1.2.1 hdg hva hvb (k H locs lsr hP hS hL)
theorem a_iload_n (K : Cx p l s m args meth c cc nL own ret D ty ρ N0) {k : Fin 4} {i : Nat} {x : Int32} (hdg : decode cc pc = .ok (.iload_n k, 1)) (hi : (k : Nat) = i) (hl : ls[i]? = some (some (.int x)))
    (k : WA p l e R s m args below meth c D ty ρ N0 nL Q (pc + 1) ls (.int x :: st) σ cells slots) : WA p l e R s m args below meth c D ty ρ N0 nL Q pc ls st σ cells slots := fun H locs lsr hP hS hL => lv_iload_n K.1.1 K.1.2.1 hdg hi (hL.2.2 _ _ hl).1 (k H locs lsr hP hS hL)
theorem a_iload (K : Cx p l s m args meth c cc nL own ret D ty ρ N0) {i : Nat} {x : Int32} (hdg : decode cc pc = .ok (.iload i, 2)) (hl : ls[i]? = some (some (.int x)))
    (k : WA p l e R s m args below meth c D ty ρ N0 nL Q (pc + 2) ls (.int x :: st) σ cells slots) : WA p l e R s m args below meth c D ty ρ N0 nL Q pc ls st σ cells slots := fun H locs lsr hP hS hL => lv_iload K.1.1 K.1.2.1 hdg (hL.2.2 _ _ hl).1 (k H locs lsr hP hS hL)
theorem a_aload_n (K : Cx p l s m args meth c cc nL own ret D ty ρ N0) {k : Fin 4} {i : Nat} {x : Nat} (hdg : decode cc pc = .ok (.aload_n k, 1)) (hi : (k : Nat) = i) (hl : ls[i]? = some (some (.ref x)))
    (k : WA p l e R s m args below meth c D ty ρ N0 nL Q (pc + 1) ls (.ref x :: st) σ cells slots) : WA p l e R s m args below meth c D ty ρ N0 nL Q pc ls st σ cells slots := fun H locs lsr hP hS hL => lv_aload_n K.1.1 K.1.2.1 hdg hi (hL.2.2 _ _ hl).1 (k H locs lsr hP hS hL)
theorem a_aload (K : Cx p l s m args meth c cc nL own ret D ty ρ N0) {i : Nat} {x : Nat} (hdg : decode cc pc = .ok (.aload i, 2)) (hl : ls[i]? = some (some (.ref x)))
    (k : WA p l e R s m args below meth c D ty ρ N0 nL Q (pc + 2) ls (.ref x :: st) σ cells slots) : WA p l e R s m args below meth c D ty ρ N0 nL Q pc ls st σ cells slots := fun H locs lsr hP hS hL => lv_aload K.1.1 K.1.2.1 hdg (hL.2.2 _ _ hl).1 (k H locs lsr hP hS hL)
theorem a_fload_n (K : Cx p l s m args meth c cc nL own ret D ty ρ N0) {k : Fin 4} {i : Nat} {x : UInt32} (hdg : decode cc pc = .ok (.fload_n k, 1)) (hi : (k : Nat) = i) (hl : ls[i]? = some (some (.float x)))
    (k : WA p l e R s m args below meth c D ty ρ N0 nL Q (pc + 1) ls (.float x :: st) σ cells slots) : WA p l e R s m args below meth c D ty ρ N0 nL Q pc ls st σ cells slots := fun H locs lsr hP hS hL => lv_fload_n K.1.1 K.1.2.1 hdg hi (hL.2.2 _ _ hl).1 (k H locs lsr hP hS hL)
theorem a_istore_n (K : Cx p l s m args meth c cc nL own ret D ty ρ N0) {k : Fin 4} {i : Nat} {x : Int32} {ls' : List (Option Value)} (hdg : decode cc pc = .ok (.istore_n k, 1)) (hi : (k : Nat) = i) (hn : i < nL) (hl : ls.set i (some (.int x)) = ls')
    (k : WA p l e R s m args below meth c D ty ρ N0 nL Q (pc + 1) ls' st σ cells slots) : WA p l e R s m args below meth c D ty ρ N0 nL Q pc ls (.int x :: st) σ cells slots := fun H locs lsr hP hS hL => lv_istore_n K.1.1 K.1.2.1 hdg hi hL.has hn rfl (fun lsr' h' => k H locs lsr' hP hS (hl ▸ hL.put rfl h'))
theorem a_istore (K : Cx p l s m args meth c cc nL own ret D ty ρ N0) {i : Nat} {x : Int32} {ls' : List (Option Value)} (hdg : decode cc pc = .ok (.istore i, 2)) (hn : i < nL) (hl : ls.set i (some (.int x)) = ls')
    (k : WA p l e R s m args below meth c D ty ρ N0 nL Q (pc + 2) ls' st σ cells slots) : WA p l e R s m args below meth c D ty ρ N0 nL Q pc ls (.int x :: st) σ cells slots := fun H locs lsr hP hS hL => lv_istore K.1.1 K.1.2.1 hdg hL.has hn rfl (fun lsr' h' => k H locs lsr' hP hS (hl ▸ hL.put rfl h'))
theorem a_astore_n (K : Cx p l s m args meth c cc nL own ret D ty ρ N0) {k : Fin 4} {i : Nat} {x : Nat} {ls' : List (Option Value)} (hdg : decode cc pc = .ok (.astore_n k, 1)) (hi : (k : Nat) = i) (hn : i < nL) (hl : ls.set i (some (.ref x)) = ls')
    (k : WA p l e R s m args below meth c D ty ρ N0 nL Q (pc + 1) ls' st σ cells slots) : WA p l e R s m args below meth c D ty ρ N0 nL Q pc ls (.ref x :: st) σ cells slots := fun H locs lsr hP hS hL => lv_astore_n K.1.1 K.1.2.1 hdg hi hL.has hn rfl (fun lsr' h' => k H locs lsr' hP hS (hl ▸ hL.put rfl h'))
theorem a_astore (K : Cx p l s m args meth c cc nL own ret D ty ρ N0) {i : Nat} {x : Nat} {ls' : List (Option Value)} (hdg : decode cc pc = .ok (.astore i, 2)) (hn : i < nL) (hl : ls.set i (some (.ref x)) = ls')
    (k : WA p l e R s m args below meth c D ty ρ N0 nL Q (pc + 2) ls' st σ cells slots) : WA p l e R s m args below meth c D ty ρ N0 nL Q pc ls (.ref x :: st) σ cells slots := fun H locs lsr hP hS hL => lv_astore K.1.1 K.1.2.1 hdg hL.has hn rfl (fun lsr' h' => k H locs lsr' hP hS (hl ▸ hL.put rfl h'))
theorem a_fstore_n (K : Cx p l s m args meth c cc nL own ret D ty ρ N0) {k : Fin 4} {i : Nat} {x : UInt32} {ls' : List (Option Value)} (hdg : decode cc pc = .ok (.fstore_n k, 1)) (hi : (k : Nat) = i) (hn : i < nL) (hl : ls.set i (some (.float x)) = ls')
    (k : WA p l e R s m args below meth c D ty ρ N0 nL Q (pc + 1) ls' st σ cells slots) : WA p l e R s m args below meth c D ty ρ N0 nL Q pc ls (.float x :: st) σ cells slots := fun H locs lsr hP hS hL => lv_fstore_n K.1.1 K.1.2.1 hdg hi hL.has hn rfl (fun lsr' h' => k H locs lsr' hP hS (hl ▸ hL.put rfl h'))
theorem a_iinc (K : Cx p l s m args meth c cc nL own ret D ty ρ N0) {i : Nat} {n : Int} {x v : Int32} {ls' : List (Option Value)} (hdg : decode cc pc = .ok (.iinc i n, 3)) (hx : ls[i]? = some (some (.int x))) (hv : x + Int32.ofInt n = v) (hn : i < nL) (hl : ls.set i (some (.int v)) = ls')
    (k : WA p l e R s m args below meth c D ty ρ N0 nL Q (pc + 3) ls' st σ cells slots) : WA p l e R s m args below meth c D ty ρ N0 nL Q pc ls st σ cells slots := fun H locs lsr hP hS hL => by
  obtain ⟨j, hj⟩ := List.getElem?_of_mem (mem_prs.mpr hx)
  exact lv_iinc K.1.1 K.1.2.1 hdg hL.has hj hv hn rfl (fun lsr' h' => k H locs lsr' hP hS (hl ▸ hL.put rfl h'))
theorem a_if_eq (K : Cx p l s m args meth c cc nL own ret D ty ρ N0) {x : Int32} {off : Int} {tgt : Nat} (hdg : decode cc pc = .ok (.ifCond .eq off, 3)) (ht : (pc : Int) + off = (tgt : Int))
    (kt : x = 0 → WA p l e R s m args below meth c D ty ρ N0 nL Q tgt ls st σ cells slots) (kf : ¬ x = 0 → WA p l e R s m args below meth c D ty ρ N0 nL Q (pc + 3) ls st σ cells slots) : WA p l e R s m args below meth c D ty ρ N0 nL Q pc ls (.int x :: st) σ cells slots := fun H locs lsr hP hS hL => lv_if_eq K.1.1 K.1.2.1 hdg ht (fun h => kt h H locs lsr hP hS hL) (fun h => kf h H locs lsr hP hS hL)
theorem a_icmp_eq (K : Cx p l s m args meth c cc nL own ret D ty ρ N0) {x y : Int32} {off : Int} {tgt : Nat} (hdg : decode cc pc = .ok (.if_icmp .eq off, 3)) (ht : (pc : Int) + off = (tgt : Int))
    (kt : x = y → WA p l e R s m args below meth c D ty ρ N0 nL Q tgt ls st σ cells slots) (kf : ¬ x = y → WA p l e R s m args below meth c D ty ρ N0 nL Q (pc + 3) ls st σ cells slots) : WA p l e R s m args below meth c D ty ρ N0 nL Q pc ls (.int y :: .int x :: st) σ cells slots := fun H locs lsr hP hS hL => lv_icmp_eq K.1.1 K.1.2.1 hdg ht (fun h => kt h H locs lsr hP hS hL) (fun h => kf h H locs lsr hP hS hL)
theorem a_if_ne (K : Cx p l s m args meth c cc nL own ret D ty ρ N0) {x : Int32} {off : Int} {tgt : Nat} (hdg : decode cc pc = .ok (.ifCond .ne off, 3)) (ht : (pc : Int) + off = (tgt : Int))
    (kt : ¬ x = 0 → WA p l e R s m args below meth c D ty ρ N0 nL Q tgt ls st σ cells slots) (kf : x = 0 → WA p l e R s m args below meth c D ty ρ N0 nL Q (pc + 3) ls st σ cells slots) : WA p l e R s m args below meth c D ty ρ N0 nL Q pc ls (.int x :: st) σ cells slots := fun H locs lsr hP hS hL => lv_if_ne K.1.1 K.1.2.1 hdg ht (fun h => kt h H locs lsr hP hS hL) (fun h => kf h H locs lsr hP hS hL)
theorem a_icmp_ne (K : Cx p l s m args meth c cc nL own ret D ty ρ N0) {x y : Int32} {off : Int} {tgt : Nat} (hdg : decode cc pc = .ok (.if_icmp .ne off, 3)) (ht : (pc : Int) + off = (tgt : Int))
    (kt : ¬ x = y → WA p l e R s m args below meth c D ty ρ N0 nL Q tgt ls st σ cells slots) (kf : x = y → WA p l e R s m args below meth c D ty ρ N0 nL Q (pc + 3) ls st σ cells slots) : WA p l e R s m args below meth c D ty ρ N0 nL Q pc ls (.int y :: .int x :: st) σ cells slots := fun H locs lsr hP hS hL => lv_icmp_ne K.1.1 K.1.2.1 hdg ht (fun h => kt h H locs lsr hP hS hL) (fun h => kf h H locs lsr hP hS hL)
theorem a_if_lt (K : Cx p l s m args meth c cc nL own ret D ty ρ N0) {x : Int32} {off : Int} {tgt : Nat} (hdg : decode cc pc = .ok (.ifCond .lt off, 3)) (ht : (pc : Int) + off = (tgt : Int))
    (kt : x < 0 → WA p l e R s m args below meth c D ty ρ N0 nL Q tgt ls st σ cells slots) (kf : ¬ x < 0 → WA p l e R s m args below meth c D ty ρ N0 nL Q (pc + 3) ls st σ cells slots) : WA p l e R s m args below meth c D ty ρ N0 nL Q pc ls (.int x :: st) σ cells slots := fun H locs lsr hP hS hL => lv_if_lt K.1.1 K.1.2.1 hdg ht (fun h => kt h H locs lsr hP hS hL) (fun h => kf h H locs lsr hP hS hL)
theorem a_icmp_lt (K : Cx p l s m args meth c cc nL own ret D ty ρ N0) {x y : Int32} {off : Int} {tgt : Nat} (hdg : decode cc pc = .ok (.if_icmp .lt off, 3)) (ht : (pc : Int) + off = (tgt : Int))
    (kt : x < y → WA p l e R s m args below meth c D ty ρ N0 nL Q tgt ls st σ cells slots) (kf : ¬ x < y → WA p l e R s m args below meth c D ty ρ N0 nL Q (pc + 3) ls st σ cells slots) : WA p l e R s m args below meth c D ty ρ N0 nL Q pc ls (.int y :: .int x :: st) σ cells slots := fun H locs lsr hP hS hL => lv_icmp_lt K.1.1 K.1.2.1 hdg ht (fun h => kt h H locs lsr hP hS hL) (fun h => kf h H locs lsr hP hS hL)
theorem a_if_ge (K : Cx p l s m args meth c cc nL own ret D ty ρ N0) {x : Int32} {off : Int} {tgt : Nat} (hdg : decode cc pc = .ok (.ifCond .ge off, 3)) (ht : (pc : Int) + off = (tgt : Int))
    (kt : 0 ≤ x → WA p l e R s m args below meth c D ty ρ N0 nL Q tgt ls st σ cells slots) (kf : ¬ 0 ≤ x → WA p l e R s m args below meth c D ty ρ N0 nL Q (pc + 3) ls st σ cells slots) : WA p l e R s m args below meth c D ty ρ N0 nL Q pc ls (.int x :: st) σ cells slots := fun H locs lsr hP hS hL => lv_if_ge K.1.1 K.1.2.1 hdg ht (fun h => kt h H locs lsr hP hS hL) (fun h => kf h H locs lsr hP hS hL)
theorem a_icmp_ge (K : Cx p l s m args meth c cc nL own ret D ty ρ N0) {x y : Int32} {off : Int} {tgt : Nat} (hdg : decode cc pc = .ok (.if_icmp .ge off, 3)) (ht : (pc : Int) + off = (tgt : Int))
    (kt : y ≤ x → WA p l e R s m args below meth c D ty ρ N0 nL Q tgt ls st σ cells slots) (kf : ¬ y ≤ x → WA p l e R s m args below meth c D ty ρ N0 nL Q (pc + 3) ls st σ cells slots) : WA p l e R s m args below meth c D ty ρ N0 nL Q pc ls (.int y :: .int x :: st) σ cells slots := fun H locs lsr hP hS hL => lv_icmp_ge K.1.1 K.1.2.1 hdg ht (fun h => kt h H locs lsr hP hS hL) (fun h => kf h H locs lsr hP hS hL)
theorem a_if_gt (K : Cx p l s m args meth c cc nL own ret D ty ρ N0) {x : Int32} {off : Int} {tgt : Nat} (hdg : decode cc pc = .ok (.ifCond .gt off, 3)) (ht : (pc : Int) + off = (tgt : Int))
    (kt : 0 < x → WA p l e R s m args below meth c D ty ρ N0 nL Q tgt ls st σ cells slots) (kf : ¬ 0 < x → WA p l e R s m args below meth c D ty ρ N0 nL Q (pc + 3) ls st σ cells slots) : WA p l e R s m args below meth c D ty ρ N0 nL Q pc ls (.int x :: st) σ cells slots := fun H locs lsr hP hS hL => lv_if_gt K.1.1 K.1.2.1 hdg ht (fun h => kt h H locs lsr hP hS hL) (fun h => kf h H locs lsr hP hS hL)
theorem a_icmp_gt (K : Cx p l s m args meth c cc nL own ret D ty ρ N0) {x y : Int32} {off : Int} {tgt : Nat} (hdg : decode cc pc = .ok (.if_icmp .gt off, 3)) (ht : (pc : Int) + off = (tgt : Int))
    (kt : y < x → WA p l e R s m args below meth c D ty ρ N0 nL Q tgt ls st σ cells slots) (kf : ¬ y < x → WA p l e R s m args below meth c D ty ρ N0 nL Q (pc + 3) ls st σ cells slots) : WA p l e R s m args below meth c D ty ρ N0 nL Q pc ls (.int y :: .int x :: st) σ cells slots := fun H locs lsr hP hS hL => lv_icmp_gt K.1.1 K.1.2.1 hdg ht (fun h => kt h H locs lsr hP hS hL) (fun h => kf h H locs lsr hP hS hL)
theorem a_if_le (K : Cx p l s m args meth c cc nL own ret D ty ρ N0) {x : Int32} {off : Int} {tgt : Nat} (hdg : decode cc pc = .ok (.ifCond .le off, 3)) (ht : (pc : Int) + off = (tgt : Int))
    (kt : x ≤ 0 → WA p l e R s m args below meth c D ty ρ N0 nL Q tgt ls st σ cells slots) (kf : ¬ x ≤ 0 → WA p l e R s m args below meth c D ty ρ N0 nL Q (pc + 3) ls st σ cells slots) : WA p l e R s m args below meth c D ty ρ N0 nL Q pc ls (.int x :: st) σ cells slots := fun H locs lsr hP hS hL => lv_if_le K.1.1 K.1.2.1 hdg ht (fun h => kt h H locs lsr hP hS hL) (fun h => kf h H locs lsr hP hS hL)
theorem a_icmp_le (K : Cx p l s m args meth c cc nL own ret D ty ρ N0) {x y : Int32} {off : Int} {tgt : Nat} (hdg : decode cc pc = .ok (.if_icmp .le off, 3)) (ht : (pc : Int) + off = (tgt : Int))
    (kt : x ≤ y → WA p l e R s m args below meth c D ty ρ N0 nL Q tgt ls st σ cells slots) (kf : ¬ x ≤ y → WA p l e R s m args below meth c D ty ρ N0 nL Q (pc + 3) ls st σ cells slots) : WA p l e R s m args below meth c D ty ρ N0 nL Q pc ls (.int y :: .int x :: st) σ cells slots := fun H locs lsr hP hS hL => lv_icmp_le K.1.1 K.1.2.1 hdg ht (fun h => kt h H locs lsr hP hS hL) (fun h => kf h H locs lsr hP hS hL)
theorem a_goto (K : Cx p l s m args meth c cc nL own ret D ty ρ N0) {off : Int} {tgt : Nat} (hdg : decode cc pc = .ok (.goto off, 3)) (ht : (pc : Int) + off = (tgt : Int)) (k : WA p l e R s m args below meth c D ty ρ N0 nL Q tgt ls st σ cells slots) : WA p l e R s m args below meth c D ty ρ N0 nL Q pc ls st σ cells slots := fun H locs lsr hP hS hL => lv_goto K.1.1 K.1.2.1 hdg ht (k H locs lsr hP hS hL)
theorem a_ifnull (K : Cx p l s m args meth c cc nL own ret D ty ρ N0) {x : Nat} {off : Int} (hdg : decode cc pc = .ok (.ifnull off, 3)) (k : WA p l e R s m args below meth c D ty ρ N0 nL Q (pc + 3) ls st σ cells slots) : WA p l e R s m args below meth c D ty ρ N0 nL Q pc ls (.ref x :: st) σ cells slots := fun H locs lsr hP hS hL => lv_ifnull K.1.1 K.1.2.1 hdg (k H locs lsr hP hS hL)
theorem a_ifnullN (K : Cx p l s m args meth c cc nL own ret D ty ρ N0) {off : Int} {tgt : Nat} (hdg : decode cc pc = .ok (.ifnull off, 3)) (ht : (pc : Int) + off = (tgt : Int)) (k : WA p l e R s m args below meth c D ty ρ N0 nL Q tgt ls st σ cells slots) : WA p l e R s m args below meth c D ty ρ N0 nL Q pc ls (.null :: st) σ cells slots := fun H locs lsr hP hS hL => lv_ifnullN K.1.1 K.1.2.1 hdg ht (k H locs lsr hP hS hL)
theorem a_tableIn (K : Cx p l s m args meth c cc nL own ret D ty ρ N0) {dflt lo hi : Int} {offs : Array Int} {len : Nat} {x : Int32} {off : Int} {tgt : Nat} (hdg : decode cc pc = .ok (.tableswitch dflt lo hi offs, len)) (h1 : ¬ x.toInt < lo) (h2 : ¬ hi < x.toInt) (ho : offs[(x.toInt - lo).toNat]? = some off) (ht : (pc : Int) + off = (tgt : Int))
    (k : WA p l e R s m args below meth c D ty ρ N0 nL Q tgt ls st σ cells slots) : WA p l e R s m args below meth c D ty ρ N0 nL Q pc ls (.int x :: st) σ cells slots := fun H locs lsr hP hS hL => lv_tableIn K.1.1 K.1.2.1 hdg h1 h2 ho ht (k H locs lsr hP hS hL)
theorem a_tableOut (K : Cx p l s m args meth c cc nL own ret D ty ρ N0) {dflt lo hi : Int} {offs : Array Int} {len : Nat} {x : Int32} {tgt : Nat} (hdg : decode cc pc = .ok (.tableswitch dflt lo hi offs, len)) (h : x.toInt < lo ∨ hi < x.toInt) (ht : (pc : Int) + dflt = (tgt : Int))
    (k : WA p l e R s m args below meth c D ty ρ N0 nL Q tgt ls st σ cells slots) : WA p l e R s m args below meth c D ty ρ N0 nL Q pc ls (.int x :: st) σ cells slots := fun H locs lsr hP hS hL => lv_tableOut K.1.1 K.1.2.1 hdg h ht (k H locs lsr hP hS hL)
theorem a_lookup (K : Cx p l s m args meth c cc nL own ret D ty ρ N0) {dflt : Int} {ps : Array (Int × Int)} {len : Nat} {x : Int32} {off : Int} {tgt : Nat} (hdg : decode cc pc = .ok (.lookupswitch dflt ps, len)) (hp : (ps.toList.zip (ps.toList.drop 1)).all (fun (a, next) => a.1 < next.1) = true) (ho : Op.lookupswitch.offset ps.toList dflt x.toInt = off) (ht : (pc : Int) + off = (tgt : Int))
    (k : WA p l e R s m args below meth c D ty ρ N0 nL Q tgt ls st σ cells slots) : WA p l e R s m args below meth c D ty ρ N0 nL Q pc ls (.int x :: st) σ cells slots := fun H locs lsr hP hS hL => lv_lookup K.1.1 K.1.2.1 hdg hp ho ht (k H locs lsr hP hS hL)
theorem a_ldc (K : Cx p l s m args meth c cc nL own ret D ty ρ N0) {index : Nat} {v : Int32} (hc : Cond.constant own index v ∈ GW) (hdg : decode cc pc = .ok (.ldc index, 2)) (k : WA p l e R s m args below meth c D ty ρ N0 nL Q (pc + 2) ls (.int v :: st) σ cells slots) : WA p l e R s m args below meth c D ty ρ N0 nL Q pc ls st σ cells slots := fun H locs lsr hP hS hL => lv_ldc K.1.1 K.1.2.1 K.1.2.2.2.1 (K.1.2.2.2.2 _ hc) hdg (k H locs lsr hP hS hL)
theorem a_get (K : Cx p l s m args meth c cc nL own ret D ty ρ N0) {T i k ci N index : Nat} {C : String} {TT : u_T} {ds : List (Option (Nat × Option Nat))} {v : Value} (hv : Vld T i) (hd : dsc T = some (ci, ds)) (hc : vwCl[ci]? = some (C, TT, N)) (hin : ∀ w ∈ u_ws C TT N, w ∈ GW) (hk : k < N) (hlink : Cond.fieldLink own index (TT k).1 (TT k).2.1 (TT k).2.2.1 ∈ GW) (hf : (fv ρ σ T i 0 ds)[k]? = some v) (hdg : decode cc pc = .ok (.getfield index, 3))
    (kk : WA p l e R s m args below meth c D ty ρ N0 nL Q (pc + 3) ls (v :: st) σ cells slots) : WA p l e R s m args below meth c D ty ρ N0 nL Q pc ls (.ref (ρ T i) :: st) σ cells slots := fun H locs lsr hP hS hL => by
  obtain ⟨q, hq, hw⟩ := ws_at (ty := ty) (ρ := ρ) (σ := σ) hv
  rw [cell_obj hd] at hw
  exact va_get (v := v) K.1.1 K.1.2.1 (Ts := GW) K.1.2.2.2.2 hin K.1.2.2.2.1 K.2.1.1 hP q hw hc k hk (K.1.2.2.2.2 _ hlink) (fun _ h9 => h9) hf hdg (kk H locs lsr hP hS hL)
theorem a_put (K : Cx p l s m args meth c cc nL own ret D ty ρ N0) {T i k ci N index : Nat} {C : String} {TT : u_T} {ds : List (Option (Nat × Option Nat))} {x : Int32} {t9 : FieldType} (hv : Vld T i) (hd : dsc T = some (ci, ds)) (hc : vwCl[ci]? = some (C, TT, N)) (hin : ∀ w ∈ u_ws C TT N, w ∈ GW) (ty0 : Nat → FieldType) (hty : ∀ k, k < N → parseFieldDescriptor (TT k).2.2.1 = some (ty0 k)) (hnm : ∀ a, a < N → ∀ b, b < N → a ≠ b → (TT a).2.1 ≠ (TT b).2.1) (hk : k < N) (hlink : Cond.fieldLink own index (TT k).1 (TT k).2.1 (TT k).2.2.1 ∈ GW) (hds : ds[k]? = some none) (hfin : (TT k).2.2.2 = false) (hpd : parseFieldDescriptor (TT k).2.2.1 = some t9) (hn : narrow t9 (.int x) = .int x) (hfit : fits t9 (.int x) = true) (hdg : decode cc pc = .ok (.putfield index, 3))
    (kk : WA p l e R s m args below meth c D ty ρ N0 nL Q (pc + 3) ls st (sI σ T i k x) cells slots) : WA p l e R s m args below meth c D ty ρ N0 nL Q pc ls (.int x :: .ref (ρ T i) :: st) σ cells slots := fun H locs lsr hP hS hL => by
  obtain ⟨q, hq, hw⟩ := ws_at (ty := ty) (ρ := ρ) (σ := σ) hv
  rw [cell_obj hd] at hw
  have hl : k < (fv ρ σ T i 0 ds).length := by rw [fv_len]; exact (List.getElem?_eq_some_iff.mp hds).1
  exact va_put (v := .int x) K.1.1 K.1.2.1 (Ts := GW) K.1.2.2.2.2 hin ty0 hty hnm K.1.2.2.2.1 K.2.1.1 hP (K.2.2.2.2.1 σ) hS q hw hc k hk (K.1.2.2.2.2 _ hlink) (fun _ h9 => h9) hfin hpd hn hfit hl hdg (fun H1 locs1 hP1 _ hS1 => kk H1 locs1 lsr (by rw [← ws_sI hq hd hds]; exact hP1) hS1 hL)
theorem a_iald (K : Cx p l s m args meth c cc nL own ret D ty ρ N0) {T i : Nat} {j : Int32} (hv : Vld T i) (hd : dsc T = none) (hk : akind T = 0) (hin : vp_in j (alen T)) (hdg : decode cc pc = .ok (.iaload, 1))
    (kk : WA p l e R s m args below meth c D ty ρ N0 nL Q (pc + 1) ls (.int (gA σ T i j.toNatClampNeg) :: st) σ cells slots) : WA p l e R s m args below meth c D ty ρ N0 nL Q pc ls (.int j :: .ref (ρ T i) :: st) σ cells slots := fun H locs lsr hP hS hL => by
  obtain ⟨q, hq, hw⟩ := ws_at (ty := ty) (ρ := ρ) (σ := σ) hv
  rw [cell_int hd hk] at hw
  exact va_iald K.1.1 K.1.2.1 K.2.1.1 hP q 0 hw rfl hin hdg (kk H locs lsr hP hS hL)
theorem a_iast (K : Cx p l s m args meth c cc nL own ret D ty ρ N0) {T i : Nat} {j x : Int32} (hv : Vld T i) (hd : dsc T = none) (hk : akind T = 0) (hin : vp_in j (alen T)) (hdg : decode cc pc = .ok (.iastore, 1))
    (kk : WA p l e R s m args below meth c D ty ρ N0 nL Q (pc + 1) ls st (sA σ T i j.toNatClampNeg x) cells slots) : WA p l e R s m args below meth c D ty ρ N0 nL Q pc ls (.int x :: .int j :: .ref (ρ T i) :: st) σ cells slots := fun H locs lsr hP hS hL => by
  obtain ⟨q, hq, hw⟩ := ws_at (ty := ty) (ρ := ρ) (σ := σ) hv
  rw [cell_int hd hk] at hw
  exact va_iast K.1.1 K.1.2.1 K.2.1.1 hP (K.2.2.2.2.1 σ) hS q 0 hw rfl hin hdg (fun H1 locs1 hP1 _ hS1 => kk H1 locs1 lsr (by rw [← ws_sA hq hd hk (Or.inl rfl)]; exact hP1) hS1 hL)
theorem a_cald (K : Cx p l s m args meth c cc nL own ret D ty ρ N0) {T i : Nat} {j : Int32} (hv : Vld T i) (hd : dsc T = none) (hk : akind T = 1) (hin : vp_in j (alen T)) (hdg : decode cc pc = .ok (.caload, 1))
    (kk : WA p l e R s m args below meth c D ty ρ N0 nL Q (pc + 1) ls (.int (gA σ T i j.toNatClampNeg) :: st) σ cells slots) : WA p l e R s m args below meth c D ty ρ N0 nL Q pc ls (.int j :: .ref (ρ T i) :: st) σ cells slots := fun H locs lsr hP hS hL => by
  obtain ⟨q, hq, hw⟩ := ws_at (ty := ty) (ρ := ρ) (σ := σ) hv
  rw [cell_char hd hk] at hw
  exact va_cald K.1.1 K.1.2.1 K.2.1.1 hP q 1 hw rfl hin hdg (kk H locs lsr hP hS hL)
theorem a_cast (K : Cx p l s m args meth c cc nL own ret D ty ρ N0) {T i : Nat} {j x : Int32} (hv : Vld T i) (hd : dsc T = none) (hk : akind T = 1) (hin : vp_in j (alen T)) (hdg : decode cc pc = .ok (.castore, 1))
    (kk : WA p l e R s m args below meth c D ty ρ N0 nL Q (pc + 1) ls st (sA σ T i j.toNatClampNeg (vp_nar .char x)) cells slots) : WA p l e R s m args below meth c D ty ρ N0 nL Q pc ls (.int x :: .int j :: .ref (ρ T i) :: st) σ cells slots := fun H locs lsr hP hS hL => by
  obtain ⟨q, hq, hw⟩ := ws_at (ty := ty) (ρ := ρ) (σ := σ) hv
  rw [cell_char hd hk] at hw
  exact va_cast K.1.1 K.1.2.1 K.2.1.1 hP (K.2.2.2.2.1 σ) hS q 1 hw rfl hin hdg (fun H1 locs1 hP1 _ hS1 => kk H1 locs1 lsr (by rw [← ws_sA hq hd hk (Or.inr rfl)]; exact hP1) hS1 hL)
theorem a_ilen (K : Cx p l s m args meth c cc nL own ret D ty ρ N0) {T i : Nat} {v : Int32} (hv : Vld T i) (hd : dsc T = none) (hk : akind T = 0) (hn : Int32.ofNat (alen T) = v) (hdg : decode cc pc = .ok (.arraylength, 1))
    (kk : WA p l e R s m args below meth c D ty ρ N0 nL Q (pc + 1) ls (.int v :: st) σ cells slots) : WA p l e R s m args below meth c D ty ρ N0 nL Q pc ls (.ref (ρ T i) :: st) σ cells slots := fun H locs lsr hP hS hL => by
  obtain ⟨q, hq, hw⟩ := ws_at (ty := ty) (ρ := ρ) (σ := σ) hv
  rw [cell_int hd hk] at hw
  exact va_alen K.1.1 K.1.2.1 K.2.1.1 hP q 0 hw rfl hn hdg (kk H locs lsr hP hS hL)
theorem a_clen (K : Cx p l s m args meth c cc nL own ret D ty ρ N0) {T i : Nat} {v : Int32} (hv : Vld T i) (hd : dsc T = none) (hk : akind T = 1) (hn : Int32.ofNat (alen T) = v) (hdg : decode cc pc = .ok (.arraylength, 1))
    (kk : WA p l e R s m args below meth c D ty ρ N0 nL Q (pc + 1) ls (.int v :: st) σ cells slots) : WA p l e R s m args below meth c D ty ρ N0 nL Q pc ls (.ref (ρ T i) :: st) σ cells slots := fun H locs lsr hP hS hL => by
  obtain ⟨q, hq, hw⟩ := ws_at (ty := ty) (ρ := ρ) (σ := σ) hv
  rw [cell_char hd hk] at hw
  exact va_alen K.1.1 K.1.2.1 K.2.1.1 hP q 1 hw rfl hn hdg (kk H locs lsr hP hS hL)
end AM
