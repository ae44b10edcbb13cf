/-! ROWS for null, countries kept, Math.min, System.arraycopy -/
section AM5
variable {p : Program} {l : Launch} {e : Env} {R : Room} {s : State} {m : MethodId} {args : Array Value} {below : List Frame} {meth : Method} {c : Code} {Q : State → Prop}
variable {D : va_G} {ty : Nat → ClassId} {ρ : Nat → Nat → Nat} {N0 nL : Nat} {cc : ByteArray} {own : String} {ret : Option FieldType}
variable {pc : Nat} {ls : List (Option Value)} {st : List Value} {σ σ' : Sg} {cells slots : Nat} {out : Option Value ⊕ String}
theorem a_nstore_n (K : Cx p l s m args meth c cc nL own ret D ty ρ N0) {k : Fin 4} {i : Nat} {ls' : List (Option Value)} (hdg : decode cc pc = .ok (.astore_n k, 1)) (hi : (k : Nat) = i) (hn : i < nL) (hl : ls.set i (some .null) = ls')
    (k : WA p l e R s m args below meth c D ty ρ N0 nL Q (pc + 1) ls' st σ cells slots) : WA p l e R s m args below meth c D ty ρ N0 nL Q pc ls (.null :: st) σ cells slots := fun H locs lsr hP hS hL => lv_astore_nN K.1.1 K.1.2.1 hdg hi hL.has hn rfl (fun lsr' h' => k H locs lsr' hP hS (hl ▸ hL.put rfl h'))
theorem a_nload_n (K : Cx p l s m args meth c cc nL own ret D ty ρ N0) {k : Fin 4} {i : Nat} (hdg : decode cc pc = .ok (.aload_n k, 1)) (hi : (k : Nat) = i) (hl : ls[i]? = some (some .null))
    (k : WA p l e R s m args below meth c D ty ρ N0 nL Q (pc + 1) ls (.null :: st) σ cells slots) : WA p l e R s m args below meth c D ty ρ N0 nL Q pc ls st σ cells slots := fun H locs lsr hP hS hL => lv_aload_nN K.1.1 K.1.2.1 hdg hi (hL.2.2 _ _ hl).1 (k H locs lsr hP hS hL)
theorem a_aret (K : Cx p l s m args meth c cc nL own ret D ty ρ N0) {rt : FieldType} (hr : ret = some rt) (hrt : (∃ n, rt = .object n) ∨ ∃ t, rt = .array t) {v : Value} (hv : v = .null ∨ ∃ a, v = .ref a) (hdg : decode cc pc = .ok (.areturn, 1)) {mc ms : Nat} (hc : cells ≤ mc) (hs : slots ≤ ms) (ho : out = .inl (some v)) (hσ : σ' = σ) :
    WA p l e R s m args below meth c D ty ρ N0 nL (vx_MQ below (oQ D ty ρ N0 out σ') (oX D ty ρ N0 out σ') args s mc ms (fun q => N0 ≤ q)) pc ls [v] σ cells slots := fun H locs lsr hP hS hL => by
  subst hr; subst ho; subst hσ
  refine W.widen hc hs (vx_ret ?_)
  exact W.aret K.1.1 K.1.2.1 K.2.2.2.2.2.2.2 hrt hv (fun t ht hW => ⟨⟨_, rfl, rfl⟩, by rw [ht]; exact hP, hS.F ht⟩) hS.2.2 hdg K.2.2.2.2.2.1
theorem cell_kept {T i : Nat} (hd : dsc T = none) (hk : akind T = 2) : cellOf ty ρ σ T i = .inl (ty 2, alen T, .inr (.inr (.inr (.inr (fun j => some (ρ 1 (3 + j))))))) := by unfold cellOf; rw [hd, hk]; rfl
theorem a_klen (K : Cx p l s m args meth c cc nL own ret D ty ρ N0) {v : Int32} (hn : Int32.ofNat (alen 7) = v) (hdg : decode cc pc = .ok (.arraylength, 1))
    (kk : WA p l e R s m args below meth c D ty ρ N0 nL Q (pc + 1) ls (.int v :: st) σ cells slots) : WA p l e R s m args below meth c D ty ρ N0 nL Q pc ls (.ref (ρ 7 0) :: st) σ cells slots := fun H locs lsr hP hS hL => by
  obtain ⟨q, hq, hw⟩ := ws_at (ty := ty) (ρ := ρ) (σ := σ) v_7
  rw [cell_kept rfl rfl] at hw
  exact va_alen K.1.1 K.1.2.1 K.2.1.1 hP q 2 hw rfl hn hdg (kk H locs lsr hP hS hL)
theorem a_kald (K : Cx p l s m args meth c cc nL own ret D ty ρ N0) {j : Int32} (hin : vp_in j (alen 7)) (hdg : decode cc pc = .ok (.aaload, 1))
    (kk : WA p l e R s m args below meth c D ty ρ N0 nL Q (pc + 1) ls (.ref (ρ 1 (3 + j.toNatClampNeg)) :: st) σ cells slots) : WA p l e R s m args below meth c D ty ρ N0 nL Q pc ls (.int j :: .ref (ρ 7 0) :: st) σ cells slots := fun H locs lsr hP hS hL => by
  obtain ⟨q, hq, hw⟩ := ws_at (ty := ty) (ρ := ρ) (σ := σ) v_7
  rw [cell_kept rfl rfl] at hw
  exact va_aldq K.1.1 K.1.2.1 K.2.1.1 hP q 2 hw rfl hin hdg (kk H locs lsr hP hS hL)
theorem gw_min1 : Cond.static Lib.Math.min.name ∈ GW := gwp 229 (by decide +kernel) rfl
theorem gw_min2 : Cond.initialized "java/lang/Math" ∈ GW := gwp 14 (by decide +kernel) rfl
theorem gw_min3 : Cond.code Lib.Math.min.name Lib.Math.min.code 2 (some .int) ∈ GW := gwp 230 (by decide +kernel) rfl
theorem a_mmin (K : Cx p l s m args meth c cc nL own ret D ty ρ N0) {index : Nat} (hl : Cond.methodLink own index Lib.Math.min.name ∈ GW) (hf : 1 ≤ R.frames) (hlo : (st.map fun v => v.category).sum + 13 ≤ R.locals) (hc : cells ≤ R.cells) (hs : slots ≤ R.slots) {x y : Int32} (hdg : decode cc pc = .ok (.invokestatic index, 3))
    (kk : WA p l e R s m args below meth c D ty ρ N0 nL Q (pc + 3) ls (.int (if y < x then y else x) :: st) σ cells slots) : WA p l e R s m args below meth c D ty ρ N0 nL Q pc ls (.int y :: .int x :: st) σ cells slots := fun H locs lsr hP hS hL =>
  va_mmin K.1.1 K.1.2.1 (K.1.2.2.1.trans hL.1.symm) K.1.2.2.2.1 (K.1.2.2.2.2 _ hl) (K.1.2.2.2.2 _ gw_min1) (K.1.2.2.2.2 _ gw_min2) (K.1.2.2.2.2 _ gw_min3) hf hlo hc hs hdg (kk H locs lsr hP hS hL)
/-- the row (t, a) laid over the row (u, b), n places -/
def cpA (σ : Sg) (t a u b n : Nat) : Sg := (σ.1, fun T i k => if T = u ∧ i = b ∧ k < n then gA σ t a k else σ.2.1 T i k, σ.2.2.1, σ.2.2.2)
theorem gI_cpA (σ : Sg) (t a u b n T i k : Nat) : gI (cpA σ t a u b n) T i k = gI σ T i k := rfl
theorem gA_cpA (σ : Sg) (t a u b n T i k : Nat) : gA (cpA σ t a u b n) T i k = if T = u ∧ i = b ∧ k < n then gA σ t a k else gA σ T i k := rfl
theorem gw_cpy1 : Cond.native arraycopyName ∈ GW := gwp 233 (by decide +kernel) rfl
theorem gw_cpy2 : Cond.static arraycopyName ∈ GW := gwp 232 (by decide +kernel) rfl
theorem gw_cpy3 : Cond.initialized "java/lang/System" ∈ GW := gwp 15 (by decide +kernel) rfl
theorem a_copyi (K : Cx p l s m args meth c cc nL own ret D ty ρ N0) {index t a u b nn : Nat} {n : Int32} (hl : Cond.methodLink own index arraycopyName ∈ GW) (hvt : Vld t a) (hdt : dsc t = none) (hkt : akind t = 0) (hvu : Vld u b) (hdu : dsc u = none) (hku : akind u = 0) (hn0 : ¬ n < 0) (hnn : n.toNatClampNeg = nn) (h4 : nn ≤ alen t) (h5 : nn ≤ alen u)
    (hf : 1 ≤ R.frames) (hlo : (st.map fun v => v.category).sum + (nativeFrameWords "java/lang/System" "arraycopy" 5 + 11) ≤ R.locals) (hdg : decode cc pc = .ok (.invokestatic index, 3))
    (kk : WA p l e R s m args below meth c D ty ρ N0 nL Q (pc + 3) ls st (cpA σ t a u b nn) cells slots) : WA p l e R s m args below meth c D ty ρ N0 nL Q pc ls (.int n :: .int 0 :: .ref (ρ u b) :: .int 0 :: .ref (ρ t a) :: st) σ cells slots := fun H locs lsr hP hS hL => by
  obtain ⟨q0, hq0, hw0⟩ := ws_at (ty := ty) (ρ := ρ) (σ := σ) hvt
  obtain ⟨q1, hq1, hw1⟩ := ws_at (ty := ty) (ρ := ρ) (σ := σ) hvu
  rw [cell_int hdt hkt] at hw0
  rw [cell_int hdu hku] at hw1
  have z0 : (0 : Int32).toNatClampNeg = 0 := by decide
  refine va_copyi K.1.1 K.1.2.1 (K.1.2.2.1.trans hL.1.symm) K.1.2.2.2.1 (K.1.2.2.2.2 _ hl) (K.1.2.2.2.2 _ gw_cpy1) (K.1.2.2.2.2 _ gw_cpy2) (K.1.2.2.2.2 _ gw_cpy3) K.2.1.1 hP (K.2.2.2.2.1 σ) hS q0 q1 0 0 hw0 hw1 rfl rfl rfl (by decide) (by decide) hn0 (by rw [z0, hnn]; omega) (by rw [z0, hnn]; omega) (fun i hi => rfl) hf hlo hdg (fun H1 locs1 hP1 _ hS1 => kk H1 locs1 lsr ?_ hS1 hL)
  rw [z0, hnn] at hP1
  rw [ws_set (σ' := cpA σ t a u b nn) hq1 ?_ ?_] at hP1
  · exact hP1
  · rw [cell_int hdu hku]
    have e9 : gA (cpA σ t a u b nn) u b = va_cpy (gA σ t a) (gA σ u b) 0 0 nn := by
      funext j
      simp [gA_cpA, va_cpy]
    rw [e9]
  · intro T' i' hne _
    exact cell_congr (fun _ => rfl) (fun k => by rw [gA_cpA, if_neg (fun h => hne ⟨h.1, h.2.1⟩)]) (fun _ => rfl) (fun _ => rfl)
end AM5
theorem ml_X1_50 : Cond.methodLink RX1 50 Lib.Math.min.name ∈ GW := gwp 228 (by decide +kernel) rfl
theorem ml_X1_56 : Cond.methodLink RX1 56 arraycopyName ∈ GW := gwp 231 (by decide +kernel) rfl
theorem ml_X0_33 : Cond.methodLink RX0 33 Lib.Math.min.name ∈ GW := gwp 423 (by decide +kernel) rfl
def t_X1_copyRow : List (Nat × Instr × Nat) := [(0, .aload_n 0, 1), (1, .iconst 0, 1), (2, .aload_n 1, 1), (3, .iconst 0, 1), (4, .aload_n 0, 1), (5, .arraylength, 1), (6, .aload_n 1, 1), (7, .arraylength, 1), (8, .invokestatic 50, 3), (11, .invokestatic 56, 3), (14, .return_, 1)]
theorem dt_X1_copyRow : tblOK cX1_copyRow t_X1_copyRow = true := by decide +kernel
def p_X1_copyRow (t a u b : Nat) (σ : Sg) : Option Sg := if alen t = alen u then some (cpA σ t a u b (alen u)) else none
theorem alen_lt (t : Nat) : alen t < 400 := by
  unfold alen
  split <;> decide
set_option maxRecDepth 20000 in
set_option maxHeartbeats 1000000 in
theorem s_X1_copyRow {l : Launch} {D : va_G} {ty : Nat → ClassId} {ρ : Nat → Nat → Nat} {N0 : Nat} (S : St l ty ρ N0) (t a u b : Nat) (hvt : Vld t a) (hdt : dsc t = none) (hkt : akind t = 0) (hvu : Vld u b) (hdu : dsc u = none) (hku : akind u = 0) (σ : Sg) (r : Sg) (h : p_X1_copyRow t a u b σ = some r) : AMet l D ty ρ N0 yX1_copyRow (Cond.code yX1_copyRow cX1_copyRow 2 none :: GW) (rmk 1 0 0) [.ref (ρ t a), .ref (ρ u b)] σ (.inl none) r := by
  refine am_enter S (by decide) rfl rfl (Nat.le_of_ble_eq_true rfl) ?_
  intro p e s m args below meth c K hX
  have dq := @tat _ _ dt_X1_copyRow
  unfold p_X1_copyRow at h
  have hlen : alen t = alen u := by
    by_cases hh : alen t = alen u
    · exact hh
    · rw [if_neg hh] at h; cases h
  rw [if_pos hlen] at h
  obtain rfl := Option.some.inj h
  have hl9 := alen_lt u
  show WA p l e _ s m args below meth c D ty ρ N0 2 _ 0 [some (.ref (ρ t a)), some (.ref (ρ u b))] [] σ 0 0
  refine a_aload_n K (dq 0 rfl) rfl rfl ?_
  refine a_iconst K (dq 1 rfl) (v := 0) rfl ?_
  refine a_aload_n K (dq 2 rfl) rfl rfl ?_
  refine a_iconst K (dq 3 rfl) (v := 0) rfl ?_
  refine a_aload_n K (dq 4 rfl) rfl rfl ?_
  refine a_ilen K hvt hdt hkt rfl (dq 5 rfl) ?_
  refine a_aload_n K (dq 6 rfl) rfl rfl ?_
  refine a_ilen K hvu hdu hku rfl (dq 7 rfl) ?_
  refine a_mmin K ml_X1_50 (Nat.le_of_ble_eq_true rfl) (Nat.le_of_ble_eq_true rfl) (Nat.le_of_ble_eq_true rfl) (Nat.le_of_ble_eq_true rfl) (dq 8 rfl) ?_
  have e1 : (if Int32.ofNat (alen u) < Int32.ofNat (alen t) then Int32.ofNat (alen u) else Int32.ofNat (alen t)) = nI (alen u) := by
    rw [hlen]; simp [nI]
  rw [e1]
  refine a_copyi K ml_X1_56 hvt hdt hkt hvu hdu hku (nI_pos (by omega)) (nI_clamp (by omega)) (by omega) (Nat.le_refl _) (Nat.le_of_ble_eq_true rfl) (Nat.le_of_ble_eq_true rfl) (dq 9 rfl) ?_
  exact a_vret K rfl (dq 10 rfl) (Nat.le_of_ble_eq_true rfl) (Nat.le_of_ble_eq_true rfl) rfl rfl
/-- the country kept at a place, or null -/
def atV (ρ : Nat → Nat → Nat) (j : Int32) : Value := if ib j 8 = true then .ref (ρ 1 (3 + j.toNatClampNeg)) else .null
theorem ib_8 {j : Int32} (h : ib j 8 = true) : 3 + j.toNatClampNeg < 11 := by
  have := ib_in h
  unfold vp_in at this
  omega
theorem fl_X0_11 : Cond.fieldLink RX0 11 (TX0 0).1 (TX0 0).2.1 (TX0 0).2.2.1 ∈ GW := gwp 83 (by decide +kernel) rfl
def t_X0_at : List (Nat × Instr × Nat) := [(0, .iload_n 1, 1), (1, .ifCond .lt 21, 3), (4, .iload_n 1, 1), (5, .aload_n 0, 1), (6, .getfield 11, 3), (9, .arraylength, 1), (10, .if_icmp .ge 12, 3), (13, .aload_n 0, 1), (14, .getfield 11, 3), (17, .iload_n 1, 1), (18, .aaload, 1), (19, .goto 4, 3), (22, .aconst_null, 1), (23, .areturn, 1)]
theorem dt_X0_at : tblOK cX0_at t_X0_at = true := by decide +kernel
theorem nI8 : (8 : Int32) = nI 8 := by decide
set_option maxRecDepth 20000 in
set_option maxHeartbeats 1000000 in
theorem s_X0_at {l : Launch} {D : va_G} {ty : Nat → ClassId} {ρ : Nat → Nat → Nat} {N0 : Nat} (S : St l ty ρ N0) (a1 : Int32) (σ : Sg) : AMet l D ty ρ N0 yX0_at (Cond.code yX0_at cX0_at 2 (some (.object RX1)) :: GW) (rmk 1 0 0) [.ref (ρ 6 0), .int a1] σ (.inl (some (atV ρ a1))) σ := by
  refine am_enter S (by decide) rfl rfl (Nat.le_of_ble_eq_true rfl) ?_
  intro p e s m args below meth c K hX
  have dq := @tat _ _ dt_X0_at
  show WA p l e _ s m args below meth c D ty ρ N0 2 _ 0 [some (.ref (ρ 6 0)), some (.int a1)] [] σ 0 0
  refine a_iload_n K (dq 0 rfl) rfl rfl ?_
  refine a_if_lt K (tgt := 22) (dq 1 rfl) rfl (fun c1 => ?_) (fun c1 => ?_)
  · refine a_null K (dq 12 rfl) ?_
    exact a_aret K rfl (Or.inl ⟨_, rfl⟩) (Or.inl rfl) (dq 13 rfl) (Nat.le_of_ble_eq_true rfl) (Nat.le_of_ble_eq_true rfl) (by rw [atV, if_neg]; simp [ib, c1]) rfl
  · refine a_iload_n K (dq 2 rfl) rfl rfl ?_
    refine a_aload_n K (dq 3 rfl) rfl rfl ?_
    refine a_get K (T := 6) (i := 0) (k := 0) (v := .ref (ρ 7 0)) v_6 rfl rfl in_X0 (Nat.le_of_ble_eq_true rfl) fl_X0_11 rfl (dq 4 rfl) ?_
    refine a_klen K (v := 8) rfl (dq 5 rfl) ?_
    refine a_icmp_ge K (tgt := 22) (dq 6 rfl) rfl (fun c2 => ?_) (fun c2 => ?_)
    · refine a_null K (dq 12 rfl) ?_
      have hz : ¬ ib a1 8 = true := fun hh => by
        obtain ⟨j, hj, rfl⟩ := vp_in_of (ib_in hh) (by decide)
        exact nI_ge hj (by decide) (nI8 ▸ c2)
      exact a_aret K rfl (Or.inl ⟨_, rfl⟩) (Or.inl rfl) (dq 13 rfl) (Nat.le_of_ble_eq_true rfl) (Nat.le_of_ble_eq_true rfl) (by rw [atV, if_neg hz]) rfl
    · refine a_aload_n K (dq 7 rfl) rfl rfl ?_
      refine a_get K (T := 6) (i := 0) (k := 0) (v := .ref (ρ 7 0)) v_6 rfl rfl in_X0 (Nat.le_of_ble_eq_true rfl) fl_X0_11 rfl (dq 8 rfl) ?_
      refine a_iload_n K (dq 9 rfl) rfl rfl ?_
      have hin : vp_in a1 8 := by
        rw [vp_in_iff]
        constructor
        · have := Int32.not_lt.mp c1; simpa [Int32.le_iff_toInt_le] using this
        · have := Int32.not_le.mp c2; simpa [Int32.lt_iff_toInt_lt] using this
      have hz : ib a1 8 = true := by
        unfold vp_in at hin
        simp only [ib, Bool.not_eq_true', Bool.or_eq_false_iff, decide_eq_false_iff_not]
        exact ⟨fun q => hin (Or.inl q), fun q => hin (Or.inr q)⟩
      refine a_kald K hin (dq 10 rfl) ?_
      refine a_goto K (tgt := 23) (dq 11 rfl) rfl ?_
      exact a_aret K rfl (Or.inl ⟨_, rfl⟩) (Or.inr ⟨_, rfl⟩) (dq 13 rfl) (Nat.le_of_ble_eq_true rfl) (Nat.le_of_ble_eq_true rfl) (by rw [atV, if_pos hz]) rfl
