/-! THE LAW: its own end, the case with a double in a its variable of two places, the choice of the case, the loop -/
def t_lw : List (Nat × Instr × Nat) := [(0, .new 8, 3), (3, .dup, 1), (4, .invokespecial 137, 3), (7, .astore_n 1, 1), (8, .new 138, 3), (11, .dup, 1), (12, .invokespecial 140, 3), (15, .astore_n 2, 1), (16, .iconst 1, 1), (17, .newarray .long, 2), (19, .astore_n 3, 1), (20, .iconst 1, 1), (21, .newarray .double, 2), (23, .astore 4, 2), (25, .iconst 0, 1), (26, .istore 5, 2), (28, .iload 5, 2), (30, .aload_n 0, 1), (31, .arraylength, 1), (32, .iconst 4, 1), (33, .isub, 1), (34, .if_icmp .gt 2448, 3), (37, .aload_n 0, 1), (38, .iload 5, 2), (40, .iaload, 1), (41, .bipush 63, 2), (43, .iand, 1), (44, .tableswitch 2432 0 38 #[172, 228, 296, 364, 420, 476, 556, 624, 692, 760, 828, 908, 976, 1044, 1112, 1180, 1255, 1330, 1398, 1454, 1467, 1523, 1579, 1635, 1703, 1759, 1815, 1873, 1917, 1930, 1986, 2054, 2110, 2166, 2210, 2275, 2331, 2375, 2388], 172), (2254, .aload_n 1, 1), (2255, .aload 4, 2), (2257, .invokestatic 255, 3), (2260, .istore 6, 2), (2262, .aload_n 2, 1), (2263, .invokevirtual 258, 3), (2266, .dstore 7, 2), (2268, .aload_n 2, 1), (2269, .invokevirtual 147, 3), (2272, .iload 6, 2), (2274, .if_icmp .eq 5, 3), (2277, .iconst 0, 1), (2278, .ireturn, 1), (2279, .iload 6, 2), (2281, .ifCond .ne 35, 3), (2284, .aload 4, 2), (2286, .iconst 0, 1), (2287, .daload, 1), (2288, .dload 7, 2), (2290, .dcmp .l, 1), (2291, .ifCond .eq 25, 3), (2294, .aload 4, 2), (2296, .iconst 0, 1), (2297, .daload, 1), (2298, .aload 4, 2), (2300, .iconst 0, 1), (2301, .daload, 1), (2302, .dcmp .l, 1), (2303, .ifCond .eq 11, 3), (2306, .dload 7, 2), (2308, .dload 7, 2), (2310, .dcmp .l, 1), (2311, .ifCond .ne 5, 3), (2314, .iconst 0, 1), (2315, .ireturn, 1), (2316, .goto 160, 3), (2473, .goto 3, 3), (2476, .iinc 5 4, 3), (2479, .goto (-2451), 3), (2482, .iconst 1, 1), (2483, .ireturn, 1)]
set_option maxRecDepth 20000 in
theorem dt_lw : tblOK code t_lw = true := by decide +kernel
section AM10
variable {p : Program} {l : Launch} {e : Env} {R : Room} {s : State} {m : MethodId} {args : Array Value} {below : List Frame} {meth : Method} {c : Code} {Q : State → Prop}
variable {D : va_G} {ty : Nat → ClassId} {ρ : Nat → Nat → Nat} {N0 nL : Nat} {cc : ByteArray} {own : String} {ret : Option FieldType}
variable {pc : Nat} {ls : List (Option Value)} {st : List Value} {σ σ' : Sg} {cells slots : Nat} {out : Option Value ⊕ String}
theorem a_callVw (K : Cx p l s m args meth c cc nL own ret D ty ρ N0) {H : Heap} {locs : List Loc} {lsr : Array Slot} {T0 i0 ci N index maxL n : Nat} {C : String} {TT : u_T} {ds : List (Option (Nat × Option Nat))} {y : MethodName} {bytes : ByteArray} {ret' : Option FieldType} {rm : Room} {As rest : List Value} {ov : Option Value}
    (hM : AMet l D ty ρ N0 y (Cond.code y bytes maxL ret' :: GW) rm (.ref (ρ T0 i0) :: As) σ (.inl ov) σ') (hv : Vld T0 i0) (hd : dsc T0 = some (ci, ds)) (hc : vwCl[ci]? = some (C, TT, N))
    (hw : CwV C y bytes maxL ret' n) (hl : Cond.methodLink own index y ∈ GW) (hR : Fits rm R maxL) (hn : As.length = n) (hst : As.reverse ++ .ref (ρ T0 i0) :: rest = st) (hW : (rest.map fun v => v.category).sum ≤ 8) (hdg : decode cc pc = .ok (.invokevirtual index, 3)) (hf : cells + rm.cells ≤ R.cells ∧ slots + rm.slots ≤ R.slots)
    (hP : va_P D vwCl (WS ty ρ σ) H) (hS : va_S (fun q => N0 ≤ q) s.heap H locs) (hL : LR nL ls lsr)
    (kk : ∀ H1 locs1, va_P D vwCl (WS ty ρ σ') H1 → va_S (fun q => N0 ≤ q) s.heap H1 locs1 → W p l e R s m args below meth c H1 locs1 (cells + rm.cells) (slots + rm.slots) Q (F0 m (pc + 3) lsr (ov.toList ++ rest))) : W p l e R s m args below meth c H locs cells slots Q (F0 m pc lsr st) := by
  obtain ⟨q, hq, hww⟩ := ws_at (ty := ty) (ρ := ρ) (σ := σ) hv
  rw [cell_obj hd] at hww
  subst hst
  obtain ⟨w1, w2, w3, w4, w5⟩ := hw
  have hG : GoodIn GW (wsV own index C y (Cond.code y bytes maxL ret' :: GW)) := goodIn_GW (fun w h => by
    simp only [wsV, List.cons_append, List.nil_append, List.mem_cons] at h
    rcases h with rfl | rfl | rfl | rfl | rfl | h <;> assumption)
  have hcw := cwV (R := R) (s := s) (args := args) (rm := rm) n K.1.2.2.2.2 hG rfl rfl rfl w5 hR
  have hrun := vx_runV (p := p) (l := l) (e := e) (below := below) (meth := meth) (locs := locs) (cells := cells) (slots := slots) (g := F0 m pc lsr (As.reverse ++ .ref (ρ T0 i0) :: rest)) (rest := rest) K.1 hM hcw
    ⟨blind_W _, va_recv K.2.1.1 hP hc hww, fun U hU hW => ⟨rfl, world_of K hP hS hU hW⟩⟩ rfl hn hL.1 rfl (lv_room hW) hdg hf
  intro T hT X
  rcases hrun T hT X with ⟨v, st₀, t, T', L, h0, X', hL', e1, e2, ⟨⟨ov, ho, hov⟩, hP', hF⟩, st⟩ | ⟨q, st₀, t, T', L, E, ce, h0, X', hL', e1, e2, ⟨ho, hP', hF⟩, hce, hcv, hcl, st⟩
  · cases ho
    cases hov
    obtain ⟨k1, k2, k3⟩ := vx_keep (A0 := fun q => N0 ≤ q) (A1 := fun q => N0 ≤ q) h0 e1 hS (fun q _ h => h) (fun q h => h) hL' hF
    obtain ⟨t2, a1, b1⟩ := kk T'.heap (locs ++ L) (by rw [e1]; exact hP') k3 T' rfl X'
    exact ⟨t2, st t2 a1, b1⟩
  · cases ho
theorem a_daldw (K : Cx p l s m args meth c cc nL own ret D ty ρ N0) {H : Heap} {locs : List Loc} {lsr : Array Slot} (hP : va_P D vwCl (WS ty ρ σ) H) (hdg : decode cc pc = .ok (.daload, 1))
    (kk : W p l e R s m args below meth c H locs cells slots Q (F0 m (pc + 1) lsr (.double (gD σ) :: st))) : W p l e R s m args below meth c H locs cells slots Q (F0 m pc lsr (.int 0 :: .ref (ρ 31 0) :: st)) := by
  obtain ⟨q, hq, hw⟩ := ws_at (ty := ty) (ρ := ρ) (σ := σ) v_31
  rw [cell_31] at hw
  exact va_dald K.1.1 K.1.2.1 K.2.1.1 hP q 4 hw rfl (ib_in rfl) hdg kk
end AM10
def p_lc_34 (_ : Nat → Int32) (_ : Nat) (_ : Int32) (σ : Sg) : Option Sg := (p_L_paidShare σ).bind fun r1 => (p_X7_paidShare r1.2).bind fun r2 => (p_X7_thrown r2.2).bind fun r3 => if r3 = r1.1 then (if r1.1 = 0 then (if gD r2.2 = r2.1 then some r2.2 else none) else some r2.2) else none
set_option maxRecDepth 20000 in
set_option maxHeartbeats 1000000 in
theorem s_lc_34 {l : Launch} {D : va_G} {ty : Nat → ClassId} {ρ : Nat → Nat → Nat} {N0 : Nat} (S : St l ty ρ N0) {xs : Nat → Int32} {L b : Nat} (i : Int32) (σ σ9 : Sg) (h : p_lc_34 xs L i σ = some σ9) {p : Program} {e : Env} {s : State} {m : MethodId} {args : Array Value} {below : List Frame} {meth : Method} {c : Code} {Q : State → Prop} (K : Cx p l s m args meth c code 9 RL ret D ty ρ N0) {cs ss : Nat} (hcs : cs + 20 ≤ 603072) (hss : ss + 120 ≤ 7207018) (hk : ∀ c9 s9, c9 ≤ cs + 20 → s9 ≤ ss + 120 → WA p l e room_1 s m args below meth c D ty ρ N0 9 Q 2476 [some (.ref b), some (.ref (ρ 0 0)), some (.ref (ρ 20 0)), some (.ref (ρ 30 0)), some (.ref (ρ 31 0)), some (.int i), none, none, none] [] σ9 c9 s9) : WA p l e room_1 s m args below meth c D ty ρ N0 9 Q 2254 [some (.ref b), some (.ref (ρ 0 0)), some (.ref (ρ 20 0)), some (.ref (ρ 30 0)), some (.ref (ρ 31 0)), some (.int i), none, none, none] [] σ cs ss := by
  have dq := @tat _ _ dt_lw
  unfold p_lc_34 at h
  refine a_aload_n K (dq 28 rfl) rfl rfl ?_
  refine a_aload K (dq 29 rfl) rfl ?_
  obtain ⟨r1, h1, h⟩ := bnd h
  refine a_callH K (s_L_paidShare S σ r1 h1) cw_L_paidShare mh_L_255 (by decide) rfl (rest := []) rfl (Nat.le_of_ble_eq_true rfl) (dq 30 rfl) (by constructor <;> (simp only [rmk, room_1]; omega)) ?_
  refine a_istore K (dq 31 rfl) (Nat.le_of_ble_eq_true rfl) (ls' := [some (.ref b), some (.ref (ρ 0 0)), some (.ref (ρ 20 0)), some (.ref (ρ 30 0)), some (.ref (ρ 31 0)), some (.int i), some (.int r1.1), none, none]) rfl ?_
  refine a_aload_n K (dq 32 rfl) rfl rfl ?_
  obtain ⟨r2, h2, h⟩ := bnd h
  obtain ⟨r3, h3, h⟩ := bnd h
  intro H locs lsr hP hS hL
  refine a_callVw K (s_X7_paidShare S r1.2 r2 h2) v_20 rfl rfl cw_X7_paidShare ml_L_258 (by decide) rfl (rest := []) rfl (Nat.le_of_ble_eq_true rfl) (dq 33 rfl) (by constructor <;> (simp only [rmk, room_1]; omega)) hP hS hL (fun H1 locs1 hP1 hS1 => ?_)
  refine lv_dstore K.1.1 K.1.2.1 (dq 34 rfl) hL.has (by decide) rfl (fun lsr1 hl1 => ?_)
  have h7 : lsr1[7]? = some (.val (.double r2.1)) := hl1.2.2 (7, .double r2.1) List.mem_cons_self
  have hL1 : LR 9 [some (.ref b), some (.ref (ρ 0 0)), some (.ref (ρ 20 0)), some (.ref (ρ 30 0)), some (.ref (ρ 31 0)), some (.int i), some (.int r1.1), none, none] lsr1 := by
    refine ⟨hl1.1, hl1.2.1, fun k v hk => ?_⟩
    have hc := (hL.2.2 k v hk).2
    refine ⟨hl1.2.2 (k, v) (List.mem_cons_of_mem _ (List.mem_filter.mpr ⟨mem_prs.mpr hk, ?_⟩)), hc⟩
    have h77 : ¬ k = 7 := by rintro rfl; cases hk
    have h88 : ¬ k = 8 := by rintro rfl; cases hk
    simp [h77, h88, hc]
  have g : ∀ (k : Nat) (v : Value), ([some (.ref b), some (.ref (ρ 0 0)), some (.ref (ρ 20 0)), some (.ref (ρ 30 0)), some (.ref (ρ 31 0)), some (.int i), some (.int r1.1), none, none] : List (Option Value))[k]? = some (some v) → lsr1[k]? = some (.val v) := fun k v hk => (hL1.2.2 k v hk).1
  refine lv_aload_n K.1.1 K.1.2.1 (dq 35 rfl) rfl (g 2 _ rfl) ?_
  refine a_callVw K (s_X7_thrown S r2.2 r3 h3) v_20 rfl rfl cw_X7_thrown ml_L_147 (by decide) rfl (rest := []) rfl (Nat.le_of_ble_eq_true rfl) (dq 36 rfl) (by constructor <;> (simp only [rmk, room_1]; omega)) hP1 hS1 hL1 (fun H2 locs2 hP2 hS2 => ?_)
  refine lv_iload K.1.1 K.1.2.1 (dq 37 rfl) (g 6 _ rfl) ?_
  refine lv_icmp_eq K.1.1 K.1.2.1 (dq 38 rfl) (tgt := 2279) rfl (fun c1 => ?_) (fun c1 => ?_)
  rotate_left
  · cases ite_f c1 h
  have h := ite_t c1 h
  have fin : ∀ σ8, r2.2 = σ8 → some σ8 = some σ9 → W p l e room_1 s m args below meth c H2 locs2 (cs + (rmk 3 1 6).cells + (rmk 2 0 0).cells + (rmk 1 0 0).cells) (ss + (rmk 3 1 6).slots + (rmk 2 0 0).slots + (rmk 1 0 0).slots) Q (F0 m 2476 lsr1 []) := by
    intro σ8 e8 h8
    obtain rfl := Option.some.inj h8
    subst e8
    exact hk _ _ (by simp only [rmk]; omega) (by simp only [rmk]; omega) H2 locs2 lsr1 hP2 hS2 (hL1.weaken (Le2.at (b := [some (.ref b), some (.ref (ρ 0 0)), some (.ref (ρ 20 0)), some (.ref (ρ 30 0)), some (.ref (ρ 31 0)), some (.int i), some (.int r1.1), none, none]) ⟨rfl, rfl, rfl, rfl, rfl, rfl, trivial⟩))
  refine lv_iload K.1.1 K.1.2.1 (dq 41 rfl) (g 6 _ rfl) ?_
  refine lv_if_ne K.1.1 K.1.2.1 (dq 42 rfl) (tgt := 2316) rfl (fun c2 => ?_) (fun c2 => ?_)
  · have h := ite_f c2 h
    refine lv_goto K.1.1 K.1.2.1 (dq 63 rfl) (tgt := 2476) rfl ?_
    exact fin _ rfl h
  have h := ite_t c2 h
  by_cases c3 : gD r2.2 = r2.1
  rotate_left
  · cases ite_f c3 h
  have h := ite_t c3 h
  refine lv_aload K.1.1 K.1.2.1 (dq 43 rfl) (g 4 _ rfl) ?_
  refine lv_iconst K.1.1 K.1.2.1 (dq 44 rfl) (v := 0) rfl ?_
  refine a_daldw K hP2 (dq 45 rfl) ?_
  refine lv_dload K.1.1 K.1.2.1 (dq 46 rfl) h7 ?_
  rw [c3]
  refine lv_dcmp K.1.1 K.1.2.1 (dq 47 rfl) ?_
  refine lv_if_eq K.1.1 K.1.2.1 (dq 48 rfl) (tgt := 2316) rfl (fun c4 => ?_) (fun c4 => ?_)
  · refine lv_goto K.1.1 K.1.2.1 (dq 63 rfl) (tgt := 2476) rfl ?_
    exact fin _ rfl h
  refine lv_aload K.1.1 K.1.2.1 (dq 49 rfl) (g 4 _ rfl) ?_
  refine lv_iconst K.1.1 K.1.2.1 (dq 50 rfl) (v := 0) rfl ?_
  refine a_daldw K hP2 (dq 51 rfl) ?_
  refine lv_aload K.1.1 K.1.2.1 (dq 52 rfl) (g 4 _ rfl) ?_
  refine lv_iconst K.1.1 K.1.2.1 (dq 53 rfl) (v := 0) rfl ?_
  refine a_daldw K hP2 (dq 54 rfl) ?_
  rw [c3]
  refine lv_dcmp K.1.1 K.1.2.1 (dq 55 rfl) ?_
  refine lv_if_eq K.1.1 K.1.2.1 (dq 56 rfl) (tgt := 2314) rfl (fun c5 => absurd c5 c4) (fun _ => ?_)
  refine lv_dload K.1.1 K.1.2.1 (dq 57 rfl) h7 ?_
  refine lv_dload K.1.1 K.1.2.1 (dq 58 rfl) h7 ?_
  refine lv_dcmp K.1.1 K.1.2.1 (dq 59 rfl) ?_
  refine lv_if_ne K.1.1 K.1.2.1 (dq 60 rfl) (tgt := 2316) rfl (fun _ => ?_) (fun c5 => absurd c5 c4)
  refine lv_goto K.1.1 K.1.2.1 (dq 63 rfl) (tgt := 2476) rfl ?_
  exact fin _ rfl h
def p_lc (xs : Nat → Int32) (L : Nat) (i : Int32) (σ : Sg) : Option Sg := match (xs i.toNatClampNeg &&& 63).toNatClampNeg with
  | 0 => p_lc_0 xs L i σ
  | 1 => p_lc_1 xs L i σ
  | 2 => p_lc_2 xs L i σ
  | 3 => p_lc_3 xs L i σ
  | 4 => p_lc_4 xs L i σ
  | 5 => p_lc_5 xs L i σ
  | 6 => p_lc_6 xs L i σ
  | 7 => p_lc_7 xs L i σ
  | 8 => p_lc_8 xs L i σ
  | 9 => p_lc_9 xs L i σ
  | 10 => p_lc_10 xs L i σ
  | 11 => p_lc_11 xs L i σ
  | 12 => p_lc_12 xs L i σ
  | 13 => p_lc_13 xs L i σ
  | 14 => p_lc_14 xs L i σ
  | 15 => p_lc_15 xs L i σ
  | 16 => p_lc_16 xs L i σ
  | 17 => p_lc_17 xs L i σ
  | 18 => p_lc_18 xs L i σ
  | 19 => p_lc_19 xs L i σ
  | 20 => p_lc_20 xs L i σ
  | 21 => p_lc_21 xs L i σ
  | 22 => p_lc_22 xs L i σ
  | 23 => p_lc_23 xs L i σ
  | 24 => p_lc_24 xs L i σ
  | 25 => p_lc_25 xs L i σ
  | 26 => p_lc_26 xs L i σ
  | 27 => p_lc_27 xs L i σ
  | 28 => p_lc_28 xs L i σ
  | 29 => p_lc_29 xs L i σ
  | 30 => p_lc_30 xs L i σ
  | 31 => p_lc_31 xs L i σ
  | 32 => p_lc_32 xs L i σ
  | 33 => p_lc_33 xs L i σ
  | 34 => p_lc_34 xs L i σ
  | 35 => p_lc_35 xs L i σ
  | 36 => p_lc_36 xs L i σ
  | 37 => p_lc_37 xs L i σ
  | 38 => p_lc_38 xs L i σ
  | _ => some σ
theorem and63 (x : Int32) : (x &&& 63).toInt = ((x &&& 63).toNatClampNeg : Int) ∧ (x &&& 63).toNatClampNeg ≤ 63 := by
  have h1 : (x &&& 63).toBitVec = x.toBitVec &&& 63#32 := rfl
  have h2 : (x.toBitVec &&& 63#32).toNat ≤ 63 := by
    rw [BitVec.toNat_and]
    exact Nat.and_le_right
  have h3 : (x &&& 63).toInt = ((x.toBitVec &&& 63#32).toNat : Int) := by
    show (x &&& 63).toBitVec.toInt = _
    rw [h1, BitVec.toInt_eq_toNat_of_lt (by omega)]
  have h4 : (x &&& 63).toNatClampNeg = (x.toBitVec &&& 63#32).toNat := by
    show (x &&& 63).toInt.toNat = _
    rw [h3]; simp
  exact ⟨by rw [h3, h4], by rw [h4]; exact h2⟩
set_option maxRecDepth 20000 in
set_option maxHeartbeats 4000000 in
theorem s_lc {l : Launch} {D : va_G} {ty : Nat → ClassId} {ρ : Nat → Nat → Nat} {N0 : Nat} (S : St l ty ρ N0) {xs : Nat → Int32} {L b : Nat} (i : Int32) (σ σ9 : Sg) (h : p_lc xs L i σ = some σ9) {p : Program} {e : Env} {s : State} {m : MethodId} {args : Array Value} {below : List Frame} {meth : Method} {c : Code} {Q : State → Prop} (K : Cx p l s m args meth c code 9 RL ret D ty ρ N0) (hX : va_X b L xs s s.heap) (hbl : b < s.heap.size) (hbA : ¬ N0 ≤ b) {cs ss : Nat} (hcs : cs + 20 ≤ 603072) (hss : ss + 120 ≤ 7207018) (hk : ∀ c9 s9, c9 ≤ cs + 20 → s9 ≤ ss + 120 → WA p l e room_1 s m args below meth c D ty ρ N0 9 Q 2476 [some (.ref b), some (.ref (ρ 0 0)), some (.ref (ρ 20 0)), some (.ref (ρ 30 0)), some (.ref (ρ 31 0)), some (.int i), none, none, none] [] σ9 c9 s9) : WA p l e room_1 s m args below meth c D ty ρ N0 9 Q 44 [some (.ref b), some (.ref (ρ 0 0)), some (.ref (ρ 20 0)), some (.ref (ρ 30 0)), some (.ref (ρ 31 0)), some (.int i), none, none, none] [.int (xs i.toNatClampNeg &&& 63)] σ cs ss := by
  have dq := @tat _ _ dt_lw
  unfold p_lc at h
  have hb : (xs i.toNatClampNeg &&& 63).toInt = ((xs i.toNatClampNeg &&& 63).toNatClampNeg : Int) ∧ (xs i.toNatClampNeg &&& 63).toNatClampNeg ≤ 63 := and63 _
  generalize xs i.toNatClampNeg &&& 63 = v at hb h ⊢
  obtain ⟨hv, hle⟩ := hb
  generalize v.toNatClampNeg = n at hv hle h
  have hn : n = 0 ∨ n = 1 ∨ n = 2 ∨ n = 3 ∨ n = 4 ∨ n = 5 ∨ n = 6 ∨ n = 7 ∨ n = 8 ∨ n = 9 ∨ n = 10 ∨ n = 11 ∨ n = 12 ∨ n = 13 ∨ n = 14 ∨ n = 15 ∨ n = 16 ∨ n = 17 ∨ n = 18 ∨ n = 19 ∨ n = 20 ∨ n = 21 ∨ n = 22 ∨ n = 23 ∨ n = 24 ∨ n = 25 ∨ n = 26 ∨ n = 27 ∨ n = 28 ∨ n = 29 ∨ n = 30 ∨ n = 31 ∨ n = 32 ∨ n = 33 ∨ n = 34 ∨ n = 35 ∨ n = 36 ∨ n = 37 ∨ n = 38 ∨ 39 ≤ n := by omega
  rcases hn with rfl | rfl | rfl | rfl | rfl | rfl | rfl | rfl | rfl | rfl | rfl | rfl | rfl | rfl | rfl | rfl | rfl | rfl | rfl | rfl | rfl | rfl | rfl | rfl | rfl | rfl | rfl | rfl | rfl | rfl | rfl | rfl | rfl | rfl | rfl | rfl | rfl | rfl | rfl | hn
  · exact a_tableIn K (dq 27 rfl) (by rw [hv]; decide) (by rw [hv]; decide) (off := 172) (by rw [hv]; rfl) (tgt := 216) rfl (s_lc_0 S i σ σ9 h K hX hbl hbA hcs hss hk)
  · exact a_tableIn K (dq 27 rfl) (by rw [hv]; decide) (by rw [hv]; decide) (off := 228) (by rw [hv]; rfl) (tgt := 272) rfl (s_lc_1 S i σ σ9 h K hX hbl hbA hcs hss hk)
  · exact a_tableIn K (dq 27 rfl) (by rw [hv]; decide) (by rw [hv]; decide) (off := 296) (by rw [hv]; rfl) (tgt := 340) rfl (s_lc_2 S i σ σ9 h K hX hbl hbA hcs hss hk)
  · exact a_tableIn K (dq 27 rfl) (by rw [hv]; decide) (by rw [hv]; decide) (off := 364) (by rw [hv]; rfl) (tgt := 408) rfl (s_lc_3 S i σ σ9 h K hX hbl hbA hcs hss hk)
  · exact a_tableIn K (dq 27 rfl) (by rw [hv]; decide) (by rw [hv]; decide) (off := 420) (by rw [hv]; rfl) (tgt := 464) rfl (s_lc_4 S i σ σ9 h K hX hbl hbA hcs hss hk)
  · exact a_tableIn K (dq 27 rfl) (by rw [hv]; decide) (by rw [hv]; decide) (off := 476) (by rw [hv]; rfl) (tgt := 520) rfl (s_lc_5 S i σ σ9 h K hX hbl hbA hcs hss hk)
  · exact a_tableIn K (dq 27 rfl) (by rw [hv]; decide) (by rw [hv]; decide) (off := 556) (by rw [hv]; rfl) (tgt := 600) rfl (s_lc_6 S i σ σ9 h K hX hbl hbA hcs hss hk)
  · exact a_tableIn K (dq 27 rfl) (by rw [hv]; decide) (by rw [hv]; decide) (off := 624) (by rw [hv]; rfl) (tgt := 668) rfl (s_lc_7 S i σ σ9 h K hX hbl hbA hcs hss hk)
  · exact a_tableIn K (dq 27 rfl) (by rw [hv]; decide) (by rw [hv]; decide) (off := 692) (by rw [hv]; rfl) (tgt := 736) rfl (s_lc_8 S i σ σ9 h K hX hbl hbA hcs hss hk)
  · exact a_tableIn K (dq 27 rfl) (by rw [hv]; decide) (by rw [hv]; decide) (off := 760) (by rw [hv]; rfl) (tgt := 804) rfl (s_lc_9 S i σ σ9 h K hX hbl hbA hcs hss hk)
  · exact a_tableIn K (dq 27 rfl) (by rw [hv]; decide) (by rw [hv]; decide) (off := 828) (by rw [hv]; rfl) (tgt := 872) rfl (s_lc_10 S i σ σ9 h K hX hbl hbA hcs hss hk)
  · exact a_tableIn K (dq 27 rfl) (by rw [hv]; decide) (by rw [hv]; decide) (off := 908) (by rw [hv]; rfl) (tgt := 952) rfl (s_lc_11 S i σ σ9 h K hX hbl hbA hcs hss hk)
  · exact a_tableIn K (dq 27 rfl) (by rw [hv]; decide) (by rw [hv]; decide) (off := 976) (by rw [hv]; rfl) (tgt := 1020) rfl (s_lc_12 S i σ σ9 h K hX hbl hbA hcs hss hk)
  · exact a_tableIn K (dq 27 rfl) (by rw [hv]; decide) (by rw [hv]; decide) (off := 1044) (by rw [hv]; rfl) (tgt := 1088) rfl (s_lc_13 S i σ σ9 h K hX hbl hbA hcs hss hk)
  · exact a_tableIn K (dq 27 rfl) (by rw [hv]; decide) (by rw [hv]; decide) (off := 1112) (by rw [hv]; rfl) (tgt := 1156) rfl (s_lc_14 S i σ σ9 h K hX hbl hbA hcs hss hk)
  · exact a_tableIn K (dq 27 rfl) (by rw [hv]; decide) (by rw [hv]; decide) (off := 1180) (by rw [hv]; rfl) (tgt := 1224) rfl (s_lc_15 S i σ σ9 h K hX hbl hbA hcs hss hk)
  · exact a_tableIn K (dq 27 rfl) (by rw [hv]; decide) (by rw [hv]; decide) (off := 1255) (by rw [hv]; rfl) (tgt := 1299) rfl (s_lc_16 S i σ σ9 h K hX hbl hbA hcs hss hk)
  · exact a_tableIn K (dq 27 rfl) (by rw [hv]; decide) (by rw [hv]; decide) (off := 1330) (by rw [hv]; rfl) (tgt := 1374) rfl (s_lc_17 S i σ σ9 h K hX hbl hbA hcs hss hk)
  · exact a_tableIn K (dq 27 rfl) (by rw [hv]; decide) (by rw [hv]; decide) (off := 1398) (by rw [hv]; rfl) (tgt := 1442) rfl (s_lc_18 S i σ σ9 h K hX hbl hbA hcs hss hk)
  · exact a_tableIn K (dq 27 rfl) (by rw [hv]; decide) (by rw [hv]; decide) (off := 1454) (by rw [hv]; rfl) (tgt := 1498) rfl (s_lc_19 S i σ σ9 h K hX hbl hbA hcs hss hk)
  · exact a_tableIn K (dq 27 rfl) (by rw [hv]; decide) (by rw [hv]; decide) (off := 1467) (by rw [hv]; rfl) (tgt := 1511) rfl (s_lc_20 S i σ σ9 h K hX hbl hbA hcs hss hk)
  · exact a_tableIn K (dq 27 rfl) (by rw [hv]; decide) (by rw [hv]; decide) (off := 1523) (by rw [hv]; rfl) (tgt := 1567) rfl (s_lc_21 S i σ σ9 h K hX hbl hbA hcs hss hk)
  · exact a_tableIn K (dq 27 rfl) (by rw [hv]; decide) (by rw [hv]; decide) (off := 1579) (by rw [hv]; rfl) (tgt := 1623) rfl (s_lc_22 S i σ σ9 h K hX hbl hbA hcs hss hk)
  · exact a_tableIn K (dq 27 rfl) (by rw [hv]; decide) (by rw [hv]; decide) (off := 1635) (by rw [hv]; rfl) (tgt := 1679) rfl (s_lc_23 S i σ σ9 h K hX hbl hbA hcs hss hk)
  · exact a_tableIn K (dq 27 rfl) (by rw [hv]; decide) (by rw [hv]; decide) (off := 1703) (by rw [hv]; rfl) (tgt := 1747) rfl (s_lc_24 S i σ σ9 h K hX hbl hbA hcs hss hk)
  · exact a_tableIn K (dq 27 rfl) (by rw [hv]; decide) (by rw [hv]; decide) (off := 1759) (by rw [hv]; rfl) (tgt := 1803) rfl (s_lc_25 S i σ σ9 h K hX hbl hbA hcs hss hk)
  · exact a_tableIn K (dq 27 rfl) (by rw [hv]; decide) (by rw [hv]; decide) (off := 1815) (by rw [hv]; rfl) (tgt := 1859) rfl (s_lc_26 S i σ σ9 h K hX hbl hbA hcs hss hk)
  · exact a_tableIn K (dq 27 rfl) (by rw [hv]; decide) (by rw [hv]; decide) (off := 1873) (by rw [hv]; rfl) (tgt := 1917) rfl (s_lc_27 S i σ σ9 h K hX hbl hbA hcs hss hk)
  · exact a_tableIn K (dq 27 rfl) (by rw [hv]; decide) (by rw [hv]; decide) (off := 1917) (by rw [hv]; rfl) (tgt := 1961) rfl (s_lc_28 S i σ σ9 h K hX hbl hbA hcs hss hk)
  · exact a_tableIn K (dq 27 rfl) (by rw [hv]; decide) (by rw [hv]; decide) (off := 1930) (by rw [hv]; rfl) (tgt := 1974) rfl (s_lc_29 S i σ σ9 h K hX hbl hbA hcs hss hk)
  · exact a_tableIn K (dq 27 rfl) (by rw [hv]; decide) (by rw [hv]; decide) (off := 1986) (by rw [hv]; rfl) (tgt := 2030) rfl (s_lc_30 S i σ σ9 h K hX hbl hbA hcs hss hk)
  · exact a_tableIn K (dq 27 rfl) (by rw [hv]; decide) (by rw [hv]; decide) (off := 2054) (by rw [hv]; rfl) (tgt := 2098) rfl (s_lc_31 S i σ σ9 h K hX hbl hbA hcs hss hk)
  · exact a_tableIn K (dq 27 rfl) (by rw [hv]; decide) (by rw [hv]; decide) (off := 2110) (by rw [hv]; rfl) (tgt := 2154) rfl (s_lc_32 S i σ σ9 h K hX hbl hbA hcs hss hk)
  · exact a_tableIn K (dq 27 rfl) (by rw [hv]; decide) (by rw [hv]; decide) (off := 2166) (by rw [hv]; rfl) (tgt := 2210) rfl (s_lc_33 S i σ σ9 h K hX hbl hbA hcs hss hk)
  · exact a_tableIn K (dq 27 rfl) (by rw [hv]; decide) (by rw [hv]; decide) (off := 2210) (by rw [hv]; rfl) (tgt := 2254) rfl (s_lc_34 S i σ σ9 h K hcs hss hk)
  · exact a_tableIn K (dq 27 rfl) (by rw [hv]; decide) (by rw [hv]; decide) (off := 2275) (by rw [hv]; rfl) (tgt := 2319) rfl (s_lc_35 S i σ σ9 h K hX hbl hbA hcs hss hk)
  · exact a_tableIn K (dq 27 rfl) (by rw [hv]; decide) (by rw [hv]; decide) (off := 2331) (by rw [hv]; rfl) (tgt := 2375) rfl (s_lc_36 S i σ σ9 h K hX hbl hbA hcs hss hk)
  · exact a_tableIn K (dq 27 rfl) (by rw [hv]; decide) (by rw [hv]; decide) (off := 2375) (by rw [hv]; rfl) (tgt := 2419) rfl (s_lc_37 S i σ σ9 h K hX hbl hbA hcs hss hk)
  · exact a_tableIn K (dq 27 rfl) (by rw [hv]; decide) (by rw [hv]; decide) (off := 2388) (by rw [hv]; rfl) (tgt := 2432) rfl (s_lc_38 S i σ σ9 h K hX hbl hbA hcs hss hk)
  · have e9 : σ = σ9 := by
      split at h
      all_goals first | omega | exact Option.some.inj h
    subst e9
    exact a_tableOut K (dq 27 rfl) (Or.inr (by rw [hv]; omega)) (tgt := 2476) rfl (hk _ _ (by omega) (by omega))
def p_law_L (xs : Nat → Int32) (L : Nat) : Nat → Int32 → Sg → Option Sg
  | 0, _, _ => none
  | n + 1, i, σ => if Int32.ofNat L - 4 < i then some σ else if ib i L then (p_lc xs L i σ).bind fun r => p_law_L xs L n (i + 4) r else none
set_option maxRecDepth 20000 in
set_option maxHeartbeats 4000000 in
theorem s_law_L {l : Launch} {D : va_G} {ty : Nat → ClassId} {ρ : Nat → Nat → Nat} {N0 : Nat} (S : St l ty ρ N0) {xs : Nat → Int32} {L b : Nat} {p : Program} {e : Env} {s : State} {m : MethodId} {args : Array Value} {below : List Frame} {meth : Method} {c : Code} {Q : State → Prop} (K : Cx p l s m args meth c code 9 RL ret D ty ρ N0) (hX : va_X b L xs s s.heap) (hbl : b < s.heap.size) (hbA : ¬ N0 ≤ b)
    : ∀ (n : Nat) (i : Int32) (σ σ9 : Sg) (cs ss : Nat), p_law_L xs L n i σ = some σ9 → cs + 20 * n ≤ 603072 → ss + 120 * n ≤ 7207018 → (∀ i9 c9 s9, c9 ≤ cs + 20 * n → s9 ≤ ss + 120 * n → WA p l e room_1 s m args below meth c D ty ρ N0 9 Q 2482 [some (.ref b), some (.ref (ρ 0 0)), some (.ref (ρ 20 0)), some (.ref (ρ 30 0)), some (.ref (ρ 31 0)), some (.int i9), none, none, none] [] σ9 c9 s9) → WA p l e room_1 s m args below meth c D ty ρ N0 9 Q 28 [some (.ref b), some (.ref (ρ 0 0)), some (.ref (ρ 20 0)), some (.ref (ρ 30 0)), some (.ref (ρ 31 0)), some (.int i), none, none, none] [] σ cs ss := by
  have dq := @tat _ _ dt_lw
  intro n
  induction n with
  | zero => intro i σ σ9 cs ss h; cases h
  | succ n ih =>
    intro i σ σ9 cs ss h hcs hss hk
    unfold p_law_L at h
    refine a_iload K (dq 16 rfl) rfl ?_
    refine a_aload_n K (dq 17 rfl) rfl rfl ?_
    refine a_slen K hX hbl hbA (dq 18 rfl) ?_
    refine a_iconst K (dq 19 rfl) (v := 4) rfl ?_
    refine a_isub K (dq 20 rfl) ?_
    refine a_icmp_gt K (tgt := 2482) (dq 21 rfl) rfl (fun c1 => ?_) (fun c1 => ?_)
    · obtain rfl := Option.some.inj (ite_t c1 h)
      exact hk i _ _ (by omega) (by omega)
    · have h := ite_f c1 h
      obtain ⟨c2, h⟩ := ib_some h
      obtain ⟨r, hr, h⟩ := bnd h
      refine a_aload_n K (dq 22 rfl) rfl rfl ?_
      refine a_iload K (dq 23 rfl) rfl ?_
      refine a_sld K hX hbl hbA c2 (dq 24 rfl) ?_
      refine a_bipush K (dq 25 rfl) (v := 63) rfl ?_
      refine a_iand K (dq 26 rfl) ?_
      refine s_lc S i σ r hr K hX hbl hbA (by omega) (by omega) (fun c9 s9 h9 h9' => ?_)
      refine a_iinc K (dq 65 rfl) (x := i) (v := i + 4) rfl rfl (Nat.le_of_ble_eq_true rfl) (ls' := [some (.ref b), some (.ref (ρ 0 0)), some (.ref (ρ 20 0)), some (.ref (ρ 30 0)), some (.ref (ρ 31 0)), some (.int (i + 4)), none, none, none]) rfl ?_
      refine a_goto K (tgt := 28) (dq 66 rfl) rfl ?_
      exact ih (i + 4) r σ9 c9 s9 h (by omega) (by omega) (fun i9 c8 s8 h8 h8' => hk i9 c8 s8 (by omega) (by omega))
