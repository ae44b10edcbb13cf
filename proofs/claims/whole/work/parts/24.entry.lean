/-! FROM THE LAW'S ENTRY TO ITS LOOP -/
def σ0 : Sg := (fun T _ k => match T, k with | 0, 7 => -1 | 14, 2 => -1 | 20, 14 => -1 | _, _ => 0, fun T _ => match T with | 5 => m3 | 21 => upd (upd (upd z0 5 (-1)) 6 (-1)) 7 (-1) | _ => z0, 0, 0)
def rho (o mm a30 a31 : Nat) (c : Nat → Nat) (f : Nat → Nat → Nat) (b : Nat → Nat) (cs : Nat → Nat) (fs : Nat → Nat → Nat) (d ad av : Nat → Nat) (T i : Nat) : Nat :=
  match T with
  | 0 => o
  | 1 => (match i with | 0 => c 0 | 1 => c 1 | 2 => c 2 | n + 3 => cs n)
  | 2 => (match i with | 0 => f 0 0 | 1 => f 1 0 | 2 => f 2 0 | n + 3 => fs n 0)
  | 3 => (match i with | 0 => f 0 1 | 1 => f 1 1 | 2 => f 2 1 | n + 3 => fs n 1)
  | 4 => (match i with | 0 => f 0 2 | 1 => f 1 2 | 2 => f 2 2 | n + 3 => fs n 2)
  | 5 => (match i with | 0 => f 0 3 | 1 => f 1 3 | 2 => f 2 3 | n + 3 => fs n 3)
  | 6 => b 0
  | 7 => b 1
  | 8 => b 2
  | 9 => b 3
  | 10 => b 4
  | 11 => b 5
  | 12 => b 6
  | 13 => b 7
  | 14 => b 8
  | 15 => b 9
  | 16 => b 10
  | 20 => mm
  | 21 => d 0
  | 22 => d 1
  | 23 => d 2
  | 24 => d 3
  | 25 => d 4
  | 26 => d 5
  | 27 => d 6
  | 28 => d 7
  | 30 => a30
  | 31 => a31
  | 40 => ad i
  | 41 => av i
  | _ => 0
def w28 (ty : Nat → ClassId) (o mm a30 a31 : Nat) (c : Nat → Nat) (f : Nat → Nat → Nat) (b : Nat → Nat) (cs : Nat → Nat) (fs : Nat → Nat → Nat) (d : Nat → Nat) : va_W :=
  ((o, .inr (8, g6F c b)) :: g6N ty c f b cs fs) ++ ((mm, .inr (9, g7F d)) :: g7N ty d ++ [(a30, .inl (ty 3, 1, .inr (.inl (fun _ => 0)))), (a31, .inl (ty 4, 1, .inr (.inr (.inr (.inl (fun _ => 0))))))])
def zpos : List ((Nat × Nat) × Nat) := [((0, 0), 0), ((1, 0), 1), ((2, 0), 2), ((3, 0), 3), ((4, 0), 4), ((5, 0), 5), ((1, 1), 6), ((2, 1), 7), ((3, 1), 8), ((4, 1), 9), ((5, 1), 10), ((1, 2), 11), ((2, 2), 12), ((3, 2), 13), ((4, 2), 14), ((5, 2), 15), ((1, 3), 18), ((2, 3), 19), ((3, 3), 20), ((4, 3), 21), ((5, 3), 22), ((1, 4), 23), ((2, 4), 24), ((3, 4), 25), ((4, 4), 26), ((5, 4), 27), ((1, 5), 28), ((2, 5), 29), ((3, 5), 30), ((4, 5), 31), ((5, 5), 32), ((1, 6), 33), ((2, 6), 34), ((3, 6), 35), ((4, 6), 36), ((5, 6), 37), ((1, 7), 38), ((2, 7), 39), ((3, 7), 40), ((4, 7), 41), ((5, 7), 42), ((1, 8), 43), ((2, 8), 44), ((3, 8), 45), ((4, 8), 46), ((5, 8), 47), ((1, 9), 48), ((2, 9), 49), ((3, 9), 50), ((4, 9), 51), ((5, 9), 52), ((1, 10), 53), ((2, 10), 54), ((3, 10), 55), ((4, 10), 56), ((5, 10), 57), ((6, 0), 16), ((7, 0), 17), ((8, 0), 58), ((9, 0), 59), ((10, 0), 60), ((11, 0), 61), ((12, 0), 62), ((13, 0), 63), ((14, 0), 64), ((15, 0), 65), ((16, 0), 66), ((20, 0), 67), ((21, 0), 68), ((22, 0), 69), ((23, 0), 70), ((24, 0), 71), ((25, 0), 72), ((26, 0), 73), ((27, 0), 74), ((28, 0), 75), ((30, 0), 76), ((31, 0), 77)]
theorem zpos_objs : zpos.map (fun x => x.1) = objs := by decide +kernel
theorem zpos_nd : (zpos.map (fun x => x.2)).Nodup := by decide +kernel
theorem k8_at (cs : Nat → Nat) (n j : Nat) (h : j < n) : k8 cs n j = some (cs j) := by
  induction n with
  | zero => omega
  | succ n ih =>
    show va_up (k8 cs n) n (some (cs n)) j = _
    by_cases hj : j = n
    · subst hj; exact va_up_self _ _ _
    · rw [va_up_ne _ _ hj]; exact ih (by omega)

set_option maxRecDepth 40000 in
set_option maxHeartbeats 8000000 in
theorem st_all (D : va_G) (ty : Nat → ClassId) (o mm a30 a31 : Nat) (c : Nat → Nat) (f : Nat → Nat → Nat) (b : Nat → Nat) (cs : Nat → Nat) (fs : Nat → Nat → Nat) (d ad av : Nat → Nat) : ∀ x ∈ zpos, ∃ e : va_E, (w28 ty o mm a30 a31 c f b cs fs d)[x.2]? = some (rho o mm a30 a31 c f b cs fs d ad av x.1.1 x.1.2, e) ∧ ∀ H : Heap, va_at D vwCl (rho o mm a30 a31 c f b cs fs d ad av x.1.1 x.1.2, e) H → va_at D vwCl (rho o mm a30 a31 c f b cs fs d ad av x.1.1 x.1.2, cellOf ty (rho o mm a30 a31 c f b cs fs d ad av) σ0 x.1.1 x.1.2) H := by
  refine List.forall_mem_cons.mpr ⟨⟨_, rfl, fun _ h => h⟩, List.forall_mem_cons.mpr ⟨⟨_, rfl, fun _ h => h⟩, List.forall_mem_cons.mpr ⟨⟨_, rfl, fun _ h => h⟩, List.forall_mem_cons.mpr ⟨⟨_, rfl, fun _ h => h⟩, List.forall_mem_cons.mpr ⟨⟨_, rfl, fun _ h => h⟩, List.forall_mem_cons.mpr ⟨⟨_, rfl, fun _ h => h⟩, List.forall_mem_cons.mpr ⟨⟨_, rfl, fun _ h => h⟩, List.forall_mem_cons.mpr ⟨⟨_, rfl, fun _ h => h⟩, List.forall_mem_cons.mpr ⟨⟨_, rfl, fun _ h => h⟩, List.forall_mem_cons.mpr ⟨⟨_, rfl, fun _ h => h⟩, List.forall_mem_cons.mpr ⟨⟨_, rfl, fun _ h => h⟩, List.forall_mem_cons.mpr ⟨⟨_, rfl, fun _ h => h⟩, List.forall_mem_cons.mpr ⟨⟨_, rfl, fun _ h => h⟩, List.forall_mem_cons.mpr ⟨⟨_, rfl, fun _ h => h⟩, List.forall_mem_cons.mpr ⟨⟨_, rfl, fun _ h => h⟩, List.forall_mem_cons.mpr ⟨⟨_, rfl, fun _ h => h⟩, List.forall_mem_cons.mpr ⟨⟨_, rfl, fun _ h => h⟩, List.forall_mem_cons.mpr ⟨⟨_, rfl, fun _ h => h⟩, List.forall_mem_cons.mpr ⟨⟨_, rfl, fun _ h => h⟩, List.forall_mem_cons.mpr ⟨⟨_, rfl, fun _ h => h⟩, List.forall_mem_cons.mpr ⟨⟨_, rfl, fun _ h => h⟩, List.forall_mem_cons.mpr ⟨⟨_, rfl, fun _ h => h⟩, List.forall_mem_cons.mpr ⟨⟨_, rfl, fun _ h => h⟩, List.forall_mem_cons.mpr ⟨⟨_, rfl, fun _ h => h⟩, List.forall_mem_cons.mpr ⟨⟨_, rfl, fun _ h => h⟩, List.forall_mem_cons.mpr ⟨⟨_, rfl, fun _ h => h⟩, List.forall_mem_cons.mpr ⟨⟨_, rfl, fun _ h => h⟩, List.forall_mem_cons.mpr ⟨⟨_, rfl, fun _ h => h⟩, List.forall_mem_cons.mpr ⟨⟨_, rfl, fun _ h => h⟩, List.forall_mem_cons.mpr ⟨⟨_, rfl, fun _ h => h⟩, List.forall_mem_cons.mpr ⟨⟨_, rfl, fun _ h => h⟩, List.forall_mem_cons.mpr ⟨⟨_, rfl, fun _ h => h⟩, List.forall_mem_cons.mpr ⟨⟨_, rfl, fun _ h => h⟩, List.forall_mem_cons.mpr ⟨⟨_, rfl, fun _ h => h⟩, List.forall_mem_cons.mpr ⟨⟨_, rfl, fun _ h => h⟩, List.forall_mem_cons.mpr ⟨⟨_, rfl, fun _ h => h⟩, List.forall_mem_cons.mpr ⟨⟨_, rfl, fun _ h => h⟩, List.forall_mem_cons.mpr ⟨⟨_, rfl, fun _ h => h⟩, List.forall_mem_cons.mpr ⟨⟨_, rfl, fun _ h => h⟩, List.forall_mem_cons.mpr ⟨⟨_, rfl, fun _ h => h⟩, List.forall_mem_cons.mpr ⟨⟨_, rfl, fun _ h => h⟩, List.forall_mem_cons.mpr ⟨⟨_, rfl, fun _ h => h⟩, List.forall_mem_cons.mpr ⟨⟨_, rfl, fun _ h => h⟩, List.forall_mem_cons.mpr ⟨⟨_, rfl, fun _ h => h⟩, List.forall_mem_cons.mpr ⟨⟨_, rfl, fun _ h => h⟩, List.forall_mem_cons.mpr ⟨⟨_, rfl, fun _ h => h⟩, List.forall_mem_cons.mpr ⟨⟨_, rfl, fun _ h => h⟩, List.forall_mem_cons.mpr ⟨⟨_, rfl, fun _ h => h⟩, List.forall_mem_cons.mpr ⟨⟨_, rfl, fun _ h => h⟩, List.forall_mem_cons.mpr ⟨⟨_, rfl, fun _ h => h⟩, List.forall_mem_cons.mpr ⟨⟨_, rfl, fun _ h => h⟩, List.forall_mem_cons.mpr ⟨⟨_, rfl, fun _ h => h⟩, List.forall_mem_cons.mpr ⟨⟨_, rfl, fun _ h => h⟩, List.forall_mem_cons.mpr ⟨⟨_, rfl, fun _ h => h⟩, List.forall_mem_cons.mpr ⟨⟨_, rfl, fun _ h => h⟩, List.forall_mem_cons.mpr ⟨⟨_, rfl, fun _ h => h⟩, List.forall_mem_cons.mpr ⟨⟨_, rfl, fun _ h => h⟩, List.forall_mem_cons.mpr ⟨⟨_, rfl, fun H h => ?_⟩, List.forall_mem_cons.mpr ⟨⟨_, rfl, fun _ h => h⟩, List.forall_mem_cons.mpr ⟨⟨_, rfl, fun _ h => h⟩, List.forall_mem_cons.mpr ⟨⟨_, rfl, fun _ h => h⟩, List.forall_mem_cons.mpr ⟨⟨_, rfl, fun _ h => h⟩, List.forall_mem_cons.mpr ⟨⟨_, rfl, fun _ h => h⟩, List.forall_mem_cons.mpr ⟨⟨_, rfl, fun _ h => h⟩, List.forall_mem_cons.mpr ⟨⟨_, rfl, fun _ h => h⟩, List.forall_mem_cons.mpr ⟨⟨_, rfl, fun _ h => h⟩, List.forall_mem_cons.mpr ⟨⟨_, rfl, fun _ h => h⟩, List.forall_mem_cons.mpr ⟨⟨_, rfl, fun _ h => h⟩, List.forall_mem_cons.mpr ⟨⟨_, rfl, fun _ h => h⟩, List.forall_mem_cons.mpr ⟨⟨_, rfl, fun _ h => h⟩, List.forall_mem_cons.mpr ⟨⟨_, rfl, fun _ h => h⟩, List.forall_mem_cons.mpr ⟨⟨_, rfl, fun _ h => h⟩, List.forall_mem_cons.mpr ⟨⟨_, rfl, fun _ h => h⟩, List.forall_mem_cons.mpr ⟨⟨_, rfl, fun _ h => h⟩, List.forall_mem_cons.mpr ⟨⟨_, rfl, fun _ h => h⟩, List.forall_mem_cons.mpr ⟨⟨_, rfl, fun _ h => h⟩, List.forall_mem_cons.mpr ⟨⟨_, rfl, fun _ h => h⟩, List.forall_mem_cons.mpr ⟨⟨_, rfl, fun _ h => h⟩, fun _ h => absurd h List.not_mem_nil⟩⟩⟩⟩⟩⟩⟩⟩⟩⟩⟩⟩⟩⟩⟩⟩⟩⟩⟩⟩⟩⟩⟩⟩⟩⟩⟩⟩⟩⟩⟩⟩⟩⟩⟩⟩⟩⟩⟩⟩⟩⟩⟩⟩⟩⟩⟩⟩⟩⟩⟩⟩⟩⟩⟩⟩⟩⟩⟩⟩⟩⟩⟩⟩⟩⟩⟩⟩⟩⟩⟩⟩⟩⟩⟩⟩⟩⟩
  refine (show H[b 1]? = some (vp_cell (ty 2) _) from h).trans ?_
  refine congrArg some ?_
  show arrV (ty 2) 8 (fun j => va_rf (k8 cs 8 j)) = arrV (ty 2) 8 (fun j => va_rf (some (cs j)))
  unfold arrV
  congr 1
theorem st_D {ty : Nat → ClassId} {ws : va_W} {ρ : Nat → Nat → Nat} {N0 : Nat} (h : ∀ x ∈ zpos, ∃ e : va_E, ws[x.2]? = some (ρ x.1.1 x.1.2, e)) (hD : va_D (fun q => N0 ≤ q) ws) (σ : Sg) : va_D (fun q => N0 ≤ q) (WS ty ρ σ) := by
  have key : ∀ (k : Nat) (p : Nat × va_E), (WS ty ρ σ)[k]? = some p → ∃ (x : (Nat × Nat) × Nat) (e : va_E), zpos[k]? = some x ∧ ws[x.2]? = some (p.1, e) := fun k p hk => by
    simp only [WS, List.getElem?_map, Option.map_eq_some_iff] at hk
    obtain ⟨q, hq, rfl⟩ := hk
    rw [← zpos_objs, List.getElem?_map, Option.map_eq_some_iff] at hq
    obtain ⟨x, hx, rfl⟩ := hq
    obtain ⟨e, he⟩ := h x (List.mem_of_getElem? hx)
    exact ⟨x, e, hx, he⟩
  refine ⟨fun i j p q hp hq hpq => ?_, fun k q hq => ?_⟩
  · obtain ⟨x, e, hx, he⟩ := key i p hp
    obtain ⟨y, e', hy, he'⟩ := key j q hq
    have h2 : x.2 = y.2 := hD.1 _ _ _ _ he he' hpq
    have hx' : (zpos.map (fun x => x.2))[i]? = some x.2 := by rw [List.getElem?_map, hx]; rfl
    have hy' : (zpos.map (fun x => x.2))[j]? = some y.2 := by rw [List.getElem?_map, hy]; rfl
    exact (List.getElem?_inj (List.getElem?_eq_some_iff.mp hx').1 zpos_nd).mp (hx'.trans (h2 ▸ hy'.symm))
  · obtain ⟨x, e, hx, he⟩ := key k q hq
    exact hD.2 _ (q.1, e) he
def t_en : List (Nat × Instr × Nat) := [(0, .new 8, 3), (3, .dup, 1), (4, .invokespecial 137, 3), (7, .astore_n 1, 1), (8, .new 138, 3), (11, .dup, 1), (12, .invokespecial 140, 3), (15, .astore_n 2, 1), (16, .iconst 1, 1), (17, .newarray .long, 2), (19, .astore_n 3, 1), (20, .iconst 1, 1), (21, .newarray .double, 2), (23, .astore 4, 2), (25, .iconst 0, 1), (26, .istore 5, 2), (2482, .iconst 1, 1), (2483, .ireturn, 1)]
theorem dt_en : tblOK code t_en = true := by decide +kernel
theorem kl_L_8 : Cond.classLink RL 8 RX6 ∈ GW := gwp 28 (by decide +kernel) rfl
theorem kl_L_138 : Cond.classLink RL 138 RX7 ∈ GW := gwp 1124 (by decide +kernel) rfl
theorem ml_L_137 : Cond.methodLink RL 137 yX6_init ∈ GW := gwp 30 (by decide +kernel) rfl
theorem ml_L_140 : Cond.methodLink RL 140 yX7_init ∈ GW := gwp 1126 (by decide +kernel) rfl
/-- what a walk over the start with the record d0 says of its end, said of the start itself -/
theorem lw_closed {s t : State} {o : Outcome} {d0 : Drawn} {L : List Loc} {k n : Nat} (hd0 : s.drawn.sameBut d0 lw_cs) (hv : ∃ v, o = .returned v) (hW : (s.setDrawn d0).WarmedH t.vm) (hs : (s.setDrawn d0).sameButNew ({ t with vm := s.vm } : State) L k n) : State.butDraws s t lw_cs (fun t1 => Framed s o t1 L k n) := by
  have h2 : t.drawn = d0 := congrArg State.drawn hs.1
  refine ⟨⟨hv, hW, State.sameButNew.setDrawn hs s.drawn⟩, ?_, by decide⟩
  rw [h2]
  exact hd0
def lw_Q (_ : Array Value) (s : State) (o : Outcome) (t : State) : Prop := o = .returned (some (.int 1)) ∧ State.butDraws s t lw_cs (fun t1 => Framed s o t1 [] 603072 7207018)
def lw_Z (below : List Frame) (a : Array Value) (s : State) : State → Prop := fun t => ∃ o, t.status = .running ∧ Ended t below o ∧ lw_Q a s o t
/-- the law's own end, with 1 on the stack, nothing written that was there before, its room as the claim has it; d0: the record of draws at this point (at the entry s.drawn: begin with 'refine W.base ?_' and 'have hd0 := Drawn.sameBut.refl s.drawn lw_cs') -/
theorem lw_ret {p : Program} {l : Launch} {e : Env} {s : State} {m : MethodId} {below : List Frame} {meth : Method} {c : Code} {b : Nat} {d0 : Drawn} (hd0 : s.drawn.sameBut d0 lw_cs) (hx : p.tables.exec = Jvm.exec) (hb : c.code = code) (hr : meth.sig.returnType = ret) (hlocks : meth.locks = false) {pc : Nat} {H : Heap} {ls : Array Slot} (hdg : decode code pc = .ok (.ireturn, 1)) : W p l e room_1 (s.setDrawn d0) m #[Value.ref b] below meth c H [] 603072 7207018 (lw_Z below #[Value.ref b] s) (F0 m pc ls [.int 1]) := by
  intro T hT X
  obtain ⟨fs, hret, hrun, hended, hW, hframe⟩ := X.leave (v := some (.int 1)) (hlocks := hlocks) (fun h => by rw [hr] at h; cases h)
  have hmeth' : T.vm.method? m = some meth := X.method'
  refine ⟨T.setFrames fs, ?_, .returned (some (.int 1)), hrun, hended, rfl, lw_closed hd0 ⟨_, rfl⟩ hW hframe⟩
  jvm_step X.here [X.here.top, hx, hb, hdg, hmeth', hr, ret, narrow_b1]
  (try refine ⟨rfl, ?_⟩); (try refine ⟨rfl, ?_⟩)
  first | (intro acts; rw [hret _ acts rfl rfl rfl]) | rw [hret _ _ rfl rfl rfl]
  exact Steps.refl _
set_option maxRecDepth 40000 in
set_option maxHeartbeats 8000000 in
theorem whole_of (hM : ∀ (xs : Nat → Int32) (L : Nat), L ≤ 2048 → ∃ σ9, p_law_L xs L 513 0 σ0 = some σ9) {p : Program} {e : Env} {s : State} {m : MethodId} {below : List Frame} {meth : Method} {c : Code} (l : Launch) (hflags : l.flags = flags0) {b L : Nat} {xs : Nat → Int32} (hL0 : L ≤ 2048) (C0 : lw_At p s m meth c b L xs) : W p l e room_1 s m #[Value.ref b] below meth c s.heap [] 0 0 (lw_Z below #[Value.ref b] s) (entryFrame m ([Value.ref b] : List Value).toArray 9) := by
  obtain ⟨hx, hb, hr, hml, hown, hts, hX, hbl, hlocks, hgv⟩ := id C0
  obtain ⟨D, ty, ad, av, hWT, hXT, hZ⟩ := world_start C0
  have hfl : l.stackTraces = false := by unfold Launch.stackTraces; rw [hflags]; decide +kernel
  have hwd : ∀ w ∈ GW, w.before #[Value.ref b] s = true := fun w h => hts w (List.mem_filter.mp h).1
  have K : Cb p s m #[Value.ref b] meth c code 9 RL D ty s.heap.size := ⟨⟨hx, hb, hml, hown, hwd⟩, hWT, hXT, Nat.le_refl _⟩
  have dq := @tat _ _ dt_en
  rw [lg_entry_eq]
  refine (show WB p l e room_1 s m #[Value.ref b] below meth c D s.heap.size 9 (lw_Z below #[Value.ref b] s) 0 [some (.ref b), none, none, none, none, none, none, none, none] [] [] 0 0 from ?_) s.heap [] _ (fun k q h => by simp at h) ⟨fun i j p q h => by simp at h, fun k q h => by simp at h⟩ va_S.rf (LR.entry (as := [.ref b]) (by simp [Value.category]) (Nat.le_of_ble_eq_true rfl))
  refine b_new K (ci := 8) (fs := [.null, .null, .null, .int 0, .null, .null, .null, .int 0, .null, .null, .null]) (f := fun o => [(o, .inr (8, [.null, .null, .null, .int 0, .null, .null, .null, .int 0, .null, .null, .null]))]) in_X6 tyX6 tyX6_ok kl_L_8 ci_able_X6 ci_ini_X6 rfl (by intro j hj; rcases (show j = 0 ∨ j = 1 ∨ j = 2 ∨ j = 3 ∨ j = 4 ∨ j = 5 ∨ j = 6 ∨ j = 7 ∨ j = 8 ∨ j = 9 ∨ j = 10 by omega) with rfl | rfl | rfl | rfl | rfl | rfl | rfl | rfl | rfl | rfl | rfl <;> rfl) (by simp only [room_1]; omega) (by simp only [room_1]; omega) (dq 0 rfl) (fun _ => rfl) (fun o => ?_)
  refine b_dup K (dq 1 rfl) rfl ?_
  refine b_callI K (Ψ := (p6 ty)) (q0 := 0) rfl (k_X6 _ 0 o rfl) ci_code_X6 ml_L_137 ci_inst_X6 ci_ini_X6 rfl ⟨by decide, by decide, by decide +kernel⟩ (by constructor <;> (simp only [rmk, room_1]; omega)) (Nat.le_of_ble_eq_true rfl) (dq 2 rfl) (by constructor <;> (simp only [rmk, room_1]; omega)) (fun F1 N1 hΨ => ?_)
  obtain ⟨c6, f6, b6, cs, fs, rfl, rfl⟩ := hΨ
  refine b_eq (ws' := (o, .inr (8, g6F c6 b6)) :: g6N ty c6 f6 b6 cs fs) rfl ?_
  refine b_astore_n K (dq 3 rfl) rfl (by decide) (ls' := [some (.ref b), some (.ref o), none, none, none, none, none, none, none]) rfl ?_
  refine b_new K (ci := 9) (fs := [.null, .null, .null, .null, .int 0, .int 0, .int 0, .int 0, .int 0, .int 0, .int 0, .int 0, .null, .int 0, .int 0, .null, .int 0, .null, .int 0, .int 0, .null, .int 0]) (f := fun mm => ((o, .inr (8, g6F c6 b6)) :: g6N ty c6 f6 b6 cs fs) ++ [(mm, .inr (9, [.null, .null, .null, .null, .int 0, .int 0, .int 0, .int 0, .int 0, .int 0, .int 0, .int 0, .null, .int 0, .int 0, .null, .int 0, .null, .int 0, .int 0, .null, .int 0]))]) in_X7 tyX7 tyX7_ok kl_L_138 ci_able_X7 ci_ini_X7 rfl (by intro j hj; rcases (show j = 0 ∨ j = 1 ∨ j = 2 ∨ j = 3 ∨ j = 4 ∨ j = 5 ∨ j = 6 ∨ j = 7 ∨ j = 8 ∨ j = 9 ∨ j = 10 ∨ j = 11 ∨ j = 12 ∨ j = 13 ∨ j = 14 ∨ j = 15 ∨ j = 16 ∨ j = 17 ∨ j = 18 ∨ j = 19 ∨ j = 20 ∨ j = 21 by omega) with rfl | rfl | rfl | rfl | rfl | rfl | rfl | rfl | rfl | rfl | rfl | rfl | rfl | rfl | rfl | rfl | rfl | rfl | rfl | rfl | rfl | rfl <;> rfl) (by simp only [room_1, rmk]; omega) (by simp only [room_1, rmk]; omega) (dq 4 rfl) (fun _ => rfl) (fun mm => ?_)
  refine b_dup K (dq 5 rfl) rfl ?_
  refine b_callI K (Ψ := (p7 ty)) (q0 := 67) rfl (k_X7 _ 67 mm rfl) ci_code_X7 ml_L_140 ci_inst_X7 ci_ini_X7 rfl ⟨by decide, by decide, by decide +kernel⟩ (by constructor <;> (simp only [rmk, room_1]; omega)) (Nat.le_of_ble_eq_true rfl) (dq 6 rfl) (by constructor <;> (simp only [rmk, room_1]; omega)) (fun F2 N2 hΨ => ?_)
  obtain ⟨b7, rfl, rfl⟩ := hΨ
  refine b_eq (ws' := ((o, .inr (8, g6F c6 b6)) :: g6N ty c6 f6 b6 cs fs) ++ ((mm, .inr (9, g7F b7)) :: g7N ty b7)) rfl ?_
  refine b_astore_n K (dq 7 rfl) rfl (by decide) (ls' := [some (.ref b), some (.ref o), some (.ref mm), none, none, none, none, none, none]) rfl ?_
  refine b_iconst K (dq 8 rfl) (v := 1) rfl ?_
  refine b_newa K (f := fun a30 => ((o, .inr (8, g6F c6 b6)) :: g6N ty c6 f6 b6 cs fs) ++ ((mm, .inr (9, g7F b7)) :: g7N ty b7 ++ [(a30, .inl (ty 3, 1, .inr (.inl (fun _ => 0))))])) (t0 := 3) (atype := .long) (N' := 1) ac_long rfl rfl (fun _ h => by cases h) (fun _ => rfl) (by decide) rfl (by decide) (by simp only [room_1, rmk]; omega) (by simp only [room_1, rmk]; omega) (dq 9 rfl) (fun _ => rfl) (fun a30 => ?_)
  refine b_astore_n K (dq 10 rfl) rfl (by decide) (ls' := [some (.ref b), some (.ref o), some (.ref mm), some (.ref a30), none, none, none, none, none]) rfl ?_
  refine b_iconst K (dq 11 rfl) (v := 1) rfl ?_
  refine b_newa K (f := fun a31 => w28 ty o mm a30 a31 c6 f6 b6 cs fs b7) (t0 := 4) (atype := .double) (a0 := (1, .inr (.inr (.inr (.inl (fun _ => 0)))))) (N' := 1) ac_double rfl rfl (fun _ h => by cases h) (fun _ => rfl) (by decide) rfl (by decide) (by simp only [room_1, rmk]; omega) (by simp only [room_1, rmk]; omega) (dq 12 rfl) (fun _ => rfl) (fun a31 => ?_)
  refine b_astore K (dq 13 rfl) (by decide) (ls' := [some (.ref b), some (.ref o), some (.ref mm), some (.ref a30), some (.ref a31), none, none, none, none]) rfl ?_
  refine b_iconst K (dq 14 rfl) (v := 0) rfl ?_
  refine b_istore K (dq 15 rfl) (by decide) (ls' := [some (.ref b), some (.ref o), some (.ref mm), some (.ref a30), some (.ref a31), some (.int 0), none, none, none]) rfl ?_
  intro H locs lsr hP hD hS hL
  have hall := st_all D ty o mm a30 a31 c6 f6 b6 cs fs b7 ad av
  obtain ⟨ρ, hρ⟩ : ∃ ρ, ρ = rho o mm a30 a31 c6 f6 b6 cs fs b7 ad av := ⟨_, rfl⟩
  have e0 : o = ρ 0 0 := by rw [hρ]; rfl
  have e1 : mm = ρ 20 0 := by rw [hρ]; rfl
  have e2 : a30 = ρ 30 0 := by rw [hρ]; rfl
  have e3 : a31 = ρ 31 0 := by rw [hρ]; rfl
  have e4 : ρ 40 = ad := by rw [hρ]; rfl
  have e5 : ρ 41 = av := by rw [hρ]; rfl
  rw [← hρ] at hall
  have hDD : ∀ σ : Sg, va_D (fun q => s.heap.size ≤ q) (WS ty ρ σ) := fun σ => st_D (fun x hx => by obtain ⟨e, h1, -⟩ := hall x hx; exact ⟨e, h1⟩) hD σ
  have hPP : va_P D vwCl (WS ty ρ σ0) H := fun k q hk => by
    simp only [WS, List.getElem?_map, Option.map_eq_some_iff] at hk
    obtain ⟨q, hq, rfl⟩ := hk
    rw [← zpos_objs, List.getElem?_map, Option.map_eq_some_iff] at hq
    obtain ⟨x, hx, rfl⟩ := hq
    obtain ⟨e, h1, h2⟩ := hall x (List.mem_of_getElem? hx)
    exact h2 H (hP _ _ h1)
  rw [e0, e1, e2, e3] at hL
  have S : St l ty ρ s.heap.size := ⟨hfl, hDD⟩
  have K2 : Cx p l s m #[Value.ref b] meth c code 9 RL ret D ty ρ s.heap.size := ⟨⟨hx, hb, hml, hown, hwd⟩, hWT, hZ ρ e4 e5, Nat.le_refl _, hDD, hlocks, hfl, hr⟩
  obtain ⟨σ9, hσ⟩ := hM xs L hL0
  refine s_law_L S K2 hX hbl (Nat.not_le.mpr hbl) 513 0 σ0 σ9 _ _ hσ (by simp only [rmk]; omega) (by simp only [rmk]; omega) (fun i9 c9 s9 h9 h9' => ?_) H locs lsr hPP hS hL
  refine a_iconst K2 (dq 16 rfl) (v := 1) rfl ?_
  intro H2 locs2 lsr2 hP2 hS2 hL2
  refine W.widen (k := 603072) (n := 7207018) (by simp only [rmk] at h9; omega) (by simp only [rmk] at h9'; omega) ?_
  refine va_forget (fun q hq => hS2.2.2 q hq) ?_
  refine W.base ?_
  exact lw_ret (Drawn.sameBut.refl s.drawn lw_cs) hx hb hr hlocks (dq 17 rfl)
