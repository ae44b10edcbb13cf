/-! WHAT HOLDS AT THE LAW'S ENTRY -/
def R_law : String := "DroverTracksLaw"
def lw_At (p : Program) (s : State) (m : MethodId) (meth : Method) (c : Code) (b L : Nat) (xs : Nat → Int32) : Prop :=
  p.tables.exec = Jvm.exec ∧ c.code = code ∧ meth.sig.returnType = ret ∧ c.maxLocals = 9 ∧ s.vm.findClass R_law = some m.cls ∧ (∀ w ∈ lw_tbl, w.before #[Value.ref b] s = true) ∧ va_X b L xs s s.heap ∧ b < s.heap.size ∧ meth.locks = false ∧ (Jvm.Cond.and given_1 narrow_1).before #[Value.ref b] s = true
theorem tbp (i : Nat) {w : Cond} (h : tables_1[i]? = some w) : w ∈ lw_tbl := List.mem_append_right _ (List.mem_of_getElem? h)
theorem str_exact : tables_1.all (fun w => match w with
  | .stringRef own k _ => decide (Cond.exactly (.string own k) "java/lang/String" ∈ flatC narrow_1)
  | _ => true) = true := by decide +kernel
theorem kls (s : State) (args : Array Value) (hts : ∀ w ∈ lw_tbl, w.before args s = true) : ∃ D : va_G, ∀ (k : Nat) (q : vw_C), vwCl[k]? = some q → u_Kn s q.1 q.2.1 q.2.2 (D.1 k) (D.2 k) := by
  obtain ⟨c0, i0, h0⟩ := u_known (C := RJ0) (T := TJ0) (N := 2) hts (by decide +kernel) (hts (.instantiable RJ0 4) (tbp 566 (by decide +kernel)))
  obtain ⟨c1, i1, h1⟩ := u_known (C := RJx00060) (T := TJx00060) (N := 6) hts (by decide +kernel) (hts (.instantiable RJx00060 6) (tbp 548 (by decide +kernel)))
  obtain ⟨c2, i2, h2⟩ := u_known (C := RX0) (T := TX0) (N := 3) hts (by decide +kernel) (hts (.instantiable RX0 3) (tbp 75 (by decide +kernel)))
  obtain ⟨c3, i3, h3⟩ := u_known (C := RX1) (T := TX1) (N := 9) hts (by decide +kernel) (hts (.instantiable RX1 9) (tbp 37 (by decide +kernel)))
  obtain ⟨c4, i4, h4⟩ := u_known (C := RX2) (T := TX2) (N := 2) hts (by decide +kernel) (hts (.instantiable RX2 2) (tbp 139 (by decide +kernel)))
  obtain ⟨c5, i5, h5⟩ := u_known (C := RX3) (T := TX3) (N := 3) hts (by decide +kernel) (hts (.instantiable RX3 3) (tbp 94 (by decide +kernel)))
  obtain ⟨c6, i6, h6⟩ := u_known (C := RX4) (T := TX4) (N := 7) hts (by decide +kernel) (hts (.instantiable RX4 7) (tbp 110 (by decide +kernel)))
  obtain ⟨c7, i7, h7⟩ := u_known (C := RX5) (T := TX5) (N := 3) hts (by decide +kernel) (hts (.instantiable RX5 3) (tbp 152 (by decide +kernel)))
  obtain ⟨c8, i8, h8⟩ := u_known (C := RX6) (T := TX6) (N := 11) hts (by decide +kernel) (hts (.instantiable RX6 11) (tbp 29 (by decide +kernel)))
  obtain ⟨c9, i9, h9⟩ := u_known (C := RX7) (T := TX7) (N := 22) hts (by decide +kernel) (hts (.instantiable RX7 22) (tbp 1125 (by decide +kernel)))
  refine ⟨(fun k => [c0, c1, c2, c3, c4, c5, c6, c7, c8, c9].getD k c0, fun k => [i0, i1, i2, i3, i4, i5, i6, i7, i8, i9].getD k i0), ?_⟩
  intro k q hq
  match k, hq with
  | 0, hq => cases hq; exact h0
  | 1, hq => cases hq; exact h1
  | 2, hq => cases hq; exact h2
  | 3, hq => cases hq; exact h3
  | 4, hq => cases hq; exact h4
  | 5, hq => cases hq; exact h5
  | 6, hq => cases hq; exact h6
  | 7, hq => cases hq; exact h7
  | 8, hq => cases hq; exact h8
  | 9, hq => cases hq; exact h9
  | k + 10, hq => simp [vwCl] at hq
theorem arr_prim (s : State) (args : Array Value) {t : FieldType} (h : (Cond.arrayClass t).before args s = true) (hp : ∀ C, t ≠ .object C) : ∃ cA : ClassId, ArrOfT s cA t ∧ va_RA s cA t := by
  obtain ⟨cA, kA, comp, h1, h2, h3⟩ := Cond.arrayClass_spec h
  refine ⟨cA, fun n z => ⟨fun k h => (by cases h), kA, h2, comp, h3⟩, ?_⟩
  cases t with
  | object C => exact absurd rfl (hp C)
  | _ => exact h1
theorem tyss (s : State) (args : Array Value) (hts : ∀ w ∈ lw_tbl, w.before args s = true) : ∃ ty : Nat → ClassId, ∀ (k : Nat) (q : ClassId × FieldType), (tysOf ty)[k]? = some q → ArrOfT s q.1 q.2 ∧ va_RA s q.1 q.2 := by
  obtain ⟨c0, h0⟩ := arr_prim s args (hts (.arrayClass .int) (tbp 73 (by decide +kernel))) (fun _ h => by cases h)
  obtain ⟨c1, h1⟩ := arr_prim s args (hts (.arrayClass .char) (tbp 137 (by decide +kernel))) (fun _ h => by cases h)
  obtain ⟨c3, h3⟩ := arr_prim s args (hts (.arrayClass .long) (tbp 1553 (by decide +kernel))) (fun _ h => by cases h)
  obtain ⟨c4, h4⟩ := arr_prim s args (hts (.arrayClass .double) (tbp 1554 (by decide +kernel))) (fun _ h => by cases h)
  have hO : (Cond.arrayOver (.object RX1)).before args s = true := hts _ (tbp 81 (by decide +kernel))
  obtain ⟨comp, c2, kA, q1, q2, q3, q4, q5⟩ := Cond.arrayOver_spec hO
  refine ⟨fun k => [c0, c1, c2, c3, c4].getD k c0, ?_⟩
  intro k q hq
  match k, hq with
  | 0, hq => cases hq; exact h0
  | 1, hq => cases hq; exact h1
  | 2, hq => cases hq; exact ⟨fun n z => ⟨fun k h => (by cases h), kA, q3, comp, q4⟩, kA, comp, q3, q4, q1, q5⟩
  | 3, hq => cases hq; exact h3
  | 4, hq => cases hq; exact h4
  | k + 5, hq => simp [tysOf] at hq
theorem vof_eq {o n d : String} {v v' : Value} {t : Nat} {A : Nat → Prop} {U : State} {H : Heap} (h : va_OF o n d v t A U H) (h' : va_OF o n d v' t A U H) : v = v' := by
  obtain ⟨cf, k, i, f, cell, h1, -, h3, -, h5, -⟩ := h
  obtain ⟨cf', k', i', f', cell', g1, -, g3, -, g5, -⟩ := h'
  cases Option.some.inj (h1.symm.trans g1)
  cases Option.some.inj (h3.symm.trans g3)
  exact Option.some.inj (h5.symm.trans g5)
theorem world_start {p : Program} {s : State} {m : MethodId} {meth : Method} {c : Code} {b L : Nat} {xs : Nat → Int32} (C0 : lw_At p s m meth c b L xs) :
    ∃ (D : va_G) (ty : Nat → ClassId) (ad av : Nat → Nat), WT D ty s ∧ XT s ∧ ∀ ρ : Nat → Nat → Nat, ρ 40 = ad → ρ 41 = av → Zs ρ s.heap.size s s.heap := by
  obtain ⟨hx, hb, hr, hml, hown, hts, hX, hbl, hlocks, hgv⟩ := C0
  have hq := flat_of_before _ hgv
  have hnw : ∀ c ∈ flatC narrow_1, c.before #[Value.ref b] s = true := fun c hc => hq c (List.mem_append_right _ hc)
  obtain ⟨D, hD⟩ := kls s _ hts
  obtain ⟨ty, hty⟩ := tyss s _ hts
  have hA : ∀ a : Nat, a < s.heap.size → ¬ s.heap.size ≤ a := fun a h => Nat.not_le.mpr h
  obtain ⟨ad, av, hS, hE⟩ : ∃ ad av : Nat → Nat, vk_S 6 shLen shByt ad av (fun q => s.heap.size ≤ q) s s.heap ∧ ∀ i : Nat, i < 6 → (Term.string RX4 (shIx i)).eval #[Value.ref b] s none [] s = some (.ref (ad i)) := by
    have h0 : ∀ i : Nat, ∃ q : Nat × Nat, i < 6 → (Term.string RX4 (shIx i)).eval #[Value.ref b] s none [] s = some (.ref q.1) ∧ va_O "java/lang/String" q.1 (fun q => s.heap.size ≤ q) s s.heap ∧ va_OF "java/lang/String" "coder" "B" (.int 0) q.1 (fun q => s.heap.size ≤ q) s s.heap ∧ va_OF "java/lang/String" "value" "[B" (.ref q.2) q.1 (fun q => s.heap.size ≤ q) s s.heap ∧ va_T .byte q.2 (shLen.getD i 0) (fun j => .int ((shByt.getD i []).getD j 0)) (fun q => s.heap.size ≤ q) s s.heap := by
      intro i
      by_cases hi : i < 6
      · obtain ⟨ad, av, hS, hE⟩ := vk_Sof (args := #[Value.ref b]) (s := s) (N := 1) (tm := fun _ => .string RX4 (shIx i)) (len := [shLen.getD i 0]) (byt := [shByt.getD i []]) (A := fun q => s.heap.size ≤ q)
          (fun k hk => by
            have : k = 0 := by omega
            subst this
            exact (by decide : ∀ i, i < 6 → shLen.getD i 0 < 2 ^ 31) i hi)
          (fun _ _ => hnw _ ((by decide +kernel : ∀ i, i < 6 → Cond.exactly (.string RX4 (shIx i)) "java/lang/String" ∈ flatC narrow_1) i hi))
          (fun _ _ => hnw _ ((by decide +kernel : ∀ i, i < 6 → Cond.eq (.field (.string RX4 (shIx i)) "java/lang/String" "coder" "B") (.int 0) ∈ flatC narrow_1) i hi))
          (fun _ _ => hnw _ ((by decide +kernel : ∀ i, i < 6 → Cond.arrayOf (.field (.string RX4 (shIx i)) "java/lang/String" "value" "[B") .byte ∈ flatC narrow_1) i hi))
          (fun k hk => by
            have : k = 0 := by omega
            subst this
            exact hnw _ ((by decide +kernel : ∀ i, i < 6 → Cond.eq (.length (.field (.string RX4 (shIx i)) "java/lang/String" "value" "[B")) (.int (Int32.ofNat (shLen.getD i 0))) ∈ flatC narrow_1) i hi))
          (fun k hk j hj => by
            have : k = 0 := by omega
            subst this
            exact hnw _ ((by decide +kernel : ∀ i, i < 6 → ∀ j, j < shLen.getD i 0 → Cond.eq (.elem (.field (.string RX4 (shIx i)) "java/lang/String" "value" "[B") (.int (Int32.ofNat j))) (.int ((shByt.getD i []).getD j 0)) ∈ flatC narrow_1) i hi j hj))
          (fun k k' hk hk' hne => absurd (by omega : k = k') hne) hA
        exact ⟨(ad 0, av 0), fun _ => ⟨hE 0 (by decide), hS.1 0 (by decide)⟩⟩
      · exact ⟨(0, 0), fun h => absurd h hi⟩
    obtain ⟨f, hf⟩ := Classical.axiomOfChoice h0
    refine ⟨fun i => (f i).1, fun i => (f i).2, ⟨fun i hi => (hf i hi).2, fun i j hi hj e9 => ?_⟩, fun i hi => (hf i hi).1⟩
    by_cases hij : i = j
    · exact hij
    · exfalso
      have hk := (by decide : ∀ i, i < 6 → ∀ j, j < 6 → i ≠ j → (Int32.ofNat (shLen.getD i 0) ≠ Int32.ofNat (shLen.getD j 0) ∨ (0 < shLen.getD i 0 ∧ 0 < shLen.getD j 0 ∧ (shByt.getD i []).getD 0 0 ≠ (shByt.getD j []).getD 0 0))) i hi j hj hij
      obtain ⟨-, -, -, vi, ti⟩ := hf i hi
      obtain ⟨-, -, -, vj, tj⟩ := hf j hj
      have e9 : (f i).1 = (f j).1 := e9
      rw [e9] at vi
      have ev : (f i).2 = (f j).2 := Value.ref.inj (vof_eq vi vj)
      rw [ev] at ti
      obtain ⟨c1, a1, -, -, -, a5, a6, -⟩ := ti
      obtain ⟨c2, b1, -, -, -, b5, b6, -⟩ := tj
      cases Option.some.inj (a1.symm.trans b1)
      rcases hk with h | ⟨h1, h2, h3⟩
      · exact h (a5.symm.trans b5)
      · exact h3 (Value.int.inj (Option.some.inj ((a6 0 h1).symm.trans (b6 0 h2))))
  have hstr : ∀ own k tx, Cond.stringRef own k tx ∈ tables_1 → ∃ a, vk_R own k tx a s := fun own k tx h => by
    have h2 := List.all_eq_true.mp str_exact _ h
    simp only [decide_eq_true_eq] at h2
    obtain ⟨a, c, cA, kA, q1, -⟩ := Cond.exactly_spec (args := #[Value.ref b]) (first := s) (o := none) (s := s) (idx := []) (t := .string own k) (cls := "java/lang/String") (hnw _ h2)
    exact ⟨a, vk_R.of (A := #[Value.ref b]) (hts _ (List.mem_append_right _ h)) q1⟩
  refine ⟨D, ty, ad, av, ⟨⟨hD, hty⟩, fun C T h => va_Nw.of rfl (hts _ (List.mem_append_right _ h)), hstr, fun C T h => va_Nc.of (hnw _ h), fun x h => va_Nw.of rfl (hts _ (List.mem_append_right _ h))⟩, ⟨va_AO.of (hts (.arrayOver (.object RX1)) (tbp 81 (by decide +kernel))), va_Nw.of rfl (hts (.methodLinkNest RX6 31 yX3_init RX6) (tbp 95 (by decide +kernel)))⟩, ?_⟩
  intro ρ h40 h41
  refine ⟨vx_Zqof (hts _ (tbp 369 (by decide +kernel))) (hts _ (tbp 10 (by decide +kernel))) (hnw _ (by decide +kernel)) hA, vx_Zqof (hts _ (tbp 371 (by decide +kernel))) (hts _ (tbp 10 (by decide +kernel))) (hnw _ (by decide +kernel)) hA, by rw [h40, h41]; exact hS, va_Zof (hts _ (tbp 876 (by decide +kernel))) (hts _ (tbp 18 (by decide +kernel))) (va_eqt (hnw (Cond.eq (.static "java/lang/String" "COMPACT_STRINGS" "Z") (.int 1)) (by decide +kernel))) hA, va_Zqof (hts _ (tbp 892 (by decide +kernel))) (hts _ (tbp 23 (by decide +kernel))) (hnw _ (by decide +kernel)) hA, fun i hi => ?_⟩
  rw [h40]
  exact vk_R.of (A := #[Value.ref b]) (hts _ (List.mem_append_right _ ((by decide +kernel : ∀ i, i < 6 → Cond.stringRef RX4 (shIx i) (shTx i) ∈ tables_1) i hi))) (hE i hi)
