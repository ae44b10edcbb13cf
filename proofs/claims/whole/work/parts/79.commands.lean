/-! PURE: commands -/
def wXF (a : AS) (f : Int32) : AS := (aR a, aH a, aS a, aW a, [], f, aL a)
theorem CRel.rd {σ σ' : Sg} {a : AS} (h : Fm [11] icR σ σ') (hC : CRel σ a) : CRel σ' a := by
  have cr : ∀ {i : Nat} {G : Row}, CR σ i G → CR σ' i G := fun hC => hC.rd h (by decide) (by decide)
  obtain ⟨g1, ⟨np, g2, g3, g4, g5⟩, ⟨g6, g7⟩, ⟨g8, g9, g10⟩, ⟨g11, g12⟩, g13, ⟨g14, g15⟩⟩ := hC
  exact ⟨cr g1, ⟨np, g2, (h.1 6 0 1 (by decide)).trans g3, (h.1 6 0 2 (by decide)).trans g4, fun j hj => cr (g5 j hj)⟩, ⟨(h.1 0 0 3 (by decide)).trans g6, fun K hK => cr (g7 K hK)⟩, ⟨(h.1 8 0 0 (by decide)).trans g8, (h.1 8 0 1 (by decide)).trans g9, (h.1 8 0 2 (by decide)).trans g10⟩, ⟨(h.1 9 0 1 (by decide)).trans g11, g12.fm h (by decide)⟩, (h.1 0 0 7 (by decide)).trans g13, ⟨(h.1 12 0 1 (by decide)).trans g14, g15.fm h (by decide)⟩⟩
theorem CRel.wXF {σ σ' : Sg} {a : AS} {f : Int32} (h : Fm [] [(0, 7), (9, 1)] σ σ') (hC : CRel σ a) (h1 : gI σ' 0 0 7 = f) (h2 : gI σ' 9 0 1 = 0) : CRel σ' (wXF a f) := by
  have cr : ∀ {i : Nat} {G : Row}, CR σ i G → CR σ' i G := by
    rintro i G ⟨c0, c1, c2, c3, c4, c5, c6, c7, c8⟩
    exact ⟨(h.1 1 i 0 (by decide)).trans c0, (h.1 1 i 5 (by decide)).trans c1, (h.1 1 i 6 (by decide)).trans c2, (h.1 1 i 7 (by decide)).trans c3, (h.1 1 i 8 (by decide)).trans c4, fun k hk => (h.2.1 5 (by decide) i k).trans (c5 k hk), fun k hk => (h.2.1 2 (by decide) i k).trans (c6 k hk), fun k hk => (h.2.1 3 (by decide) i k).trans (c7 k hk), fun k hk => (h.2.1 4 (by decide) i k).trans (c8 k hk)⟩
  obtain ⟨g1, ⟨np, g2, g3, g4, g5⟩, ⟨g6, g7⟩, ⟨g8, g9, g10⟩, ⟨g11, g12⟩, g13, ⟨g14, g15⟩⟩ := hC
  exact ⟨cr g1, ⟨np, g2, (h.1 6 0 1 (by decide)).trans g3, (h.1 6 0 2 (by decide)).trans g4, fun j hj => cr (g5 j hj)⟩, ⟨(h.1 0 0 3 (by decide)).trans g6, fun K hK => cr (g7 K hK)⟩, ⟨(h.1 8 0 0 (by decide)).trans g8, (h.1 8 0 1 (by decide)).trans g9, (h.1 8 0 2 (by decide)).trans g10⟩, ⟨h2, fun k hk => absurd hk (Nat.not_lt_zero _)⟩, h1, ⟨(h.1 12 0 1 (by decide)).trans g14, g15.fm h (by decide)⟩⟩
theorem MRel.wXF {σ σ' : Sg} {a : AS} {f w : Int32} (h : Fm [] [(20, 8), (20, 13), (20, 14)] σ σ') (hM : MRel σ a w) (q1 : gI σ' 20 0 14 = f) (q2 : gI σ' 20 0 13 = 0) : MRel σ' (wXF a f) w := by
  obtain ⟨h1, ⟨h2, h3⟩, ⟨h4, h5⟩, ⟨h6, h7, h8⟩, ⟨h9, h10⟩, h11, ⟨h12, h13⟩, h14⟩ := hM
  exact ⟨h1.fm h (by decide), ⟨(h.1 20 0 5 (by decide)).trans h2, fun j hj k hk => (h.2.1 22 (by decide) 0 _).trans (h3 j hj k hk)⟩, ⟨(h.1 20 0 4 (by decide)).trans h4, fun K hK k hk => (h.2.1 23 (by decide) 0 k).trans (h5 K hK k hk)⟩, ⟨(h.1 20 0 9 (by decide)).trans h6, (h.1 20 0 10 (by decide)).trans h7, (h.1 20 0 11 (by decide)).trans h8⟩, ⟨q2, fun k hk => absurd hk (Nat.not_lt_zero _)⟩, q1, ⟨(h.1 20 0 16 (by decide)).trans h12, h13.fm h (by decide)⟩, (h.1 20 0 6 (by decide)).trans h14⟩
theorem MRel.within {σ : Sg} {a : AS} {w : Int32} (hM : MRel σ a w) (w' : Int32) : MRel (sI σ 20 0 6 w') a w' := by
  obtain ⟨h1, ⟨h2, h3⟩, ⟨h4, h5⟩, ⟨h6, h7, h8⟩, ⟨h9, h10⟩, h11, ⟨h12, h13⟩, h14⟩ := hM
  have f : ∀ k, k ≠ 6 → gI (sI σ 20 0 6 w') 20 0 k = gI σ 20 0 k := fun k hk => by rw [gI_sI, if_neg (fun q => hk q.2.2)]
  exact ⟨h1, ⟨(f 5 (by decide)).trans h2, h3⟩, ⟨(f 4 (by decide)).trans h4, h5⟩, ⟨(f 9 (by decide)).trans h6, (f 10 (by decide)).trans h7, (f 11 (by decide)).trans h8⟩, ⟨(f 13 (by decide)).trans h9, h10⟩, (f 14 (by decide)).trans h11, ⟨(f 16 (by decide)).trans h12, h13⟩, by rw [gI_sI, if_pos ⟨rfl, rfl, rfl⟩]⟩
theorem MRel.row2 {σ σ' : Sg} {a : AS} {w : Int32} {R : Row × Nat} (h : Fm [21, 27] rm1 σ σ') (hM : MRel σ a w) (h0 : MR σ' R.1) : MRel σ' (wRH a R (aH a)) w := by
  obtain ⟨-, ⟨h2, h3⟩, ⟨h4, h5⟩, ⟨h6, h7, h8⟩, ⟨h9, h10⟩, h11, ⟨h12, h13⟩, h14⟩ := hM
  exact ⟨h0, ⟨(h.1 20 0 5 (by decide)).trans h2, fun j hj k hk => (h.2.1 22 (by decide) 0 _).trans (h3 j hj k hk)⟩, ⟨(h.1 20 0 4 (by decide)).trans h4, fun K hK k hk => (h.2.1 23 (by decide) 0 k).trans (h5 K hK k hk)⟩, ⟨(h.1 20 0 9 (by decide)).trans h6, (h.1 20 0 10 (by decide)).trans h7, (h.1 20 0 11 (by decide)).trans h8⟩, ⟨(h.1 20 0 13 (by decide)).trans h9, h10.fm h (by decide)⟩, (h.1 20 0 14 (by decide)).trans h11, ⟨(h.1 20 0 16 (by decide)).trans h12, h13.fm h (by decide)⟩, (h.1 20 0 6 (by decide)).trans h14⟩
theorem mrel_back {σ σ' : Sg} {a : AS} {w : Int32} {W : Int32 × Int32 × Int32} (h : Fm [21, 27] rm2 σ σ') (hM : MRel σ a w) (h0 : MR σ' (aR a).1) (q0 : gI σ' 20 0 9 = W.1) (q1 : gI σ' 20 0 10 = W.2.1) (q2 : gI σ' 20 0 11 = W.2.2) : MRel σ' (wW a W) w := by
  obtain ⟨-, ⟨h2, h3⟩, ⟨h4, h5⟩, -, ⟨h9, h10⟩, h11, ⟨h12, h13⟩, h14⟩ := hM
  exact ⟨h0, ⟨(h.1 20 0 5 (by decide)).trans h2, fun j hj k hk => (h.2.1 22 (by decide) 0 _).trans (h3 j hj k hk)⟩, ⟨(h.1 20 0 4 (by decide)).trans h4, fun K hK k hk => (h.2.1 23 (by decide) 0 k).trans (h5 K hK k hk)⟩, ⟨q0, q1, q2⟩, ⟨(h.1 20 0 13 (by decide)).trans h9, h10.fm h (by decide)⟩, (h.1 20 0 14 (by decide)).trans h11, ⟨(h.1 20 0 16 (by decide)).trans h12, h13.fm h (by decide)⟩, (h.1 20 0 6 (by decide)).trans h14⟩
/-- only one country changes, none that the relation names -/
theorem CRel.fc1 {σ σ' : Sg} {a : AS} (h : Fc 1 σ σ') (hC : CRel σ a) : CRel σ' a := by
  obtain ⟨g1, ⟨np, g2, g3, g4, g5⟩, ⟨g6, g7⟩, ⟨g8, g9, g10⟩, ⟨g11, g12⟩, g13, ⟨g14, g15⟩⟩ := hC
  have f : ∀ T k, (T = 0 ∨ 6 ≤ T) → gI σ' T 0 k = gI σ T 0 k ∧ gA σ' T 0 k = gA σ T 0 k := fun T k hT => h.1 T 0 k (by omega)
  exact ⟨CR.fc h (by decide) g1, ⟨np, g2, (f 6 1 (by omega)).1.trans g3, (f 6 2 (by omega)).1.trans g4, fun j hj => CR.fc h (by omega) (g5 j hj)⟩, ⟨(f 0 3 (by omega)).1.trans g6, fun K hK => CR.fc h (by decide) (g7 K hK)⟩, ⟨(f 8 0 (by omega)).1.trans g8, (f 8 1 (by omega)).1.trans g9, (f 8 2 (by omega)).1.trans g10⟩, ⟨(f 9 1 (by omega)).1.trans g11, fun k hk => (f 10 k (by omega)).2.trans (g12 k hk)⟩, (f 0 7 (by omega)).1.trans g13, ⟨(f 12 1 (by omega)).1.trans g14, fun k hk => (f 13 k (by omega)).2.trans (g15 k hk)⟩⟩
theorem CR.fq {i : Nat} {σ σ' : Sg} {G : Row} (h : Fq σ σ') (hi : i ≠ 0) (hC : CR σ i G) : CR σ' i G := by
  obtain ⟨c0, c1, c2, c3, c4, c5, c6, c7, c8⟩ := hC
  have f : ∀ T k, T ≤ 5 → gI σ' T i k = gI σ T i k ∧ gA σ' T i k = gA σ T i k := fun T k hT => by
    have := h.1 T i k (fun q => hi q.2.2) (by omega) (by omega) (by omega) (by omega)
    exact ⟨this.2 (by omega), this.1⟩
  exact ⟨(f 1 0 (by omega)).1.trans c0, (f 1 5 (by omega)).1.trans c1, (f 1 6 (by omega)).1.trans c2, (f 1 7 (by omega)).1.trans c3, (f 1 8 (by omega)).1.trans c4, fun k hk => (f 5 k (by omega)).2.trans (c5 k hk), fun k hk => (f 2 k (by omega)).2.trans (c6 k hk), fun k hk => (f 3 k (by omega)).2.trans (c7 k hk), fun k hk => (f 4 k (by omega)).2.trans (c8 k hk)⟩
theorem CRel.fq {σ σ' : Sg} {a : AS} {R : Row × Nat} {W : Int32 × Int32 × Int32} (h : Fq σ σ') (hC : CRel σ a) (h0 : CR σ' 0 R.1) (q0 : gI σ' 8 0 0 = W.1) (q1 : gI σ' 8 0 1 = W.2.1) (q2 : gI σ' 8 0 2 = W.2.2) : CRel σ' (R, aH a, aS a, W, aX a, aF a, aL a) := by
  obtain ⟨-, ⟨np, g2, g3, g4, g5⟩, ⟨g6, g7⟩, -, ⟨g11, g12⟩, g13, ⟨g14, g15⟩⟩ := hC
  have f : ∀ T k, (T = 0 ∨ 6 ≤ T) → T ≠ 14 → T ≠ 15 → T ≠ 11 → T ≠ 8 → ¬ (T = 9 ∧ (k = 2 ∨ k = 3 ∨ k = 5 ∨ k = 6)) → gI σ' T 0 k = gI σ T 0 k := fun T k hT a1 a2 a3 a4 a5 => (h.1 T 0 k (by omega) a1 a2 a3 a4).2 a5
  have g : ∀ T k, (T = 0 ∨ 6 ≤ T) → T ≠ 14 → T ≠ 15 → T ≠ 11 → T ≠ 8 → gA σ' T 0 k = gA σ T 0 k := fun T k hT a1 a2 a3 a4 => (h.1 T 0 k (by omega) a1 a2 a3 a4).1
  exact ⟨h0, ⟨np, g2, (f 6 1 (by omega) (by decide) (by decide) (by decide) (by decide) (by decide)).trans g3, (f 6 2 (by omega) (by decide) (by decide) (by decide) (by decide) (by decide)).trans g4, fun j hj => CR.fq h (by omega) (g5 j hj)⟩, ⟨(f 0 3 (by omega) (by decide) (by decide) (by decide) (by decide) (by decide)).trans g6, fun K hK => CR.fq h (by decide) (g7 K hK)⟩, ⟨q0, q1, q2⟩, ⟨(f 9 1 (by omega) (by decide) (by decide) (by decide) (by decide) (by decide)).trans g11, fun k hk => (g 10 k (by omega) (by decide) (by decide) (by decide) (by decide)).trans (g12 k hk)⟩, (f 0 7 (by omega) (by decide) (by decide) (by decide) (by decide) (by decide)).trans g13, ⟨(f 12 1 (by omega) (by decide) (by decide) (by decide) (by decide) (by decide)).trans g14, fun k hk => (g 13 k (by omega) (by decide) (by decide) (by decide) (by decide)).trans (g15 k hk)⟩⟩
theorem cl_of {T : Nat} (h : T ∉ clTags) : 17 ≤ T := by
  rcases Nat.lt_or_ge T 17 with h2 | h2
  · exact absurd (show T ∈ clTags by
      simp only [clTags, List.mem_cons, List.not_mem_nil, or_false]; omega) h
  · exact h2
theorem Fq.toCl {σ σ' : Sg} (h : Fq σ σ') : Fr clTags σ σ' := ⟨fun T hT i k => by
  have h17 := cl_of hT
  have := h.1 T i k (by omega) (by omega) (by omega) (by omega) (by omega)
  exact ⟨this.2 (by omega), this.1⟩, h.2⟩
theorem Fc.toCl {i : Nat} {σ σ' : Sg} (h : Fc i σ σ') : Fr clTags σ σ' := ⟨fun T hT j k => by
  have h17 := cl_of hT
  exact h.1 T j k (by omega), h.2⟩
theorem fm_cl {A : List Nat} {I : List (Nat × Nat)} {σ σ' : Sg} (h : Fm A I σ σ') (hA : ∀ T ∈ A, T < 17) (hI : ∀ q ∈ I, q.1 < 17) : Fr clTags σ σ' := ⟨fun T hT i k => by
  have h17 := cl_of hT
  exact ⟨h.1 T i k (fun q => by have := hI _ q; simp only at this; omega), h.2.1 T (fun q => by have := hA _ q; omega) i k⟩, h.2.2⟩
theorem CR.fc0 {i j : Nat} {σ σ' : Sg} {G : Row} (h : Fc i σ σ') (hi : j ≠ i) (hC : CR σ j G) : CR σ' j G := CR.fc h hi hC
theorem cmd_commands : Cmd p_X6_commands p_X7_commands (e12 eIA eUO) := by
  intro s hA
  obtain ⟨i1, i2, i3, i4, i5, i6, i7⟩ := id hA
  obtain ⟨X, hXe⟩ : ∃ X, X = aX s := ⟨_, rfl⟩
  have hX : X.length ≤ 60 := by rw [hXe]; exact i5
  have hN : ∀ x ∈ X, nch x = x := by rw [hXe]; exact i7
  -- how reading starts
  have cst : ∀ σ, CRel σ s → TC (sI σ 9 0 2 0) X X := fun σ hC => by
    obtain ⟨c1, c2⟩ := hC.2.2.2.2.1
    exact ⟨by rw [gI_sI, if_neg (by decide), hXe]; exact c1, by rw [hXe]; exact c2, [], rfl, by rw [gI_sI, if_pos ⟨rfl, rfl, rfl⟩]; rfl⟩
  have mst : ∀ σ, MRel σ s 0 → TM (sI (sI σ 20 0 19 0) 20 0 21 0) X X ∧ gI (sI (sI σ 20 0 19 0) 20 0 21 0) 20 0 21 = nI 0 := fun σ hM => by
    obtain ⟨c1, c2⟩ := hM.2.2.2.2.1
    refine ⟨⟨?_, by rw [hXe]; exact c2, [], rfl, ?_⟩, by rw [gI_sI, if_pos ⟨rfl, rfl, rfl⟩]; rfl⟩
    · rw [gI_sI, if_neg (by decide), gI_sI, if_neg (by decide), hXe]; exact c1
    · rw [gI_sI, if_neg (by decide), gI_sI, if_pos ⟨rfl, rfl, rfl⟩]; rfl
  have fc0 : ∀ σ, Fm [11] icR σ (sI σ 9 0 2 0) := fun σ => Fm.sI (by decide)
  have fm0 : ∀ σ, Fm [28] imR σ (sI (sI σ 20 0 19 0) 20 0 21 0) := fun σ => (Fm.sI (by decide)).trans (Fm.sI (by decide))
  have scR : Sc [28] imR := ⟨by decide, by decide⟩
  have AI : ∀ (R : Row × Nat) (H : List (Row × Nat)) (W : Int32 × Int32 × Int32) (f : Int32), Inv R.1 R.2 → (∀ K ∈ H, Inv K.1 K.2) → H.length ≤ 8 → AInv (R, H, aS s, W, [], f, aL s) := fun R H W f h1 h2 h3 => ⟨h1, h2, i3, h3, by show 0 ≤ 60; omega, i6, fun x hx => absurd hx List.not_mem_nil⟩
  rcases scan hX hN X.length X 0 (Nat.le_refl _) (by omega) with ⟨Y', gc, gm⟩ | ⟨l, l0, l1, l2, gc, gm⟩
  · -- a fault
    refine ⟨.inr 1, wXF s (nI (X.length - Y'.length)), AI _ _ _ _ i1 i2 i4, fun σ hC => ?_, fun σ hM => ?_⟩
    · obtain ⟨σ1, e1, t1, f1⟩ := gc (sI σ 9 0 2 0) 400 (by omega) (cst σ hC)
      obtain ⟨-, -, Z, z1, z2⟩ := t1
      have hz : Z.length = X.length - Y'.length := by rw [z1, List.length_append]; omega
      have hz60 : Z.length ≤ 60 := by omega
      rw [hz] at z2
      have hC1 : CRel σ1 s := (hC.rd (fc0 σ)).rd f1
      obtain ⟨σ2, hσ2⟩ : ∃ σ2, σ2 = sI (sI σ1 0 0 7 (nI (X.length - Y'.length))) 9 0 1 0 := ⟨_, rfl⟩
      have f2 : Fm [] [(0, 7), (9, 1)] σ1 σ2 := by rw [hσ2]; exact (Fm.sI (by decide)).trans (Fm.sI (by decide))
      have q7 : gI σ2 0 0 7 = nI (X.length - Y'.length) := by rw [hσ2, gI_sI, if_neg (by decide), gI_sI, if_pos ⟨rfl, rfl, rfl⟩]
      have q7' : gI (sI σ1 0 0 7 (nI (X.length - Y'.length))) 0 0 7 = nI (X.length - Y'.length) := by rw [gI_sI, if_pos ⟨rfl, rfl, rfl⟩]
      refine ⟨_, σ2, ?_, hC1.wXF f2 q7 (by rw [hσ2, gI_sI, if_pos ⟨rfl, rfl, rfl⟩]), (fm_cl ((fc0 σ).trans f1) (by decide) (by decide)).trans (fm_cl f2 (by decide) (by decide)), rfl⟩
      have e2 : p_X4_countCommands σ = some (-1, σ1) := by
        unfold p_X4_countCommands p_X4_startReading
        rw [bS]
        exact e1
      have hne : ¬ nI (X.length - Y'.length) = -1 := ne_m1 (by omega)
      unfold p_X6_commands p_X4_position p_X4_clear
      rw [e2, bS, if_pos rfl, bS, z2, q7', if_neg hne, bS, ← hσ2, q7, if_neg hne]
      rfl
    · obtain ⟨ts, t21⟩ := mst σ hM
      obtain ⟨σ1, e1, t1, f1⟩ := gm _ 400 (by omega) ts t21
      obtain ⟨-, -, Z, z1, z2⟩ := t1
      have hz : Z.length = X.length - Y'.length := by rw [z1, List.length_append]; omega
      rw [hz] at z2
      have hM1 : MRel σ1 s 0 := (hM.fm (fm0 σ) scR).fm f1 scR
      obtain ⟨σ2, hσ2⟩ : ∃ σ2, σ2 = sI (sI (sI σ1 20 0 14 (nI (X.length - Y'.length))) 20 0 13 0) 20 0 8 1 := ⟨_, rfl⟩
      have f2 : Fm [] [(20, 8), (20, 13), (20, 14)] σ1 σ2 := by rw [hσ2]; exact ((Fm.sI (by decide)).trans (Fm.sI (by decide))).trans (Fm.sI (by decide))
      refine ⟨0, σ2, ?_, hM1.wXF f2 ?_ ?_, (((fm0 σ).trans f1).mono (by decide) (by decide)).trans (f2.mono (by decide) (by decide)), ?_, Or.inl rfl⟩
      · have e2 : p_X7_isText σ = some (0, σ1) := e1
        unfold p_X7_commands
        rw [e2, bS, if_pos rfl, if_pos rfl, z2, mf1, bS, if_neg n10, hσ2]
      · rw [hσ2, gI_sI, if_neg (by decide), gI_sI, if_neg (by decide), gI_sI, if_pos ⟨rfl, rfl, rfl⟩]
      · rw [hσ2, gI_sI, if_neg (by decide), gI_sI, if_pos ⟨rfl, rfl, rfl⟩]
      · rw [hσ2]; exact s8g _ 1
  · -- a text without fault
    rw [Nat.zero_add] at l1
    have hl0 : 0 < l.length := List.length_pos_iff.mpr l0
    -- the class, up to the first command
    have cpre : ∀ σ, CRel σ s → ∃ σ3, CRel σ3 (wXF s (-1)) ∧ True ∧ Fr clTags σ σ3 := fun σ hC => ⟨sI (sI σ 0 0 7 (-1)) 9 0 1 0, hC.wXF ((Fm.sI (by decide)).trans (Fm.sI (by decide))) (by rw [gI_sI, if_neg (by decide), gI_sI, if_pos ⟨rfl, rfl, rfl⟩]) (by rw [gI_sI, if_pos ⟨rfl, rfl, rfl⟩]), trivial, fm_cl (A := []) (I := [(0, 7), (9, 1)]) ((Fm.sI (by decide)).trans (Fm.sI (by decide))) (by decide) (by decide)⟩
    have cgo : ∀ σ, CRel σ s → ∃ σ4, p_X6_commands σ = ((p_X6_carryOutText_L20 400 (nI l.length) 0 σ4).bind fun r7 => if r7.1 = 0 then ((p_X4_clear r7.2).bind fun r9 => if (gI r9 0 0 7) = (-1) then (some (.inr "java/lang/UnsupportedOperationException", r9)) else (some (.inr "java/lang/IllegalArgumentException", r9))) else ((p_X4_clear r7.2).bind fun r12 => if (gI r12 0 0 7) = (-1) then (some (.inl (nI l.length), r12)) else (some (.inr "java/lang/IllegalArgumentException", r12)))) ∧ CRel σ4 (aR s, aH s, aS s, aW s, X, -1, aL s) ∧ CR σ4 1 (aR s).1 ∧ TC σ4 X X ∧ Fr clTags σ σ4 := by
      intro σ hC
      obtain ⟨σ1, e1, f1⟩ := gc (sI σ 9 0 2 0) 400 (by omega) (cst σ hC)
      simp only [Nat.zero_add] at e1
      have hC1 : CRel σ1 s := (hC.rd (fc0 σ)).rd f1
      have e2 : p_X4_countCommands σ = some (nI l.length, σ1) := by
        unfold p_X4_countCommands p_X4_startReading
        rw [bS]
        exact e1
      have q7 : gI (sI σ1 0 0 7 (-1)) 0 0 7 = -1 := by rw [gI_sI, if_pos ⟨rfl, rfl, rfl⟩]
      have hC2 : CRel (sI σ1 0 0 7 (-1)) (aR s, aH s, aS s, aW s, X, -1, aL s) := by
        have f : Fr [0] σ1 (sI σ1 0 0 7 (-1)) := Fr.sI (by simp)
        have cr : ∀ {i : Nat} {G : Row}, CR σ1 i G → CR (sI σ1 0 0 7 (-1)) i G := fun hC => hC.fr f (by decide) (by decide) (by decide) (by decide) (by decide)
        obtain ⟨g1, ⟨np, g2, g3, g4, g5⟩, ⟨g6, g7⟩, ⟨g8, g9, g10⟩, ⟨g11, g12⟩, g13, ⟨g14, g15⟩⟩ := hC1
        refine ⟨cr g1, ⟨np, g2, g3, g4, fun j hj => cr (g5 j hj)⟩, ⟨?_, fun K hK => cr (g7 K hK)⟩, ⟨g8, g9, g10⟩, ⟨?_, ?_⟩, q7, ⟨g14, g15⟩⟩
        · rw [gI_sI, if_neg (by decide)]; exact g6
        · show gI (sI σ1 0 0 7 (-1)) 9 0 1 = nI X.length
          rw [hXe]; exact g11
        · show rowI (sI σ1 0 0 7 (-1)) 10 X
          rw [hXe]; exact g12
      obtain ⟨σ3, e3, g3, f3⟩ := c_copyFrom (i := 1) (j := 0) (by decide) (sI σ1 0 0 7 (-1))
      have hC3 := hC2.fc1 f3
      have hb3 : CR σ3 1 (aR s).1 := g3 _ hC2.1
      have f4 : Fm [11] icR σ3 (sI σ3 9 0 2 0) := Fm.sI (by decide)
      have hC4 := hC3.rd f4
      refine ⟨sI σ3 9 0 2 0, ?_, hC4, hb3.rd f4 (by decide) (by decide), ?_, ((fm_cl ((fc0 σ).trans f1) (by decide) (by decide)).trans (fm_cl (A := []) (I := [(0, 7)]) (Fm.sI (by decide)) (by decide) (by decide))).trans (f3.toCl.trans (fm_cl f4 (by decide) (by decide)))⟩
      · unfold p_X6_commands p_X6_carryOutText p_X4_startReading
        rw [e2, bS, if_neg (show ¬ nI l.length = -1 from ne_m1 (by omega)), q7, if_pos rfl, e3, bS, bS]
      · obtain ⟨c1, c2⟩ := hC3.2.2.2.2.1
        exact ⟨by rw [gI_sI, if_neg (by decide)]; exact c1, c2, [], rfl, by rw [gI_sI, if_pos ⟨rfl, rfl, rfl⟩]; rfl⟩
    -- the reference, up to the first command
    have mgo : ∀ σ, MRel σ s 0 → ∃ σ4, p_X7_commands σ = p_X7_commands_L69 400 0 σ4 ∧ MRel σ4 (wXF s (-1)) 1 ∧ (∀ k, k < 44 → gA σ4 24 0 k = (aR s).1 k) ∧ gI σ4 20 0 7 = nI 0 ∧ gI σ4 20 0 8 = 0 ∧ gI σ4 20 0 21 = nI (0 + l.length) ∧ toldIs σ4 0 l ∧ Fm moRows moInts σ σ4 := by
      intro σ hM
      obtain ⟨ts, t21⟩ := mst σ hM
      obtain ⟨σ1, e1, q21, tl, -, f1⟩ := gm _ 400 (by omega) ts t21
      have hM1 : MRel σ1 s 0 := (hM.fm (fm0 σ) scR).fm f1 scR
      obtain ⟨σ2, hσ2⟩ : ∃ σ2, σ2 = sI (sI (sI σ1 20 0 14 (-1)) 20 0 13 0) 20 0 8 0 := ⟨_, rfl⟩
      have f2 : Fm [] [(20, 8), (20, 13), (20, 14)] σ1 σ2 := by rw [hσ2]; exact ((Fm.sI (by decide)).trans (Fm.sI (by decide))).trans (Fm.sI (by decide))
      have hM2 : MRel σ2 (wXF s (-1)) 0 := hM1.wXF f2 (by rw [hσ2, gI_sI, if_neg (by decide), gI_sI, if_neg (by decide), gI_sI, if_pos ⟨rfl, rfl, rfl⟩]) (by rw [hσ2, gI_sI, if_neg (by decide), gI_sI, if_pos ⟨rfl, rfl, rfl⟩])
      obtain ⟨σ3, e3, f3, g3, -⟩ := m_copies (t := 21) (u := 24) (A := 0) (B := 0) (by decide) (by decide) (by decide) (by decide) (by decide) 44 0 400 σ2 (by omega) (by omega)
      have hM3 : MRel σ3 (wXF s (-1)) 0 := hM2.fm f3 ⟨by decide, by decide⟩
      have f4 : Fm [] [(20, 7)] (sI σ3 20 0 6 1) (sI (sI σ3 20 0 6 1) 20 0 7 0) := Fm.sI (by decide)
      have hM4 : MRel (sI (sI σ3 20 0 6 1) 20 0 7 0) (wXF s (-1)) 1 := (hM3.within 1).fm f4 ⟨by decide, by decide⟩
      have f34 : Fm [24] [(20, 6), (20, 7)] σ2 (sI (sI σ3 20 0 6 1) 20 0 7 0) := (f3.mono (by decide) (by decide)).trans ((Fm.sI (by decide)).trans (Fm.sI (by decide)))
      have f24 : Fm [24] [(20, 6), (20, 7), (20, 8), (20, 13), (20, 14)] σ1 (sI (sI σ3 20 0 6 1) 20 0 7 0) := (f2.mono (by decide) (by decide)).trans (f34.mono (by decide) (by decide))
      refine ⟨sI (sI σ3 20 0 6 1) 20 0 7 0, ?_, hM4, fun k hk => ?_, by rw [gI_sI, if_pos ⟨rfl, rfl, rfl⟩]; rfl, ?_, ?_, fun t ht => ?_, (((fm0 σ).trans f1).mono (by decide) (by decide)).trans (f24.mono (by decide) (by decide))⟩
      · have e2 : p_X7_isText σ = some (1, σ1) := e1
        have e4 : p_X7_copies 21 0 24 0 σ2 = some σ3 := e3
        unfold p_X7_commands
        rw [e2, bS, if_neg n10, if_neg n10, mf0, bS, ← hσ2, if_pos rfl, e4, bS]
      · have := g3 k (by omega) hk
        rw [Nat.zero_add] at this
        rw [gA_sI, gA_sI, this]
        have := hM2.1 k hk
        exact this
      · rw [gI_sI, if_neg (by decide), gI_sI, if_neg (by decide), f3.1 20 0 8 (by decide), hσ2]; exact s8g _ 0
      · rw [f24.1 20 0 21 (by decide)]; exact q21
      · obtain ⟨p1, p2⟩ := tl t ht
        exact ⟨(f24.2.1 28 (by decide) 0 _).trans p1, fun u hu => (f24.2.1 28 (by decide) 0 _).trans (p2 u hu)⟩
    rcases run hX hN l 0 (aR s).1 (aR s).2 X i1 l2 (by omega) with ⟨G', n', hI', rc, rm⟩ | ⟨j, y, z, rc, rm⟩
    · -- all are carried out
      refine ⟨.inl (nI l.length), ((G', n'), pushK (aH s) (aR s), aS s, aW s, [], -1, aL s), AI _ _ _ _ hI' (fun K hK => ?_) (pushK_le i4), fun σ hC => ?_, fun σ hM => ?_⟩
      · rcases pushK_mem hK with h | h
        · exact i2 K h
        · rw [h]; exact i1
      · obtain ⟨σ4, e4, c4, b4, t4, f4⟩ := cgo σ hC
        obtain ⟨σ5, e5, c5, f5, w5⟩ := rc σ4 400 (by omega) c4.1 (Or.inr t4)
        rw [Nat.zero_add] at e5
        have e5' : p_X6_carryOutText_L20 400 (nI l.length) 0 σ4 = _ := e5
        have hC5 : CRel σ5 ((G', n'), aH s, aS s, aW s, X, -1, aL s) := c4.fq (R := (G', n')) (W := aW s) f5 c5 ((w5 0).trans c4.2.2.2.1.1) ((w5 1).trans c4.2.2.2.1.2.1) ((w5 2).trans c4.2.2.2.1.2.2)
        obtain ⟨σ6, e6, c6, f6, -⟩ := c_keep hC5 i4 (j := 1) (by omega) (R := aR s) (CR.fq f5 (by decide) b4)
        have f7 : Fm [] [(0, 7), (9, 1)] σ6 (sI σ6 9 0 1 0) := Fm.sI (by decide)
        have q7 : gI (sI σ6 9 0 1 0) 0 0 7 = -1 := by rw [gI_sI, if_neg (by decide)]; exact c6.2.2.2.2.2.1
        refine ⟨_, sI σ6 9 0 1 0, ?_, c6.wXF (f := -1) f7 q7 (by rw [gI_sI, if_pos ⟨rfl, rfl, rfl⟩]), ((f4.trans f5.toCl).trans f6).trans (fm_cl f7 (by decide) (by decide)), rfl⟩
        unfold p_X4_clear at e4
        rw [e4, e5', e6, bS, bS, if_neg n10, bS, q7, if_pos rfl]
      · obtain ⟨σ4, e4, m4, b4, a7, a8, a21, tl, f4⟩ := mgo σ hM
        obtain ⟨v5, σ5, e5, b7, b8, m5, f5⟩ := rm σ4 400 0 (by omega) m4.1 m4.2.2.2.2.2.2.2 a7 a8 a21 tl
        have hM5 : MRel σ5 (wRH (wXF s (-1)) (G', n') (aH s)) 1 := m4.row2 (R := (G', n')) f5 m5
        have hM6 : MRel (sI σ5 20 0 6 0) (wRH (wXF s (-1)) (G', n') (aH s)) 0 := hM5.within 0
        obtain ⟨σ7, e7, m7, f7, k8⟩ := m_keeps hM6 i4 (t := 24) (Or.inr rfl) (R := aR s) (fun k hk => (f5.2.1 24 (by decide) 0 k).trans (b4 k hk))
        have h21 : gI σ5 20 0 21 = nI (0 + l.length) := (f5.1 20 0 21 (by decide)).trans a21
        have c8 : gI (sI σ5 20 0 6 0) 20 0 8 = 0 := by rw [gI_sI, if_neg (by decide)]; exact b8
        have f6 : Fm moRows moInts σ5 (sI σ5 20 0 6 0) := Fm.sI (by decide)
        refine ⟨nI l.length, σ7, ?_, m7, ((f4.trans (f5.mono (by decide) (by decide))).trans f6).trans (f7.mono (by decide) (by decide)), rfl, k8⟩
        rw [e4, e5, p_X7_commands_L69, h21, b7, if_pos (Int32.le_refl _), c8, if_pos (show (0 : Int32) ≤ 0 by decide), e7, bS, f7.1 20 0 21 (by decide), gI_sI, if_neg (by decide), h21, Nat.zero_add]
    · -- one is refused
      refine ⟨.inr 2, (aR s, aH s, aS s, (y, z, nI j), [], -1, aL s), AI _ _ _ _ i1 i2 i4, fun σ hC => ?_, fun σ hM => ?_⟩
      · obtain ⟨σ4, e4, c4, b4, t4, f4⟩ := cgo σ hC
        obtain ⟨σ5, e5, f5, w0, w1, w2⟩ := rc σ4 400 (by omega) c4.1 (Or.inr t4)
        rw [Nat.zero_add] at e5
        have e5' : p_X6_carryOutText_L20 400 (nI l.length) 0 σ4 = _ := e5
        obtain ⟨σ6, e6, g6, f6⟩ := c_copyFrom (i := 0) (j := 1) (by decide) σ5
        have hb5 : CR σ5 1 (aR s).1 := CR.fq f5 (by decide) b4
        have f56 : Fq σ5 σ6 := ⟨fun T i k h1 h2 h3 h4 h5 => ⟨(f6.1 T i k h1).2, fun _ => (f6.1 T i k h1).1⟩, f6.2⟩
        have w : ∀ k, gI σ6 8 0 k = gI σ5 8 0 k := fun k => (f6.1 8 0 k (by omega)).1
        have hC6 : CRel σ6 (aR s, aH s, aS s, (y, z, nI j), X, -1, aL s) := c4.fq (R := aR s) (W := (y, z, nI j)) (f5.trans f56) (g6 _ hb5) ((w 0).trans w0) ((w 1).trans w1) ((w 2).trans w2)
        have f7 : Fm [] [(0, 7), (9, 1)] σ6 (sI σ6 9 0 1 0) := Fm.sI (by decide)
        have q7 : gI (sI σ6 9 0 1 0) 0 0 7 = -1 := by rw [gI_sI, if_neg (by decide)]; exact hC6.2.2.2.2.2.1
        refine ⟨_, sI σ6 9 0 1 0, ?_, hC6.wXF (f := -1) f7 q7 (by rw [gI_sI, if_pos ⟨rfl, rfl, rfl⟩]), ((f4.trans f5.toCl).trans f6.toCl).trans (fm_cl f7 (by decide) (by decide)), rfl⟩
        unfold p_X4_clear at e4
        rw [e4, e5', e6, bS, bS, if_pos rfl, bS, q7, if_pos rfl]
        rfl
      · obtain ⟨σ4, e4, m4, b4, a7, a8, a21, tl, f4⟩ := mgo σ hM
        obtain ⟨v5, σ5, e5, b8, b9, b10, b11, f5⟩ := rm σ4 400 0 (by omega) m4.1 m4.2.2.2.2.2.2.2 a7 a8 a21 tl
        have c8 : gI (sI σ5 20 0 6 0) 20 0 8 = 1 := by rw [gI_sI, if_neg (by decide)]; exact b8
        obtain ⟨σ6, e6, f6, g6, -⟩ := m_copies (t := 24) (u := 21) (A := 0) (B := 0) (by decide) (by decide) (by decide) (by decide) (by decide) 44 0 400 (sI σ5 20 0 6 0) (by omega) (by omega)
        have e6' : p_X7_copies 24 0 21 0 (sI σ5 20 0 6 0) = some σ6 := e6
        have hrow : MR σ6 (aR (wXF s (-1))).1 := fun k hk => by
          have := g6 k (by omega) hk
          rw [Nat.zero_add] at this
          rw [this, gA_sI, f5.2.1 24 (by decide) 0 k]
          exact b4 k hk
        -- the row is taken back at once, then the mark that a text is carried out
        have f56 : Fm [21, 27] rm2 (sI σ4 20 0 6 0) σ6 := by
          have : Fm [21, 27] rm2 (sI σ4 20 0 6 0) (sI σ5 20 0 6 0) := ⟨fun T i k hT => by
            rw [gI_sI, gI_sI]
            by_cases h : T = 20 ∧ i = 0 ∧ k = 6
            · rw [if_pos h, if_pos h]
            · rw [if_neg h, if_neg h]; exact f5.1 T i k hT, fun T hT i k => f5.2.1 T hT i k, f5.2.2⟩
          exact this.trans (f6.mono (by decide) (by decide))
        have hM6 : MRel σ6 (wW (wXF s (-1)) (y, z, nI j)) 0 := mrel_back (W := (y, z, nI j)) f56 (m4.within 0) hrow (by rw [f6.1 20 0 9 (by decide), gI_sI, if_neg (by decide)]; exact b9) (by rw [f6.1 20 0 10 (by decide), gI_sI, if_neg (by decide)]; exact b10) (by rw [f6.1 20 0 11 (by decide), gI_sI, if_neg (by decide)]; exact b11)
        have hM7 : MRel (sI σ6 20 0 8 2) (wW (wXF s (-1)) (y, z, nI j)) 0 := hM6.fm (Fm.sI (A := []) (I := [(20, 8)]) (by simp)) sc2
        have fall : Fm moRows moInts σ (sI σ6 20 0 8 2) := ((f4.trans (f5.mono (by decide) (by decide))).trans (Fm.sI (by decide))).trans ((f6.mono (by decide) (by decide)).trans (Fm.sI (by decide)))
        have key : ∃ x, p_X7_commands_L69 1 v5 σ5 = some (x, sI σ6 20 0 8 2) := by
          have hle : ¬ (1 : Int32) ≤ 0 := by decide
          rw [p_X7_commands_L69, c8, b8, if_neg hle, e6', bS]
          by_cases hv : v5 ≤ 0
          · refine ⟨v5, ?_⟩
            rw [if_pos hv]
            split
            · rfl
            · rw [if_neg n10]
          · refine ⟨0, ?_⟩
            rw [if_neg hv]
            split
            · rfl
            · rw [if_neg n10]
        obtain ⟨x, hx⟩ := key
        exact ⟨x, sI σ6 20 0 8 2, e4.trans (e5.trans hx), hM7, fall, s8g σ6 2, Or.inr rfl⟩
theorem st_27 (xs : Nat → Int32) (L : Nat) (i : Int32) : Step (p_lc_27 xs L i) := by
  intro σ a h
  obtain ⟨r1, r2, q1, q2, q3, q4, a', q5⟩ := step_wrap (pL := p_L_commands) cmd_commands (fun σ v σ1 h => by unfold p_L_commands; rw [h, bS, smL]) (fun σ c σ1 hc h => by unfold p_L_commands; rw [h, bS, smR]; rcases hc with rfl | rfl <;> rfl) σ a h
  refine ⟨r2.2, a', ?_, q5⟩
  unfold p_lc_27
  rw [q1, bS, q2, bS]
  exact tail_ok q3 q4
