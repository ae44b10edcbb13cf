/-! PURE: rows with one place changed; what a change asks of both sides -/
def up1 (G : Row) (j : Nat) (v : Int32) : Row := fun i => if i = j then v else G i
theorem up1_eq {G : Row} {j : Nat} {v : Int32} : up1 G j v j = v := if_pos rfl
theorem up1_ne {G : Row} {i j : Nat} {v : Int32} (h : i ≠ j) : up1 G j v i = G i := if_neg h
theorem up1_comm {G : Row} {i j : Nat} {v w : Int32} (h : i ≠ j) : up1 (up1 G i v) j w = up1 (up1 G j w) i v := by
  funext x
  by_cases h1 : x = i
  · subst h1; simp [up1, h]
  · simp [up1, h1]
theorem MR.up1 {σ : Sg} {G : Row} (hM : MR σ G) (j : Nat) (v : Int32) : MR (sA σ 21 0 j v) (up1 G j v) := by
  intro k hk
  rw [gA_sA]
  by_cases h : k = j
  · subst h; rw [if_pos ⟨rfl, rfl, rfl⟩, up1_eq]
  · rw [if_neg (fun q => h q.2.2), up1_ne h]; exact hM k hk
section UC
variable {σ : Sg} {G : Row}
theorem CR.uPar (hC : CR σ 0 G) {k : Nat} (hk : k < 12) (v : Int32) : CR (sA σ 3 0 k v) 0 (up1 G (20 + k) v) := by
  obtain ⟨c0, c1, c2, c3, c4, c5, c6, c7, c8⟩ := hC
  refine ⟨c0.trans (up1_ne (by omega)).symm, c1.trans (up1_ne (by omega)).symm, c2.trans (up1_ne (by omega)).symm, c3.trans (up1_ne (by omega)).symm, c4.trans (up1_ne (by omega)).symm, fun j hj => ?_, fun j hj => ?_, fun j hj => ?_, fun j hj => ?_⟩
  · rw [gA_sA, if_neg (by omega), up1_ne (by omega)]; exact c5 j hj
  · rw [gA_sA, if_neg (by omega), up1_ne (by omega)]; exact c6 j hj
  · rw [gA_sA]
    by_cases h : j = k
    · subst h; rw [if_pos ⟨rfl, rfl, rfl⟩, up1_eq]
    · rw [if_neg (fun q => h q.2.2), up1_ne (by omega)]; exact c7 j hj
  · rw [gA_sA, if_neg (by omega), up1_ne (by omega)]; exact c8 j hj
theorem CR.uPref (hC : CR σ 0 G) {k : Nat} (hk : k < 12) (v : Int32) : CR (sA σ 4 0 k v) 0 (up1 G (32 + k) v) := by
  obtain ⟨c0, c1, c2, c3, c4, c5, c6, c7, c8⟩ := hC
  refine ⟨c0.trans (up1_ne (by omega)).symm, c1.trans (up1_ne (by omega)).symm, c2.trans (up1_ne (by omega)).symm, c3.trans (up1_ne (by omega)).symm, c4.trans (up1_ne (by omega)).symm, fun j hj => ?_, fun j hj => ?_, fun j hj => ?_, fun j hj => ?_⟩
  · rw [gA_sA, if_neg (by omega), up1_ne (by omega)]; exact c5 j hj
  · rw [gA_sA, if_neg (by omega), up1_ne (by omega)]; exact c6 j hj
  · rw [gA_sA, if_neg (by omega), up1_ne (by omega)]; exact c7 j hj
  · rw [gA_sA]
    by_cases h : j = k
    · subst h; rw [if_pos ⟨rfl, rfl, rfl⟩, up1_eq]
    · rw [if_neg (fun q => h q.2.2), up1_ne (by omega)]; exact c8 j hj
theorem CR.uToll (hC : CR σ 0 G) {k : Nat} (hk : k < 12) (v : Int32) : CR (sA σ 2 0 k v) 0 (up1 G (8 + k) v) := by
  obtain ⟨c0, c1, c2, c3, c4, c5, c6, c7, c8⟩ := hC
  refine ⟨c0.trans (up1_ne (by omega)).symm, c1.trans (up1_ne (by omega)).symm, c2.trans (up1_ne (by omega)).symm, c3.trans (up1_ne (by omega)).symm, c4.trans (up1_ne (by omega)).symm, fun j hj => ?_, fun j hj => ?_, fun j hj => ?_, fun j hj => ?_⟩
  · rw [gA_sA, if_neg (by omega), up1_ne (by omega)]; exact c5 j hj
  · rw [gA_sA]
    by_cases h : j = k
    · subst h; rw [if_pos ⟨rfl, rfl, rfl⟩, up1_eq]
    · rw [if_neg (fun q => h q.2.2), up1_ne (by omega)]; exact c6 j hj
  · rw [gA_sA, if_neg (by omega), up1_ne (by omega)]; exact c7 j hj
  · rw [gA_sA, if_neg (by omega), up1_ne (by omega)]; exact c8 j hj
theorem CR.uDro (hC : CR σ 0 G) {k : Nat} (hk : k < 3) (v : Int32) : CR (sA σ 5 0 k v) 0 (up1 G (5 + k) v) := by
  obtain ⟨c0, c1, c2, c3, c4, c5, c6, c7, c8⟩ := hC
  refine ⟨c0.trans (up1_ne (by omega)).symm, c1.trans (up1_ne (by omega)).symm, c2.trans (up1_ne (by omega)).symm, c3.trans (up1_ne (by omega)).symm, c4.trans (up1_ne (by omega)).symm, fun j hj => ?_, fun j hj => ?_, fun j hj => ?_, fun j hj => ?_⟩
  · rw [gA_sA]
    by_cases h : j = k
    · subst h; rw [if_pos ⟨rfl, rfl, rfl⟩, up1_eq]
    · rw [if_neg (fun q => h q.2.2), up1_ne (by omega)]; exact c5 j hj
  · rw [gA_sA, if_neg (by omega), up1_ne (by omega)]; exact c6 j hj
  · rw [gA_sA, if_neg (by omega), up1_ne (by omega)]; exact c7 j hj
  · rw [gA_sA, if_neg (by omega), up1_ne (by omega)]; exact c8 j hj
/-- a field: its number in the country, its place in the row -/
theorem CR.uInt (hC : CR σ 0 G) {f j : Nat} (hf : (f = 0 ∧ j = 0) ∨ (f = 5 ∧ j = 1) ∨ (f = 6 ∧ j = 2) ∨ (f = 7 ∧ j = 3) ∨ (f = 8 ∧ j = 4)) (v : Int32) : CR (sI σ 1 0 f v) 0 (up1 G j v) := by
  obtain ⟨c0, c1, c2, c3, c4, c5, c6, c7, c8⟩ := hC
  have key : ∀ f' j', ((f' = 0 ∧ j' = 0) ∨ (f' = 5 ∧ j' = 1) ∨ (f' = 6 ∧ j' = 2) ∨ (f' = 7 ∧ j' = 3) ∨ (f' = 8 ∧ j' = 4)) → gI σ 1 0 f' = G j' → gI (sI σ 1 0 f v) 1 0 f' = up1 G j v j' := by
    intro f' j' h h2
    rw [gI_sI]
    by_cases h3 : f' = f
    · rw [if_pos ⟨rfl, rfl, h3⟩, show j' = j by omega, up1_eq]
    · rw [if_neg (fun q => h3 q.2.2), up1_ne (by omega)]; exact h2
  refine ⟨key 0 0 (by omega) c0, key 5 1 (by omega) c1, key 6 2 (by omega) c2, key 7 3 (by omega) c3, key 8 4 (by omega) c4, fun k hk => ?_, fun k hk => ?_, fun k hk => ?_, fun k hk => ?_⟩
  · rw [gA_sI, up1_ne (by omega)]; exact c5 k hk
  · rw [gA_sI, up1_ne (by omega)]; exact c6 k hk
  · rw [gA_sI, up1_ne (by omega)]; exact c7 k hk
  · rw [gA_sI, up1_ne (by omega)]; exact c8 k hk
end UC
/-- only country 0 and the way change -/
def Fx (σ σ' : Sg) : Prop := (∀ T i k, ¬ (1 ≤ T ∧ T ≤ 5 ∧ i = 0) → T ≠ 14 → T ≠ 15 → gI σ' T i k = gI σ T i k ∧ gA σ' T i k = gA σ T i k) ∧ gL σ' = gL σ ∧ gD σ' = gD σ
theorem Fx.refl {σ : Sg} : Fx σ σ := ⟨fun _ _ _ _ _ _ => ⟨rfl, rfl⟩, rfl, rfl⟩
theorem Fx.trans {a b c : Sg} (h : Fx a b) (g : Fx b c) : Fx a c := ⟨fun T i k h1 h2 h3 => ⟨(g.1 T i k h1 h2 h3).1.trans (h.1 T i k h1 h2 h3).1, (g.1 T i k h1 h2 h3).2.trans (h.1 T i k h1 h2 h3).2⟩, g.2.1.trans h.2.1, g.2.2.trans h.2.2⟩
theorem Fx.fr {σ σ' : Sg} (h : Fr [14, 15] σ σ') : Fx σ σ' := ⟨fun T i k _ h2 h3 => h.1 T (by simp [h2, h3]) i k, h.2⟩
theorem Fx.sA {σ : Sg} {T k : Nat} {x : Int32} (h1 : 1 ≤ T) (h2 : T ≤ 5) : Fx σ (sA σ T 0 k x) := ⟨fun T' i' k' h3 _ _ => ⟨rfl, by rw [gA_sA, if_neg (fun (q : T' = T ∧ i' = 0 ∧ k' = k) => h3 ⟨by omega, by omega, q.2.1⟩)]⟩, rfl, rfl⟩
theorem Fx.sI {σ : Sg} {k : Nat} {x : Int32} : Fx σ (sI σ 1 0 k x) := ⟨fun T' i' k' h3 _ _ => ⟨by rw [gI_sI, if_neg (fun (q : T' = 1 ∧ i' = 0 ∧ k' = k) => h3 ⟨by omega, by omega, q.2.1⟩)], rfl⟩, rfl, rfl⟩
theorem WR.fr {S : List Nat} {σ σ' : Sg} {P : List Nat} (h : Fr S σ σ') (h1 : 14 ∉ S) (h2 : 15 ∉ S) (hW : WR σ P) : WR σ' P := ⟨(h.1 14 h1 0 1).1.trans hW.1, hW.2.1, hW.2.2.fr h h2⟩
theorem PR.fm {A : List Nat} {I : List (Nat × Nat)} {σ σ' : Sg} {P : List Nat} (h : Fm A I σ σ') (h1 : 27 ∉ A) (h2 : (20, 18) ∉ I) (hP : PR σ P) : PR σ' P := ⟨(h.1 20 0 18 h2).trans hP.1, hP.2.1, hP.2.2.fm h h1⟩
theorem Fx.toCl {σ σ' : Sg} (h : Fx σ σ') : Fr clTags σ σ' := ⟨fun T hT i k => by
  have h17 : 17 ≤ T := by
    rcases Nat.lt_or_ge T 17 with h | h
    · exact absurd (show T ∈ clTags by
        simp only [clTags, List.mem_cons, List.not_mem_nil, or_false]; omega) hT
    · exact h
  exact h.1 T i k (by omega) (by omega) (by omega), h.2⟩
theorem CRel.fx {σ σ' : Sg} {a : AS} {R : Row × Nat} (h : Fx σ σ') (hC : CRel σ a) (h0 : CR σ' 0 R.1) : CRel σ' (wRH a R (aH a)) := by
  have cr : ∀ {i : Nat} {G : Row}, i ≠ 0 → CR σ i G → CR σ' i G := by
    rintro i G hi ⟨c0, c1, c2, c3, c4, c5, c6, c7, c8⟩
    have f : ∀ T k, T ≠ 14 → T ≠ 15 → gI σ' T i k = gI σ T i k ∧ gA σ' T i k = gA σ T i k := fun T k => h.1 T i k (fun q => hi q.2.2)
    exact ⟨(f 1 0 (by decide) (by decide)).1.trans c0, (f 1 5 (by decide) (by decide)).1.trans c1, (f 1 6 (by decide) (by decide)).1.trans c2, (f 1 7 (by decide) (by decide)).1.trans c3, (f 1 8 (by decide) (by decide)).1.trans c4, fun k hk => (f 5 k (by decide) (by decide)).2.trans (c5 k hk), fun k hk => (f 2 k (by decide) (by decide)).2.trans (c6 k hk), fun k hk => (f 3 k (by decide) (by decide)).2.trans (c7 k hk), fun k hk => (f 4 k (by decide) (by decide)).2.trans (c8 k hk)⟩
  obtain ⟨-, ⟨np, h2, h3, h4, h5⟩, ⟨h6, h7⟩, ⟨h8, h9, h10⟩, ⟨h11, h12⟩, h13, ⟨h14, h15⟩⟩ := hC
  have f : ∀ T k, (T = 0 ∨ 6 ≤ T) → T ≠ 14 → T ≠ 15 → gI σ' T 0 k = gI σ T 0 k ∧ gA σ' T 0 k = gA σ T 0 k := fun T k hT => h.1 T 0 k (by omega)
  exact ⟨h0, ⟨np, h2, (f 6 1 (by omega) (by decide) (by decide)).1.trans h3, (f 6 2 (by omega) (by decide) (by decide)).1.trans h4, fun j hj => cr (by omega) (h5 j hj)⟩, ⟨(f 0 3 (by omega) (by decide) (by decide)).1.trans h6, fun K hK => cr (by decide) (h7 K hK)⟩, ⟨(f 8 0 (by omega) (by decide) (by decide)).1.trans h8, (f 8 1 (by omega) (by decide) (by decide)).1.trans h9, (f 8 2 (by omega) (by decide) (by decide)).1.trans h10⟩, ⟨(f 9 1 (by omega) (by decide) (by decide)).1.trans h11, fun k hk => (f 10 k (by omega) (by decide) (by decide)).2.trans (h12 k hk)⟩, (f 0 7 (by omega) (by decide) (by decide)).1.trans h13, ⟨(f 12 1 (by omega) (by decide) (by decide)).1.trans h14, fun k hk => (f 13 k (by omega) (by decide) (by decide)).2.trans (h15 k hk)⟩⟩
theorem MRel.row {σ σ' : Sg} {a : AS} {w : Int32} {R : Row × Nat} (h : Fm [21, 27] [(20, 18)] σ σ') (hM : MRel σ a w) (h0 : MR σ' R.1) : MRel σ' (wRH a R (aH a)) w := by
  obtain ⟨-, ⟨h2, h3⟩, ⟨h4, h5⟩, ⟨h6, h7, h8⟩, ⟨h9, h10⟩, h11, ⟨h12, h13⟩, h14⟩ := hM
  exact ⟨h0, ⟨(h.1 20 0 5 (by decide)).trans h2, fun j hj k hk => (h.2.1 22 (by decide) 0 _).trans (h3 j hj k hk)⟩, ⟨(h.1 20 0 4 (by decide)).trans h4, fun K hK k hk => (h.2.1 23 (by decide) 0 k).trans (h5 K hK k hk)⟩, ⟨(h.1 20 0 9 (by decide)).trans h6, (h.1 20 0 10 (by decide)).trans h7, (h.1 20 0 11 (by decide)).trans h8⟩, ⟨(h.1 20 0 13 (by decide)).trans h9, h10.fm h (by decide)⟩, (h.1 20 0 14 (by decide)).trans h11, ⟨(h.1 20 0 16 (by decide)).trans h12, h13.fm h (by decide)⟩, (h.1 20 0 6 (by decide)).trans h14⟩
def wW (a : AS) (W : Int32 × Int32 × Int32) : AS := (aR a, aH a, aS a, W, aX a, aF a, aL a)
theorem CRel.wW {σ σ' : Sg} {a : AS} {W : Int32 × Int32 × Int32} (h : Fr [8, 14, 15] σ σ') (hC : CRel σ a) (q0 : gI σ' 8 0 0 = W.1) (q1 : gI σ' 8 0 1 = W.2.1) (q2 : gI σ' 8 0 2 = W.2.2) : CRel σ' (wW a W) := by
  have cr : ∀ {i : Nat} {G : Row}, CR σ i G → CR σ' i G := fun hC => hC.fr h (by decide) (by decide) (by decide) (by decide) (by decide)
  obtain ⟨g1, ⟨np, g2, g3, g4, g5⟩, ⟨g6, g7⟩, -, ⟨g11, g12⟩, g13, ⟨g14, g15⟩⟩ := hC
  exact ⟨cr g1, ⟨np, g2, (h.1 6 (by decide) 0 1).1.trans g3, (h.1 6 (by decide) 0 2).1.trans g4, fun j hj => cr (g5 j hj)⟩, ⟨(h.1 0 (by decide) 0 3).1.trans g6, fun K hK => cr (g7 K hK)⟩, ⟨q0, q1, q2⟩, ⟨(h.1 9 (by decide) 0 1).1.trans g11, g12.fr h (by decide)⟩, (h.1 0 (by decide) 0 7).1.trans g13, ⟨(h.1 12 (by decide) 0 1).1.trans g14, g15.fr h (by decide)⟩⟩
def reI : List (Nat × Nat) := [(20, 8), (20, 9), (20, 10), (20, 11), (20, 18)]
theorem MRel.wW {σ σ' : Sg} {a : AS} {w : Int32} {W : Int32 × Int32 × Int32} (h : Fm [27] reI σ σ') (hM : MRel σ a w) (q0 : gI σ' 20 0 9 = W.1) (q1 : gI σ' 20 0 10 = W.2.1) (q2 : gI σ' 20 0 11 = W.2.2) : MRel σ' (wW a W) w := by
  obtain ⟨g1, ⟨g2, g3⟩, ⟨g4, g5⟩, -, ⟨g9, g10⟩, g11, ⟨g12, g13⟩, g14⟩ := hM
  exact ⟨g1.fm h (by decide), ⟨(h.1 20 0 5 (by decide)).trans g2, fun j hj k hk => (h.2.1 22 (by decide) 0 _).trans (g3 j hj k hk)⟩, ⟨(h.1 20 0 4 (by decide)).trans g4, fun K hK k hk => (h.2.1 23 (by decide) 0 k).trans (g5 K hK k hk)⟩, ⟨q0, q1, q2⟩, ⟨(h.1 20 0 13 (by decide)).trans g9, g10.fm h (by decide)⟩, (h.1 20 0 14 (by decide)).trans g11, ⟨(h.1 20 0 16 (by decide)).trans g12, g13.fm h (by decide)⟩, (h.1 20 0 6 (by decide)).trans g14⟩
/-- refused, for the reason y with the detail z; or done, with the answer r and the row G' -/
def ReC (k a b c : Int32) (G : Row) (y z : Int32) : Prop := ∀ σ, CR σ 0 G → ∃ σ1, p_X6_isRefused k a b c σ = some (1, σ1) ∧ Fr [8, 14, 15] σ σ1 ∧ gI σ1 8 0 0 = y ∧ gI σ1 8 0 1 = z ∧ gI σ1 8 0 2 = gI σ 8 0 2
def ReM (pm : Sg → Option (Int32 × Sg)) (G : Row) (y z : Int32) : Prop := ∀ σ, MR σ G → ∃ x σ1, pm σ = some (x, σ1) ∧ Fm [27] reI σ σ1 ∧ gI σ1 20 0 8 = 1 ∧ gI σ1 20 0 9 = y ∧ gI σ1 20 0 10 = z ∧ gI σ1 20 0 11 = (if gI σ 20 0 6 = 0 then 0 else gI σ 20 0 7)
def OkC (k a b c : Int32) (G : Row) (r : Int32) (G' : Row) : Prop := (∀ σ, CR σ 0 G → ∃ σ1, p_X6_isRefused k a b c σ = some (0, σ1) ∧ Fr [14, 15] σ σ1) ∧ ∀ σ, CR σ 0 G → ∃ σ1, p_X6_carryOut k a b c σ = some (r, σ1) ∧ CR σ1 0 G' ∧ Fx σ σ1
def OkM (pm : Sg → Option (Int32 × Sg)) (G : Row) (r : Int32) (G' : Row) : Prop := ∀ σ, MR σ G → ∃ σ0, Fm [27] [(20, 18)] σ σ0 ∧ ∀ σk, p_X7_keeps 21 σ0 = some σk → Fm [22] [(20, 5), (20, 8)] σ0 σk → ∃ σ1, pm σ = some (r, σ1) ∧ MR σ1 G' ∧ Fm [21, 27] [(20, 18)] σk σ1
def Chg (k a b c : Int32) (pm : Sg → Option (Int32 × Sg)) : Prop := ∀ G n, Inv G n → (∃ y z, ReC k a b c G y z ∧ ReM pm G y z) ∨ ∃ r G' n', Inv G' n' ∧ OkC k a b c G r G' ∧ OkM pm G r G'
def eUO : String := "java/lang/UnsupportedOperationException"
theorem cmd_chg {k a b c : Int32} {pm : Sg → Option (Int32 × Sg)} (h : Chg k a b c pm) {pc : Sg → Option ((Int32 ⊕ String) × Sg)} (hpc : ∀ σ, pc σ = (p_X6_change k a b c σ).bind fun r1 => sm r1.1 (fun x2 => some (.inl x2, r1.2)) (fun E3 => some (.inr E3, r1.2))) : Cmd pc pm (e12 eUO eNS) := by
  intro s hA
  obtain ⟨i1, i2, i3, i4, i5, i6⟩ := id hA
  rcases h (aR s).1 (aR s).2 i1 with ⟨y, z, hc, hm⟩ | ⟨r, G', n', hI', ⟨hc1, hc2⟩, hm⟩
  · refine ⟨.inr 1, wW s (y, z, 0), ⟨i1, i2, i3, i4, i5, i6⟩, fun σ hC => ?_, fun σ hM => ?_⟩
    · obtain ⟨σ1, e1, f1, q0, q1, -⟩ := hc σ hC.1
      have f2 : Fr [8, 14, 15] σ (sI σ1 8 0 2 0) := f1.trans (Fr.sI (by simp))
      refine ⟨_, sI σ1 8 0 2 0, ?_, hC.wW f2 ?_ ?_ ?_, f2.mono (by decide), rfl⟩
      · rw [hpc, p_X6_change, e1, bS, if_neg (show ¬ (1 : Int32) = 0 by decide), p_X3_keepCommand, bS, bS, smR]
        rfl
      · rw [gI_sI, if_neg (by decide)]; exact q0
      · rw [gI_sI, if_neg (by decide)]; exact q1
      · rw [gI_sI, if_pos ⟨rfl, rfl, rfl⟩]
    · obtain ⟨x, σ1, e1, f1, q8, q9, q10, q11⟩ := hm σ hM.1
      rw [if_pos hM.2.2.2.2.2.2.2] at q11
      exact ⟨x, σ1, e1, hM.wW f1 q9 q10 q11, f1.mono (by decide) (by decide), q8, Or.inl rfl⟩
  · refine ⟨.inl r, wRH s (G', n') (pushK (aH s) (aR s)), ⟨hI', fun K hK => ?_, i3, pushK_le i4, i5, i6⟩, fun σ hC => ?_, fun σ hM => ?_⟩
    · rcases pushK_mem hK with h | h
      · exact i2 K h
      · rw [h]; exact i1
    · obtain ⟨σ1, e1, f1⟩ := hc1 σ hC.1
      have hC1 : CRel σ1 s := hC.fr f1 (by simp)
      obtain ⟨σ2, e2, c2, f2, g2⟩ := c_keep hC1 i4 (j := 0) (by omega) (R := aR s) hC1.1
      obtain ⟨σ3, e3, c3, f3⟩ := hc2 σ2 c2.1
      refine ⟨_, σ3, ?_, c2.fx (R := (G', n')) f3 c3, ((f1.mono (by decide)).trans f2).trans f3.toCl, rfl⟩
      rw [hpc, p_X6_change, e1, bS, if_pos rfl, e2, bS, e3, bS, bS, smL]
    · obtain ⟨σ0, f0, g0⟩ := hm σ hM.1
      have hM0 : MRel σ0 s 0 := hM.fm f0 ⟨by decide, by decide⟩
      obtain ⟨σk, ek, mk, fk, k8⟩ := m_keeps hM0 i4 (t := 21) (Or.inl rfl) (R := aR s) hM0.1
      obtain ⟨σ1, e1, m1, f1⟩ := g0 σk ek fk
      refine ⟨r, σ1, e1, mk.row (R := (G', n')) f1 m1, ((f0.mono (by decide) (by decide)).trans (fk.mono (by decide) (by decide))).trans (f1.mono (by decide) (by decide)), rfl, ?_⟩
      rw [f1.1 20 0 8 (by decide)]; exact k8
theorem on_change {k a b c : Int32} {σ σ1 : Sg} {E : String} (h : p_X6_change k a b c σ = some (.inr E, σ1)) : E = eUO := by
  unfold p_X6_change at h
  obtain ⟨r, _, h⟩ := bnd h
  by_cases h0 : r.1 = 0
  · rw [if_pos h0] at h
    obtain ⟨_, _, h⟩ := bnd h
    obtain ⟨_, _, h⟩ := bnd h
    exact inl_no h
  · rw [if_neg h0] at h
    obtain ⟨_, _, h⟩ := bnd h
    exact inr_of h
theorem on_chg {pc : Sg → Option ((Int32 ⊕ String) × Sg)} {k a b c : Int32} (hpc : ∀ σ, pc σ = (p_X6_change k a b c σ).bind fun r1 => sm r1.1 (fun x2 => some (.inl x2, r1.2)) (fun E3 => some (.inr E3, r1.2))) {σ σ1 : Sg} {E : String} (h : pc σ = some (.inr E, σ1)) : E = eUO := by
  rw [hpc] at h
  obtain ⟨r, h1, h⟩ := bnd h
  obtain ⟨x, σ2⟩ := r
  cases x with
  | inl v => rw [smL] at h; exact inl_no h
  | inr E' =>
    rw [smR] at h
    rw [inr_of h]
    exact on_change h1
