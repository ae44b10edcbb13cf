/-! PURE: the commands of a text, one after the other -/
theorem bind_eta {x : Option (Int32 × Sg)} : (x.bind fun r => some (r.1, r.2)) = x := by cases x <;> rfl
/-- both sides carry the command out alike, whatever stands in the numbers that it doesn't have -/
def Good (cm : Int32 × List Int32) : Prop := ∃ pm : Sg → Option (Int32 × Sg), Chg cm.1 (cm.2.getD 0 0) (cm.2.getD 1 0) (cm.2.getD 2 0) pm ∧
  (∀ (n0 n1 n2 : Int32) (σ : Sg), (∀ u, u < cm.2.length → [n0, n1, n2].getD u 0 = cm.2.getD u 0) → p_X6_isRefused cm.1 n0 n1 n2 σ = p_X6_isRefused cm.1 (cm.2.getD 0 0) (cm.2.getD 1 0) (cm.2.getD 2 0) σ ∧ p_X6_carryOut cm.1 n0 n1 n2 σ = p_X6_carryOut cm.1 (cm.2.getD 0 0) (cm.2.getD 1 0) (cm.2.getD 2 0) σ) ∧
  ∀ (σ : Sg) (m : Nat), m ≤ 30 → gA σ 28 0 (4 * m) = cm.1 → (∀ u, u < cm.2.length → gA σ 28 0 (4 * m + 1 + u) = cm.2.getD u 0) → p_X7_carries (nI (4 * m)) σ = pm σ
theorem good_of {Y : List Int32} (hok : (rdC Y).1 = true) : Good (hdC Y, (rdC Y).2.1) := by
  have hS : shOf (hdC Y) ≠ [] := fun h => by
    have : rdC Y = (false, [], Y) := if_pos h
    rw [this] at hok; cases hok
  have hr : rdC Y = rdS (shOf (hdC Y)) 1 Y.tail := if_neg hS
  have hlen : (rdC Y).2.1.length = dn (shOf (hdC Y)) := by
    rw [hr] at hok ⊢
    exact (rdS_num _ _ _).2 hok
  obtain ⟨ns, hns⟩ : ∃ ns, ns = (rdC Y).2.1 := ⟨_, rfl⟩
  rw [← hns] at hlen ⊢
  obtain ⟨k, hk⟩ : ∃ k, k = hdC Y := ⟨_, rfl⟩
  rw [← hk] at hlen hS ⊢
  have i0 : ∀ m, m ≤ 30 → ib (nI (4 * m)) 124 = true := fun m hm => ib_t (by omega) (by omega)
  have i1 : ∀ m, m ≤ 30 → ib (nI (4 * m + 1)) 124 = true := fun m hm => ib_t (by omega) (by omega)
  have i2 : ∀ m, m ≤ 30 → ib (nI (4 * m + 2)) 124 = true := fun m hm => ib_t (by omega) (by omega)
  have i3 : ∀ m, m ≤ 30 → ib (nI (4 * m + 3)) 124 = true := fun m hm => ib_t (by omega) (by omega)
  have c0 : ∀ m, m ≤ 30 → (nI (4 * m)).toNatClampNeg = 4 * m := fun m hm => nI_clamp (by omega)
  have c1 : ∀ m, m ≤ 30 → (nI (4 * m + 1)).toNatClampNeg = 4 * m + 1 := fun m hm => nI_clamp (by omega)
  have c2 : ∀ m, m ≤ 30 → (nI (4 * m + 2)).toNatClampNeg = 4 * m + 2 := fun m hm => nI_clamp (by omega)
  have c3 : ∀ m, m ≤ 30 → (nI (4 * m + 3)).toNatClampNeg = 4 * m + 3 := fun m hm => nI_clamp (by omega)
  have a2 : ∀ m, nI (4 * m) + 2 = nI (4 * m + 2) := fun m => nI_add _ 2
  have a3 : ∀ m, nI (4 * m) + 3 = nI (4 * m + 3) := fun m => nI_add _ 3
  by_cases k1 : k = 102
  · subst k1
    have hl : ns.length = 1 := hlen.trans (by decide)
    refine ⟨p_X7_farm (ns.getD 0 0), chg_farm _ _ _, fun n0 n1 n2 σ h => ?_, fun σ m hm h1 h2 => ?_⟩
    · have e0 : n0 = ns.getD 0 0 := h 0 (by show 0 < ns.length; omega)
      rw [isR_f, isR_f, cO_f, cO_f, e0]
      exact ⟨rfl, rfl⟩
    · have e0 : gA σ 28 0 (4 * m + 1) = ns.getD 0 0 := h2 0 (by show 0 < ns.length; omega)
      have h1 : gA σ 28 0 (4 * m) = 102 := h1
      unfold p_X7_carries
      rw [if_pos (i0 m hm), c0 m hm, h1, if_neg (by decide), if_neg (by decide), if_pos rfl, nI_1, if_pos (i1 m hm), c1 m hm, e0, bind_eta]
  by_cases k2 : k = 108
  · subst k2
    have hl : ns.length = 2 := hlen.trans (by decide)
    refine ⟨p_X7_lay (ns.getD 0 0) (ns.getD 1 0), chg_lay _ _ _, fun n0 n1 n2 σ h => ?_, fun σ m hm h1 h2 => ?_⟩
    · have e0 : n0 = ns.getD 0 0 := h 0 (by show 0 < ns.length; omega)
      have e1 : n1 = ns.getD 1 0 := h 1 (by show 1 < ns.length; omega)
      rw [isR_l, isR_l, cO_l, cO_l, e0, e1]
      exact ⟨rfl, rfl⟩
    · have e0 : gA σ 28 0 (4 * m + 1) = ns.getD 0 0 := h2 0 (by show 0 < ns.length; omega)
      have e1 : gA σ 28 0 (4 * m + 2) = ns.getD 1 0 := h2 1 (by show 1 < ns.length; omega)
      have h1 : gA σ 28 0 (4 * m) = 108 := h1
      unfold p_X7_carries
      rw [if_pos (i0 m hm), c0 m hm, h1, if_neg (by decide), if_neg (by decide), if_neg (by decide), if_pos rfl, nI_1, a2, if_pos (i1 m hm), if_pos (i2 m hm), c1 m hm, c2 m hm, e0, e1, bind_eta]
  by_cases k3 : k = 99
  · subst k3
    have hl : ns.length = 2 := hlen.trans (by decide)
    refine ⟨p_X7_giveUp (ns.getD 0 0) (ns.getD 1 0), chg_giveUp _ _ _, fun n0 n1 n2 σ h => ?_, fun σ m hm h1 h2 => ?_⟩
    · have e0 : n0 = ns.getD 0 0 := h 0 (by show 0 < ns.length; omega)
      have e1 : n1 = ns.getD 1 0 := h 1 (by show 1 < ns.length; omega)
      rw [isR_c, isR_c, cO_c, cO_c, e0, e1]
      exact ⟨rfl, rfl⟩
    · have e0 : gA σ 28 0 (4 * m + 1) = ns.getD 0 0 := h2 0 (by show 0 < ns.length; omega)
      have e1 : gA σ 28 0 (4 * m + 2) = ns.getD 1 0 := h2 1 (by show 1 < ns.length; omega)
      have h1 : gA σ 28 0 (4 * m) = 99 := h1
      unfold p_X7_carries
      rw [if_pos (i0 m hm), c0 m hm, h1, if_pos rfl, nI_1, a2, if_pos (i1 m hm), if_pos (i2 m hm), c1 m hm, c2 m hm, e0, e1, bind_eta]
  by_cases k4 : k = 114
  · subst k4
    have hl : ns.length = 1 := hlen.trans (by decide)
    refine ⟨p_X7_root (ns.getD 0 0), chg_root _ _ _, fun n0 n1 n2 σ h => ?_, fun σ m hm h1 h2 => ?_⟩
    · have e0 : n0 = ns.getD 0 0 := h 0 (by show 0 < ns.length; omega)
      rw [isR_r, isR_r, cO_r, cO_r, e0]
      exact ⟨rfl, rfl⟩
    · have e0 : gA σ 28 0 (4 * m + 1) = ns.getD 0 0 := h2 0 (by show 0 < ns.length; omega)
      have h1 : gA σ 28 0 (4 * m) = 114 := h1
      unfold p_X7_carries
      rw [if_pos (i0 m hm), c0 m hm, h1, if_neg (by decide), if_neg (by decide), if_neg (by decide), if_neg (by decide), if_pos rfl, nI_1, if_pos (i1 m hm), c1 m hm, e0, bind_eta]
  by_cases k5 : k = 101
  · subst k5
    have hl : ns.length = 1 := hlen.trans (by decide)
    refine ⟨p_X7_expose (ns.getD 0 0), chg_expose _ _ _, fun n0 n1 n2 σ h => ?_, fun σ m hm h1 h2 => ?_⟩
    · have e0 : n0 = ns.getD 0 0 := h 0 (by show 0 < ns.length; omega)
      rw [isR_e, isR_e, cO_e, cO_e, e0]
      exact ⟨rfl, rfl⟩
    · have e0 : gA σ 28 0 (4 * m + 1) = ns.getD 0 0 := h2 0 (by show 0 < ns.length; omega)
      have h1 : gA σ 28 0 (4 * m) = 101 := h1
      unfold p_X7_carries
      rw [if_pos (i0 m hm), c0 m hm, h1, if_neg (by decide), if_pos rfl, nI_1, if_pos (i1 m hm), c1 m hm, e0, bind_eta]
  by_cases k6 : k = 116
  · subst k6
    have hl : ns.length = 3 := hlen.trans (by decide)
    refine ⟨p_X7_charge (ns.getD 0 0) (ns.getD 1 0) (ns.getD 2 0), chg_charge _ _ _, fun n0 n1 n2 σ h => ?_, fun σ m hm h1 h2 => ?_⟩
    · have e0 : n0 = ns.getD 0 0 := h 0 (by show 0 < ns.length; omega)
      have e1 : n1 = ns.getD 1 0 := h 1 (by show 1 < ns.length; omega)
      have e2 : n2 = ns.getD 2 0 := h 2 (by show 2 < ns.length; omega)
      rw [e0, e1, e2]
      exact ⟨rfl, rfl⟩
    · have e0 : gA σ 28 0 (4 * m + 1) = ns.getD 0 0 := h2 0 (by show 0 < ns.length; omega)
      have e1 : gA σ 28 0 (4 * m + 2) = ns.getD 1 0 := h2 1 (by show 1 < ns.length; omega)
      have e2 : gA σ 28 0 (4 * m + 3) = ns.getD 2 0 := h2 2 (by show 2 < ns.length; omega)
      have h1 : gA σ 28 0 (4 * m) = 116 := h1
      unfold p_X7_carries
      rw [if_pos (i0 m hm), c0 m hm, h1, if_neg (by decide), if_neg (by decide), if_neg (by decide), if_neg (by decide), if_neg (by decide), if_pos rfl, nI_1, a2, a3, if_pos (i1 m hm), if_pos (i2 m hm), if_pos (i3 m hm), c1 m hm, c2 m hm, c3 m hm, e0, e1, e2, bind_eta]
  by_cases k7 : k = 100
  · subst k7
    have hl : ns.length = 2 := hlen.trans (by decide)
    refine ⟨p_X7_drive (ns.getD 0 0) (ns.getD 1 0), chg_drive _ _ _, fun n0 n1 n2 σ h => ?_, fun σ m hm h1 h2 => ?_⟩
    · have e0 : n0 = ns.getD 0 0 := h 0 (by show 0 < ns.length; omega)
      have e1 : n1 = ns.getD 1 0 := h 1 (by show 1 < ns.length; omega)
      rw [isR_d, isR_d, cO_d, cO_d, e0, e1]
      exact ⟨rfl, rfl⟩
    · have e0 : gA σ 28 0 (4 * m + 1) = ns.getD 0 0 := h2 0 (by show 0 < ns.length; omega)
      have e1 : gA σ 28 0 (4 * m + 2) = ns.getD 1 0 := h2 1 (by show 1 < ns.length; omega)
      have h1 : gA σ 28 0 (4 * m) = 100 := h1
      unfold p_X7_carries
      rw [if_pos (i0 m hm), c0 m hm, h1, if_neg (by decide), if_neg (by decide), if_neg (by decide), if_neg (by decide), if_neg (by decide), if_neg (by decide), nI_1, a2, if_pos (i1 m hm), if_pos (i2 m hm), c1 m hm, c2 m hm, e0, e1, bind_eta]
  · exfalso
    refine hS ?_
    unfold shOf p_X4_shapeOf
    rw [if_neg k3, if_neg k7, if_neg k5, if_neg k1, if_neg k2, if_neg k4, if_neg k6]
    rfl
/-- what a text's commands may change of the class's side -/
def Fq (σ σ' : Sg) : Prop := (∀ T i k, ¬ (1 ≤ T ∧ T ≤ 5 ∧ i = 0) → T ≠ 14 → T ≠ 15 → T ≠ 11 → T ≠ 8 → gA σ' T i k = gA σ T i k ∧ (¬ (T = 9 ∧ (k = 2 ∨ k = 3 ∨ k = 5 ∨ k = 6)) → gI σ' T i k = gI σ T i k)) ∧ gL σ' = gL σ ∧ gD σ' = gD σ
theorem Fq.refl {σ : Sg} : Fq σ σ := ⟨fun _ _ _ _ _ _ _ _ => ⟨rfl, fun _ => rfl⟩, rfl, rfl⟩
theorem Fq.trans {a b c : Sg} (h : Fq a b) (g : Fq b c) : Fq a c := ⟨fun T i k h1 h2 h3 h4 h5 => ⟨(g.1 T i k h1 h2 h3 h4 h5).1.trans (h.1 T i k h1 h2 h3 h4 h5).1, fun h6 => ((g.1 T i k h1 h2 h3 h4 h5).2 h6).trans ((h.1 T i k h1 h2 h3 h4 h5).2 h6)⟩, g.2.1.trans h.2.1, g.2.2.trans h.2.2⟩
theorem Fx.fq {σ σ' : Sg} (h : Fx σ σ') : Fq σ σ' := ⟨fun T i k h1 h2 h3 _ _ => ⟨(h.1 T i k h1 h2 h3).2, fun _ => (h.1 T i k h1 h2 h3).1⟩, h.2⟩
theorem Fr.fq {σ σ' : Sg} (h : Fr [8, 14, 15] σ σ') : Fq σ σ' := ⟨fun T i k _ h2 h3 _ h5 => ⟨(h.1 T (by simp [h2, h3, h5]) i k).2, fun _ => (h.1 T (by simp [h2, h3, h5]) i k).1⟩, h.2⟩
theorem Fm.fq {σ σ' : Sg} (h : Fm [11] icR σ σ') : Fq σ σ' := ⟨fun T i k _ _ _ h4 _ => ⟨h.2.1 T (by simpa using h4) i k, fun h6 => h.1 T i k (fun q => h6 (by
  simp only [icR, List.mem_cons, Prod.mk.injEq, List.not_mem_nil, or_false] at q
  omega))⟩, h.2.2⟩
theorem CR.rd {A : List Nat} {I : List (Nat × Nat)} {σ σ' : Sg} {i : Nat} {G : Row} (h : Fm A I σ σ') (hA : ∀ T ∈ A, 6 ≤ T) (hI : ∀ q ∈ I, 6 ≤ q.1) (hC : CR σ i G) : CR σ' i G := by
  obtain ⟨c0, c1, c2, c3, c4, c5, c6, c7, c8⟩ := hC
  have a : ∀ T, T ≤ 5 → T ∉ A := fun T hT q => by have := hA T q; omega
  have b : ∀ k, ((1 : Nat), k) ∉ I := fun k q => by have := hI _ q; simp only at this; omega
  exact ⟨(h.1 1 i 0 (b 0)).trans c0, (h.1 1 i 5 (b 5)).trans c1, (h.1 1 i 6 (b 6)).trans c2, (h.1 1 i 7 (b 7)).trans c3, (h.1 1 i 8 (b 8)).trans c4, fun k hk => (h.2.1 5 (a 5 (by omega)) i k).trans (c5 k hk), fun k hk => (h.2.1 2 (a 2 (by omega)) i k).trans (c6 k hk), fun k hk => (h.2.1 3 (a 3 (by omega)) i k).trans (c7 k hk), fun k hk => (h.2.1 4 (a 4 (by omega)) i k).trans (c8 k hk)⟩
theorem l69_end {σ : Sg} {v : Int32} (h : gI σ 20 0 21 ≤ gI σ 20 0 7 ∨ ¬ gI σ 20 0 8 = 0) : ∀ f, p_X7_commands_L69 (f + 1) v σ = p_X7_commands_L69 1 v σ := by
  intro f
  rw [p_X7_commands_L69, p_X7_commands_L69]
  by_cases h1 : gI σ 20 0 21 ≤ gI σ 20 0 7
  · rw [if_pos h1, if_pos h1]
  · have h2 : ¬ gI σ 20 0 8 = 0 := by
      rcases h with h | h
      · exact absurd h h1
      · exact h
    rw [if_neg h1, if_neg h1, if_neg h2, if_neg h2]
theorem keeps1 {σ : Sg} (h : gI σ 20 0 6 = 1) (t : Nat) : p_X7_keeps t σ = some (sI σ 20 0 8 0) := by
  have w6 : gI (sI σ 20 0 8 0) 20 0 6 = 1 := by rw [gI_sI, if_neg (by decide)]; exact h
  unfold p_X7_keeps
  rw [w6, if_neg (by decide)]
theorem number_n {σ : Sg} {u : Nat} (hu : u < 3) : p_X4_number (nI u) σ = some (gA σ 11 0 u) := by
  unfold p_X4_number
  rw [if_neg (nI_pos (by omega)), if_neg (show ¬ (3 : Int32) ≤ nI u from nI_ge (b := 3) hu (by decide)), if_pos (ib_t hu (by omega)), nI_clamp (by omega)]
theorem getD3 {ns : List Int32} {f : Nat → Int32} (h3 : ns.length ≤ 3) (h : ∀ u (hu : u < ns.length), f u = ns[u]) : ∀ u, u < ns.length → [f 0, f 1, f 2].getD u 0 = ns.getD u 0 := by
  intro u hu
  have e : ns.getD u 0 = ns[u] := by simp [List.getD_eq_getElem?_getD, List.getElem?_eq_getElem hu]
  rw [e, ← h u hu]
  rcases (show u = 0 ∨ u = 1 ∨ u = 2 by omega) with rfl | rfl | rfl <;> rfl
def rm1 : List (Nat × Nat) := [(20, 7), (20, 8), (20, 18)]
def rm2 : List (Nat × Nat) := [(20, 7), (20, 8), (20, 9), (20, 10), (20, 11), (20, 18)]
section RUN
variable {X : List Int32}
theorem run (hX : X.length ≤ 60) (hN : ∀ x ∈ X, nch x = x) : ∀ (l : List (Int32 × List Int32)) (m : Nat) (G : Row) (n : Nat) (Y : List Int32), Inv G n → Cmds l Y → m + l.length ≤ 30 →
    (∃ G' n', Inv G' n' ∧ (∀ σ fuel, l.length < fuel → CR σ 0 G → (l = [] ∨ TC σ X Y) → ∃ σ', p_X6_carryOutText_L20 fuel (nI (m + l.length)) (nI m) σ = ((p_X0_keep 1 σ').bind fun r4 => some (1, r4)) ∧ CR σ' 0 G' ∧ Fq σ σ' ∧ ∀ k, gI σ' 8 0 k = gI σ 8 0 k) ∧
      (∀ σ fuel v, l.length < fuel → MR σ G → gI σ 20 0 6 = 1 → gI σ 20 0 7 = nI m → gI σ 20 0 8 = 0 → gI σ 20 0 21 = nI (m + l.length) → toldIs σ m l → ∃ v' σ', p_X7_commands_L69 fuel v σ = p_X7_commands_L69 1 v' σ' ∧ gI σ' 20 0 7 = nI (m + l.length) ∧ gI σ' 20 0 8 = 0 ∧ MR σ' G' ∧ Fm [21, 27] rm1 σ σ')) ∨
    (∃ j y z, (∀ σ fuel, l.length < fuel → CR σ 0 G → (l = [] ∨ TC σ X Y) → ∃ σ', p_X6_carryOutText_L20 fuel (nI (m + l.length)) (nI m) σ = ((p_X1_copyFrom 0 1 σ').bind fun r19 => some (0, r19)) ∧ Fq σ σ' ∧ gI σ' 8 0 0 = y ∧ gI σ' 8 0 1 = z ∧ gI σ' 8 0 2 = nI j) ∧
      (∀ σ fuel v, l.length < fuel → MR σ G → gI σ 20 0 6 = 1 → gI σ 20 0 7 = nI m → gI σ 20 0 8 = 0 → gI σ 20 0 21 = nI (m + l.length) → toldIs σ m l → ∃ v' σ', p_X7_commands_L69 fuel v σ = p_X7_commands_L69 1 v' σ' ∧ gI σ' 20 0 8 = 1 ∧ gI σ' 20 0 9 = y ∧ gI σ' 20 0 10 = z ∧ gI σ' 20 0 11 = nI j ∧ Fm [21, 27] rm2 σ σ')) := by
  intro l
  induction l with
  | nil =>
    intro m G n Y hI _ _
    refine Or.inl ⟨G, n, hI, fun σ fuel hf hC _ => ?_, fun σ fuel v hf hM h6 h7 h8 h21 _ => ?_⟩
    · obtain ⟨fuel, rfl⟩ : ∃ z, fuel = z + 1 := ⟨fuel - 1, by omega⟩
      refine ⟨σ, ?_, hC, Fq.refl, fun _ => rfl⟩
      rw [p_X6_carryOutText_L20, if_pos (show nI (m + ([] : List (Int32 × List Int32)).length) ≤ nI m from Int32.le_refl _)]
    · obtain ⟨fuel, rfl⟩ : ∃ z, fuel = z + 1 := ⟨fuel - 1, by omega⟩
      refine ⟨v, σ, l69_end (Or.inl ?_) fuel, h7, h8, hM, Fm.refl⟩
      rw [h21, h7]
      exact Int32.le_refl _
  | cons cm l ih =>
    intro m G n Y hI hcs hml
    obtain ⟨hok, hcm, hnext⟩ := hcs
    simp only [List.length_cons] at hml
    obtain ⟨pm, hchg, hind, hcar⟩ := good_of hok
    rw [← hcm] at hchg hind hcar
    have hns3 : cm.2.length ≤ 3 := by
      rw [hcm]
      show (rdC Y).2.1.length ≤ 3
      unfold rdC
      by_cases hS : shOf (hdC Y) = []
      · rw [if_pos hS]; simp
      · rw [if_neg hS]
        have h9 := (rdS_num (shOf (hdC Y)) 1 Y.tail).1
        have h8 : dn (shOf (hdC Y)) ≤ 3 := (sh_byt (shape_lt (hdC Y))).2.2.2.1
        omega
    -- a command is read
    have rd : ∀ σ, (cm :: l = [] ∨ TC σ X Y) → ∃ σ1, p_X4_readCommand σ = some (1, σ1) ∧ TC σ1 X (rdC Y).2.2 ∧ gI σ1 9 0 3 = cm.1 ∧ (∀ u, u < cm.2.length → [gA σ1 11 0 0, gA σ1 11 0 1, gA σ1 11 0 2].getD u 0 = cm.2.getD u 0) ∧ Fm [11] icR σ σ1 := by
      intro σ hT
      have hT : TC σ X Y := by
        rcases hT with h | h
        · cases h
        · exact h
      obtain ⟨σ1, e1, t1, k1, n1, f1⟩ := c_command hX hN hT
      rw [hok] at e1
      refine ⟨σ1, e1, t1, by rw [hcm]; exact k1, ?_, f1⟩
      refine getD3 (f := fun u => gA σ1 11 0 u) hns3 (fun u hu => ?_)
      subst hcm
      exact n1 u hu
    -- what the reference was told
    have tl : ∀ σ, toldIs σ m (cm :: l) → gA σ 28 0 (4 * m) = cm.1 ∧ (∀ u, u < cm.2.length → gA σ 28 0 (4 * m + 1 + u) = cm.2.getD u 0) ∧ toldIs σ (m + 1) l := by
      intro σ hT
      obtain ⟨q1, q2⟩ := hT 0 (by simp)
      refine ⟨q1, fun u hu => ?_, fun t ht => ?_⟩
      · have := q2 u hu
        rw [show cm.2.getD u 0 = cm.2[u] by simp [List.getD_eq_getElem?_getD, List.getElem?_eq_getElem hu]]
        exact this
      · have := hT (t + 1) (by simp; omega)
        rw [show m + (t + 1) = m + 1 + t by omega] at this
        exact this
    have hlt : ¬ nI (m + (l.length + 1)) ≤ nI m := nI_ge (by omega) (by omega)
    have cstart : ∀ σ σ1 fuel, p_X4_readCommand σ = some (1, σ1) → gI σ1 9 0 3 = cm.1 → (∀ u, u < cm.2.length → [gA σ1 11 0 0, gA σ1 11 0 1, gA σ1 11 0 2].getD u 0 = cm.2.getD u 0) → p_X6_carryOutText_L20 (fuel + 1) (nI (m + (l.length + 1))) (nI m) σ = ((p_X6_isRefused cm.1 (cm.2.getD 0 0) (cm.2.getD 1 0) (cm.2.getD 2 0) σ1).bind fun r10 => if r10.1 = 0 then ((p_X4_kind r10.2).bind fun r12 => (p_X4_number 0 r10.2).bind fun r13 => (p_X4_number 1 r10.2).bind fun r14 => (p_X4_number 2 r10.2).bind fun r15 => (p_X6_carryOut r12 r13 r14 r15 r10.2).bind fun r16 => (p_X4_passSeparator r16.2).bind fun r17 => p_X6_carryOutText_L20 fuel (nI (m + (l.length + 1))) (nI (m + 1)) r17) else ((p_X3_keepCommand (nI m) r10.2).bind fun r18 => (p_X1_copyFrom 0 1 r18).bind fun r19 => some (0, r19))) := by
      intro σ σ1 fuel e1 k1 n1
      have g0 : p_X4_number 0 σ1 = some (gA σ1 11 0 0) := number_n (u := 0) (by omega)
      have g1 : p_X4_number 1 σ1 = some (gA σ1 11 0 1) := number_n (u := 1) (by omega)
      have g2 : p_X4_number 2 σ1 = some (gA σ1 11 0 2) := number_n (u := 2) (by omega)
      rw [p_X6_carryOutText_L20, if_neg hlt, e1, bS, p_X4_kind, bS, k1, g0, bS, g1, bS, g2, bS, (hind _ _ _ σ1 n1).1, nI_1]
    rcases hchg G n hI with ⟨y, z, hrc, hrm⟩ | ⟨r, G1, n1, hI1, ⟨hc1, hc2⟩, hom⟩
    · refine Or.inr ⟨m, y, z, fun σ fuel hf hC hT => ?_, fun σ fuel v hf hM h6 h7 h8 h21 hT => ?_⟩
      · simp only [List.length_cons] at hf ⊢
        obtain ⟨fuel, rfl⟩ : ∃ z, fuel = z + 1 := ⟨fuel - 1, by omega⟩
        obtain ⟨σ1, e1, t1, k1, nn1, f1⟩ := rd σ hT
        obtain ⟨σ2, e2, f2, q0, q1, -⟩ := hrc σ1 (hC.rd f1 (by decide) (by decide))
        refine ⟨sI σ2 8 0 2 (nI m), ?_, f1.fq.trans (f2.trans (Fr.sI (by decide))).fq, ?_, ?_, ?_⟩
        · rw [cstart σ σ1 fuel e1 k1 nn1, e2, bS, if_neg n10, p_X3_keepCommand, bS]
        · rw [gI_sI, if_neg (by decide)]; exact q0
        · rw [gI_sI, if_neg (by decide)]; exact q1
        · rw [gI_sI, if_pos ⟨rfl, rfl, rfl⟩]
      · simp only [List.length_cons] at hf h21
        obtain ⟨fuel, rfl⟩ : ∃ z, fuel = z + 2 := ⟨fuel - 2, by omega⟩
        obtain ⟨k1, nn1, -⟩ := tl σ hT
        obtain ⟨x, σ1, e1, f1, q8, q9, q10, q11⟩ := hrm σ hM
        rw [if_neg (by rw [h6]; decide), h7] at q11
        have ec : p_X7_carries (nI (4 * m)) σ = some (x, σ1) := (hcar σ m (by omega) k1 nn1).trans e1
        refine ⟨x, σ1, ?_, q8, q9, q10, q11, f1.mono (by decide) (by decide)⟩
        rw [p_X7_commands_L69, h21, h7, if_neg hlt, if_pos h8, show (4 : Int32) * nI m = nI (4 * m) from pk_mul 4 m, ec, bS, q8, if_neg n10]
        exact l69_end (Or.inr (by rw [q8]; exact n10)) fuel
    · -- the row after the command
      have hZ : l = [] ∨ ∃ Z, (rdC Y).2.2 = 59 :: Z ∧ Cmds l Z := hnext
      obtain ⟨Z, hcl, hZt⟩ : ∃ Z, Cmds l Z ∧ (l = [] ∨ (rdC Y).2.2 = 59 :: Z) := by
        rcases hZ with h | ⟨Z, h1, h2⟩
        · exact ⟨[], by rw [h]; exact trivial, Or.inl h⟩
        · exact ⟨Z, h2, Or.inr h1⟩
      have cmid : ∀ σ fuel, CR σ 0 G → (cm :: l = [] ∨ TC σ X Y) → ∃ σ4, p_X6_carryOutText_L20 (fuel + 1) (nI (m + (l.length + 1))) (nI m) σ = p_X6_carryOutText_L20 fuel (nI (m + 1 + l.length)) (nI (m + 1)) σ4 ∧ CR σ4 0 G1 ∧ (l = [] ∨ TC σ4 X Z) ∧ Fq σ σ4 ∧ ∀ k, gI σ4 8 0 k = gI σ 8 0 k := by
        intro σ fuel hC hT
        obtain ⟨σ1, e1, t1, k1, nn1, f1⟩ := rd σ hT
        have hC1 : CR σ1 0 G := hC.rd f1 (by decide) (by decide)
        obtain ⟨σ2, e2, f2⟩ := hc1 σ1 hC1
        have hC2 : CR σ2 0 G := hC1.fr f2 (by decide) (by decide) (by decide) (by decide) (by decide)
        obtain ⟨σ3, e3, c3, f3⟩ := hc2 σ2 hC2
        have k2 : gI σ2 9 0 3 = cm.1 := (f2.1 9 (by decide) 0 3).1.trans k1
        have nn2 : ∀ u, u < cm.2.length → [gA σ2 11 0 0, gA σ2 11 0 1, gA σ2 11 0 2].getD u 0 = cm.2.getD u 0 := by
          rw [(f2.1 11 (by decide) 0 0).2, (f2.1 11 (by decide) 0 1).2, (f2.1 11 (by decide) 0 2).2]
          exact nn1
        have g0 : p_X4_number 0 σ2 = some (gA σ2 11 0 0) := number_n (u := 0) (by omega)
        have g1 : p_X4_number 1 σ2 = some (gA σ2 11 0 1) := number_n (u := 1) (by omega)
        have g2 : p_X4_number 2 σ2 = some (gA σ2 11 0 2) := number_n (u := 2) (by omega)
        have f4 : Fm [11] icR σ3 (sI σ3 9 0 2 (gI σ3 9 0 2 + 1)) := Fm.sI (by decide)
        refine ⟨sI σ3 9 0 2 (gI σ3 9 0 2 + 1), ?_, c3.rd f4 (by decide) (by decide), ?_, (f1.fq.trans (f2.mono (by decide)).fq).trans (f3.fq.trans f4.fq), fun k => ?_⟩
        · rw [cstart σ σ1 fuel e1 k1 nn1, e2, bS, if_pos rfl, p_X4_kind, bS, k2, g0, bS, g1, bS, g2, bS, (hind _ _ _ σ2 nn2).2, e3, bS, p_X4_passSeparator, bS, show m + (l.length + 1) = m + 1 + l.length by omega]
        · rcases hZt with h | h
          · exact Or.inl h
          · right
            rw [h] at t1
            have t3 : TC σ3 X (59 :: Z) := by
              obtain ⟨a1, a2, W, a3, a4⟩ := t1
              have b : ∀ k, gI σ3 9 0 k = gI σ1 9 0 k := fun k => ((f3.1 9 0 k (by omega) (by decide) (by decide)).1).trans (f2.1 9 (by decide) 0 k).1
              refine ⟨(b 1).trans a1, fun k hk => ?_, W, a3, (b 2).trans a4⟩
              exact (((f3.1 10 0 k (by omega) (by decide) (by decide)).2).trans (f2.1 10 (by decide) 0 k).2).trans (a2 k hk)
            exact t3.adv
        · rw [gI_sI, if_neg (by omega)]
          exact ((f3.1 8 0 k (by omega) (by decide) (by decide)).1.trans (f2.1 8 (by decide) 0 k).1).trans (f1.1 8 0 k (by simp [icR]))
      have mmid : ∀ σ fuel v, MR σ G → gI σ 20 0 6 = 1 → gI σ 20 0 7 = nI m → gI σ 20 0 8 = 0 → gI σ 20 0 21 = nI (m + (l.length + 1)) → toldIs σ m (cm :: l) → ∃ v4 σ4, p_X7_commands_L69 (fuel + 1) v σ = p_X7_commands_L69 fuel v4 σ4 ∧ MR σ4 G1 ∧ gI σ4 20 0 6 = 1 ∧ gI σ4 20 0 7 = nI (m + 1) ∧ gI σ4 20 0 8 = 0 ∧ gI σ4 20 0 21 = nI (m + 1 + l.length) ∧ toldIs σ4 (m + 1) l ∧ Fm [21, 27] rm1 σ σ4 := by
        intro σ fuel v hM h6 h7 h8 h21 hT
        obtain ⟨k1, nn1, hT1⟩ := tl σ hT
        obtain ⟨σ0, f0, g0⟩ := hom σ hM
        have h60 : gI σ0 20 0 6 = 1 := (f0.1 20 0 6 (by decide)).trans h6
        obtain ⟨σ1, e1, m1, f1⟩ := g0 _ (keeps1 h60 21) (Fm.sI (by decide))
        have ec : p_X7_carries (nI (4 * m)) σ = some (r, σ1) := (hcar σ m (by omega) k1 nn1).trans e1
        have q8 : gI σ1 20 0 8 = 0 := (f1.1 20 0 8 (by decide)).trans (s8g σ0 0)
        have q7 : gI σ1 20 0 7 = nI m := by rw [f1.1 20 0 7 (by decide), gI_sI, if_neg (by decide), f0.1 20 0 7 (by decide)]; exact h7
        have fall : Fm [21, 27] rm1 σ (sI σ1 20 0 7 (nI (m + 1))) := ((f0.mono (by decide) (by decide)).trans (Fm.sI (by decide))).trans ((f1.mono (by decide) (by decide)).trans (Fm.sI (by decide)))
        refine ⟨r, sI σ1 20 0 7 (nI (m + 1)), ?_, m1.fm (Fm.sI (A := []) (I := [(20, 7)]) (by simp)) (by decide), ?_, ?_, ?_, ?_, fun t ht => ?_, fall⟩
        · rw [p_X7_commands_L69, h21, h7, if_neg hlt, if_pos h8, show (4 : Int32) * nI m = nI (4 * m) from pk_mul 4 m, ec, bS, q8, if_pos rfl, q7, nI_1]
        · rw [fall.1 20 0 6 (by decide)]; exact h6
        · rw [gI_sI, if_pos ⟨rfl, rfl, rfl⟩]
        · rw [gI_sI, if_neg (by decide)]; exact q8
        · rw [fall.1 20 0 21 (by decide), h21, show m + (l.length + 1) = m + 1 + l.length by omega]
        · obtain ⟨p1, p2⟩ := hT1 t ht
          exact ⟨(fall.2.1 28 (by decide) 0 _).trans p1, fun u hu => (fall.2.1 28 (by decide) 0 _).trans (p2 u hu)⟩
      rcases ih (m + 1) G1 n1 Z hI1 hcl (by omega) with ⟨G', n', hI', gc, gm⟩ | ⟨j, y, z, gc, gm⟩
      · refine Or.inl ⟨G', n', hI', fun σ fuel hf hC hT => ?_, fun σ fuel v hf hM h6 h7 h8 h21 hT => ?_⟩
        · simp only [List.length_cons] at hf ⊢
          obtain ⟨fuel, rfl⟩ : ∃ z, fuel = z + 1 := ⟨fuel - 1, by omega⟩
          obtain ⟨σ4, e4, c4, t4, f4, w4⟩ := cmid σ fuel hC hT
          obtain ⟨σ5, e5, c5, f5, w5⟩ := gc σ4 fuel (by omega) c4 t4
          exact ⟨σ5, e4.trans e5, c5, f4.trans f5, fun k => (w5 k).trans (w4 k)⟩
        · simp only [List.length_cons] at hf h21 ⊢
          obtain ⟨fuel, rfl⟩ : ∃ z, fuel = z + 1 := ⟨fuel - 1, by omega⟩
          obtain ⟨v4, σ4, e4, m4, a6, a7, a8, a21, at4, f4⟩ := mmid σ fuel v hM h6 h7 h8 h21 hT
          obtain ⟨v5, σ5, e5, b7, b8, m5, f5⟩ := gm σ4 fuel v4 (by omega) m4 a6 a7 a8 a21 at4
          exact ⟨v5, σ5, e4.trans e5, by rw [b7, show m + 1 + l.length = m + (l.length + 1) by omega], b8, m5, f4.trans f5⟩
      · refine Or.inr ⟨j, y, z, fun σ fuel hf hC hT => ?_, fun σ fuel v hf hM h6 h7 h8 h21 hT => ?_⟩
        · simp only [List.length_cons] at hf ⊢
          obtain ⟨fuel, rfl⟩ : ∃ z, fuel = z + 1 := ⟨fuel - 1, by omega⟩
          obtain ⟨σ4, e4, c4, t4, f4, w4⟩ := cmid σ fuel hC hT
          obtain ⟨σ5, e5, f5, w5⟩ := gc σ4 fuel (by omega) c4 t4
          exact ⟨σ5, e4.trans e5, f4.trans f5, w5⟩
        · simp only [List.length_cons] at hf h21 ⊢
          obtain ⟨fuel, rfl⟩ : ∃ z, fuel = z + 1 := ⟨fuel - 1, by omega⟩
          obtain ⟨v4, σ4, e4, m4, a6, a7, a8, a21, at4, f4⟩ := mmid σ fuel v hM h6 h7 h8 h21 hT
          obtain ⟨v5, σ5, e5, b8, b9, b10, b11, f5⟩ := gm σ4 fuel v4 (by omega) m4 a6 a7 a8 a21 at4
          exact ⟨v5, σ5, e4.trans e5, b8, b9, b10, b11, (f4.mono (by decide) (by decide)).trans f5⟩
end RUN
