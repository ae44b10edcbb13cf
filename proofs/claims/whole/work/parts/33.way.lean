/-! PURE: the way between two farms, as the class follows it -/
def Fr (S : List Nat) (σ σ' : Sg) : Prop := (∀ T, T ∉ S → ∀ i k, gI σ' T i k = gI σ T i k ∧ gA σ' T i k = gA σ T i k) ∧ gL σ' = gL σ ∧ gD σ' = gD σ
theorem Fr.refl {S : List Nat} {σ : Sg} : Fr S σ σ := ⟨fun _ _ _ _ => ⟨rfl, rfl⟩, rfl, rfl⟩
theorem Fr.trans {S : List Nat} {a b c : Sg} (h : Fr S a b) (g : Fr S b c) : Fr S a c := ⟨fun T hT i k => ⟨(g.1 T hT i k).1.trans (h.1 T hT i k).1, (g.1 T hT i k).2.trans (h.1 T hT i k).2⟩, g.2.1.trans h.2.1, g.2.2.trans h.2.2⟩
theorem Fr.mono {S S' : List Nat} {a b : Sg} (h : Fr S a b) (hs : ∀ T ∈ S, T ∈ S') : Fr S' a b := ⟨fun T hT => h.1 T (fun q => hT (hs T q)), h.2⟩
theorem Fr.sI {S : List Nat} {σ : Sg} {T i k : Nat} {x : Int32} (h : T ∈ S) : Fr S σ (sI σ T i k x) := ⟨fun T' hT i' k' => ⟨by rw [gI_sI, if_neg (fun (q : T' = T ∧ i' = i ∧ k' = k) => hT (q.1 ▸ h))], rfl⟩, rfl, rfl⟩
theorem Fr.sA {S : List Nat} {σ : Sg} {T i k : Nat} {x : Int32} (h : T ∈ S) : Fr S σ (sA σ T i k x) := ⟨fun T' hT i' k' => ⟨rfl, by rw [gA_sA, if_neg (fun (q : T' = T ∧ i' = i ∧ k' = k) => hT (q.1 ▸ h))]⟩, rfl, rfl⟩
theorem CR.fr {S : List Nat} {σ σ' : Sg} {i : Nat} {G : Row} (h : Fr S σ σ') (h1 : 1 ∉ S) (h2 : 2 ∉ S) (h3 : 3 ∉ S) (h4 : 4 ∉ S) (h5 : 5 ∉ S) (hC : CR σ i G) : CR σ' i G := by
  obtain ⟨c0, c1, c2, c3, c4, c5, c6, c7, c8⟩ := hC
  exact ⟨(h.1 1 h1 i 0).1.trans c0, (h.1 1 h1 i 5).1.trans c1, (h.1 1 h1 i 6).1.trans c2, (h.1 1 h1 i 7).1.trans c3, (h.1 1 h1 i 8).1.trans c4, fun k hk => (h.1 5 h5 i k).2.trans (c5 k hk), fun k hk => (h.1 2 h2 i k).2.trans (c6 k hk), fun k hk => (h.1 3 h3 i k).2.trans (c7 k hk), fun k hk => (h.1 4 h4 i k).2.trans (c8 k hk)⟩
theorem MR.fr {S : List Nat} {σ σ' : Sg} {G : Row} (h : Fr S σ σ') (h1 : 21 ∉ S) (hM : MR σ G) : MR σ' G := fun k hk => (h.1 21 h1 0 k).2.trans (hM k hk)
def rowIs (σ : Sg) (T : Nat) (L : List Nat) : Prop := ∀ k (h : k < L.length), gA σ T 0 k = nI L[k]
theorem rowIs.fr {S : List Nat} {σ σ' : Sg} {T : Nat} {L : List Nat} (h : Fr S σ σ') (hT : T ∉ S) (hr : rowIs σ T L) : rowIs σ' T L := fun k hk => (h.1 T hT 0 k).2.trans (hr k hk)
section WY
variable {σ : Sg} {G : Row} {n : Nat}
/-- the rest of a way to the root is the way of the farm there -/
theorem up_split (hI : Inv G n) {v : Int32} (hv : FOk n v) : ∀ x ∈ up G v, up G v = (up G v).take ((up G v).idxOf x) ++ up G (nI x) := by
  refine up_ind hI.1 hI.2.2.1 (C := fun v => ∀ x ∈ up G v, up G v = (up G v).take ((up G v).idxOf x) ++ up G (nI x)) ?_ ?_ hv
  · intro x hx; rw [up_neg] at hx; cases hx
  · intro k hk ih x hx
    by_cases hxk : x = k
    · subst hxk
      rw [up_c hI hk]
      simp
    · have hx' : x ∈ up G (G (20 + k)) := by
        rw [up_c hI hk] at hx
        rcases List.mem_cons.mp hx with h | h
        · exact absurd h hxk
        · exact h
      have h1 := ih x hx'
      have hkx : (k == x) = false := by simp; exact fun e => hxk e.symm
      rw [up_c hI hk]
      rw [List.idxOf_cons, hkx]
      simp only [cond_false, List.take_succ_cons, List.cons_append]
      exact congrArg (List.cons k) h1
theorem up_trans (hI : Inv G n) {v : Int32} (hv : FOk n v) {x y : Nat} (hx : x ∈ up G v) (hy : y ∈ up G (nI x)) : y ∈ up G v := by
  rw [up_split hI hv x hx]
  exact List.mem_append_right _ hy
theorem lastD_mem : ∀ (l : List Nat) (a : Nat), l.getLastD a ∈ a :: l := by
  intro l
  induction l with
  | nil => intro a; simp
  | cons b l ih => intro a; rw [List.getLastD_cons]; exact List.mem_cons_of_mem _ (ih b)
theorem root_mem (hI : Inv G n) {k : Nat} (hk : k < n) : rootN G k ∈ up G (nI k) := by
  unfold rootN
  rw [up_c hI hk, List.getLastD_cons]
  exact lastD_mem _ _
theorem root_of_up (hI : Inv G n) {v : Int32} (hv : FOk n v) : ∀ k, k < n → v = nI k → ∀ x ∈ up G v, rootN G x = rootN G k := by
  refine up_ind hI.1 hI.2.2.1 (C := fun v => ∀ k, k < n → v = nI k → ∀ x ∈ up G v, rootN G x = rootN G k) ?_ ?_ hv
  · intro k hk _ x hx; rw [up_neg] at hx; cases hx
  · intro j hj ih k hk h x hx
    have hn := hI.1
    obtain rfl : j = k := nI_inj (by omega) (by omega) h
    rw [up_c hI hj] at hx
    rcases List.mem_cons.mp hx with rfl | hx
    · rfl
    · rcases hI.par hj with h3 | ⟨q, hq, h3⟩
      · rw [h3, up_neg] at hx; cases hx
      · rw [rootN_up hI hj hq h3]
        exact ih q hq h3 x hx
/-- two farms of one tree: their ways to the root have a farm in common, and only theirs -/
theorem joined_iff (hI : Inv G n) {a b : Nat} (ha : a < n) (hb : b < n) : joined G a b = true ↔ ∃ m, m ∈ up G (nI a) ∧ m ∈ up G (nI b) := by
  constructor
  · intro h
    simp only [joined, decide_eq_true_eq] at h
    exact ⟨rootN G a, root_mem hI ha, by rw [h]; exact root_mem hI hb⟩
  · rintro ⟨m, h1, h2⟩
    simp only [joined, decide_eq_true_eq]
    rw [← root_of_up hI (Or.inr ⟨a, ha, rfl⟩) a ha rfl m h1, ← root_of_up hI (Or.inr ⟨b, hb, rfl⟩) b hb rfl m h2]
/-- the first farm of W that lies on U -/
def meetL (U W : List Nat) : Option Nat := W.find? (fun x => decide (x ∈ U))
def pathL (U W : List Nat) : List Nat := match meetL U W with
  | none => []
  | some m => U.take (U.idxOf m + 1) ++ (W.take (W.idxOf m)).reverse
theorem meetL_none (U W : List Nat) : meetL U W = none ↔ ∀ x ∈ W, x ∉ U := by simp [meetL, List.find?_eq_none]
theorem meetL_mem {U W : List Nat} {m : Nat} (h : meetL U W = some m) : m ∈ U ∧ m ∈ W := ⟨by simpa using List.find?_some h, List.mem_of_find?_eq_some h⟩
def path (G : Row) (a b : Nat) : List Nat := pathL (up G (nI a)) (up G (nI b))
theorem path_len {U W : List Nat} {m : Nat} (h : meetL U W = some m) : (pathL U W).length = U.idxOf m + 1 + W.idxOf m := by
  obtain ⟨h1, h2⟩ := meetL_mem h
  have l1 := List.idxOf_lt_length_of_mem h1
  have l2 := List.idxOf_lt_length_of_mem h2
  simp only [pathL, h, List.length_append, List.length_take, List.length_reverse]
  omega
/-- the first loop of follow: the row is the way to the root -/
theorem fol8 (hI : Inv G n) (b : Int32) {v : Int32} (hv : FOk n v) : ∀ (fuel : Nat) (σ : Sg) (Q : List Nat), CR σ 0 G → gI σ 14 0 1 = nI Q.length → rowIs σ 15 Q → Q.length + (up G v).length ≤ 12 → (up G v).length < fuel →
    ∃ σ', p_X5_follow_L8 fuel b v σ = p_X5_follow_L64 400 b b 0 σ' ∧ gI σ' 14 0 1 = nI (Q ++ up G v).length ∧ rowIs σ' 15 (Q ++ up G v) ∧ Fr [14, 15] σ σ' := by
  have hn := hI.1
  refine up_ind hI.1 hI.2.2.1 (C := fun v => ∀ (fuel : Nat) (σ : Sg) (Q : List Nat), CR σ 0 G → gI σ 14 0 1 = nI Q.length → rowIs σ 15 Q → Q.length + (up G v).length ≤ 12 → (up G v).length < fuel →
    ∃ σ', p_X5_follow_L8 fuel b v σ = p_X5_follow_L64 400 b b 0 σ' ∧ gI σ' 14 0 1 = nI (Q ++ up G v).length ∧ rowIs σ' 15 (Q ++ up G v) ∧ Fr [14, 15] σ σ') ?_ ?_ hv
  · intro fuel σ Q hC h1 h2 h3 h4
    obtain ⟨fuel, rfl⟩ : ∃ z, fuel = z + 1 := ⟨fuel - 1, by omega⟩
    refine ⟨σ, ?_, by rw [up_neg, List.append_nil]; exact h1, by rw [up_neg, List.append_nil]; exact h2, Fr.refl⟩
    simp only [p_X5_follow_L8]
    split <;> simp
  · intro k hk ih fuel σ Q hC h1 h2 h3 h4
    have hu := up_c hI hk
    have hl := congrArg List.length hu
    simp only [List.length_cons] at hl
    obtain ⟨fuel, rfl⟩ : ∃ z, fuel = z + 1 := ⟨fuel - 1, by omega⟩
    have hq : Q.length < 12 := by omega
    have e1 : (gI (sA σ 15 0 Q.length (nI k)) 14 0 1) + 1 = nI (Q.length + 1) := by rw [gI_sA, h1, nI_1]
    obtain ⟨σ', g1, g2, g3, g4⟩ := ih fuel (sI (sA σ 15 0 Q.length (nI k)) 14 0 1 (nI (Q.length + 1))) (Q ++ [k])
      (((hC.fr (S := [15]) (Fr.sA (by simp)) (by decide) (by decide) (by decide) (by decide) (by decide))).fr (S := [14]) (Fr.sI (by simp)) (by decide) (by decide) (by decide) (by decide) (by decide))
      (by rw [gI_sI, if_pos ⟨rfl, rfl, rfl⟩]; simp)
      (fun j hj => by
        rw [gA_sI, gA_sA]
        by_cases hj2 : j = Q.length
        · subst hj2
          rw [if_pos ⟨rfl, rfl, rfl⟩]; simp
        · rw [if_neg (fun q => hj2 q.2.2)]
          have hj3 : j < Q.length := by simp at hj; omega
          rw [h2 j hj3, List.getElem_append_left hj3])
      (by simp; omega) (by omega)
    refine ⟨σ', ?_, ?_, ?_, ?_⟩
    · simp only [p_X5_follow_L8]
      rw [h1, if_neg (show ¬ (12 : Int32) ≤ nI Q.length from nI_ge (b := 12) hq (by decide)), if_neg (ne_m1 (by omega)), if_pos (ib_t hq (by omega)), nI_clamp (by omega), e1]
      have hC2 : CR (sI (sA σ 15 0 Q.length (nI k)) 14 0 1 (nI (Q.length + 1))) 0 G := ((hC.fr (S := [15]) (Fr.sA (by simp)) (by decide) (by decide) (by decide) (by decide) (by decide))).fr (S := [14]) (Fr.sI (by simp)) (by decide) (by decide) (by decide) (by decide) (by decide)
      rw [c_parentOf hC2 (by omega)]
      simp only [Option.bind_some]
      exact g1
    · rw [g2, hu]; simp [Nat.add_comm, Nat.add_left_comm]
    · rw [hu]
      rw [List.append_assoc] at g3
      exact g3
    · exact ((Fr.sA (by simp)).trans (Fr.sI (by simp))).trans g4
theorem placeOf_in {U : List Nat} (hU : U.length ≤ 12) (h1 : gI σ 14 0 1 = nI U.length) (h2 : rowIs σ 15 U) (hlt : ∀ x ∈ U, x < 12) {v : Int32} : (∀ m, m < 12 → v = nI m → m ∈ U → p_X5_placeOf v σ = some (nI (U.idxOf m))) ∧ ((v = -1 ∨ ∃ m, m < 12 ∧ v = nI m ∧ m ∉ U) → p_X5_placeOf v σ = some (-1)) := by
  have key1 : ∀ m, m < 12 → v = nI m → m ∈ U → ∀ d i fuel, i + d = U.idxOf m → d < fuel → p_X5_placeOf_L2 σ fuel v (nI i) = some (nI (U.idxOf m)) := by
    intro m hm hv hmU d
    have hlt' := List.idxOf_lt_length_of_mem hmU
    induction d with
    | zero =>
      intro i fuel hi hf
      obtain ⟨fuel, rfl⟩ : ∃ z, fuel = z + 1 := ⟨fuel - 1, by omega⟩
      obtain rfl : i = U.idxOf m := by omega
      simp only [p_X5_placeOf_L2]
      rw [h1, if_neg (nI_ge hlt' (by omega)), if_neg (show ¬ (12 : Int32) ≤ nI _ from nI_ge (b := 12) (by omega) (by decide)), if_pos (ib_t (by omega) (by omega)), nI_clamp (by omega), h2 _ hlt', if_pos (by rw [List.getElem_idxOf, hv])]
    | succ d ih =>
      intro i fuel hi hf
      obtain ⟨fuel, rfl⟩ : ∃ z, fuel = z + 1 := ⟨fuel - 1, by omega⟩
      have hi2 : i < U.length := by omega
      simp only [p_X5_placeOf_L2]
      rw [h1, if_neg (nI_ge hi2 (by omega)), if_neg (show ¬ (12 : Int32) ≤ nI _ from nI_ge (b := 12) (by omega) (by decide)), if_pos (ib_t (by omega) (by omega)), nI_clamp (by omega), h2 _ hi2, if_neg ?_, nI_1]
      · exact ih (i + 1) fuel (by omega) (by omega)
      · intro e
        rw [hv] at e
        have h3 := hlt _ (List.getElem_mem hi2)
        have e2 := nI_inj (by omega) (by omega) e
        have h9 := List.not_of_lt_findIdx (p := (· == m)) (xs := U) (i := i) (show i < U.findIdx (· == m) from (by omega : i < U.idxOf m))
        simp [e2] at h9
  have key2 : (v = -1 ∨ ∃ m, m < 12 ∧ v = nI m ∧ m ∉ U) → ∀ d i fuel, i + d = U.length → d < fuel → p_X5_placeOf_L2 σ fuel v (nI i) = some (-1) := by
    intro hv d
    induction d with
    | zero =>
      intro i fuel hi hf
      obtain ⟨fuel, rfl⟩ : ∃ z, fuel = z + 1 := ⟨fuel - 1, by omega⟩
      simp only [p_X5_placeOf_L2]
      rw [h1, if_pos (nI_le (by omega) (by omega))]
    | succ d ih =>
      intro i fuel hi hf
      obtain ⟨fuel, rfl⟩ : ∃ z, fuel = z + 1 := ⟨fuel - 1, by omega⟩
      have hi2 : i < U.length := by omega
      simp only [p_X5_placeOf_L2]
      rw [h1, if_neg (nI_ge hi2 (by omega)), if_neg (show ¬ (12 : Int32) ≤ nI _ from nI_ge (b := 12) (by omega) (by decide)), if_pos (ib_t (by omega) (by omega)), nI_clamp (by omega), h2 _ hi2, if_neg ?_, nI_1]
      · exact ih (i + 1) fuel (by omega) (by omega)
      · intro e
        have h3 := hlt _ (List.getElem_mem hi2)
        rcases hv with hv | ⟨m, hm, hv, hmU⟩
        · rw [hv] at e; exact ne_m1 (by omega) e
        · rw [hv] at e
          have e2 := nI_inj (by omega) (by omega) e
          exact hmU (e2 ▸ List.getElem_mem hi2)
  refine ⟨fun m hm hv hmU => ?_, fun hv => ?_⟩
  · have := List.idxOf_lt_length_of_mem hmU
    exact key1 m hm hv hmU (U.idxOf m) 0 400 (by omega) (by omega)
  · exact key2 hv U.length 0 400 (by omega) (by omega)
end WY
