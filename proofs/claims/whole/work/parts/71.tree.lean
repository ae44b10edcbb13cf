/-! PURE: a tree as a line -/
def bang (G : Row) (k i : Nat) : List Int32 := if G (32 + k) = nI i then [33] else []
/-- what follows the children that were written -/
def bodyF (rec : Nat → List Int32) (G : Row) (k : Nat) : Nat → Nat → List Int32
  | 0, _ => [41]
  | m + 1, i => if G (20 + i) = nI k then 32 :: (bang G k i ++ (rec i ++ bodyF rec G k m (i + 1))) else bodyF rec G k m (i + 1)
/-- what follows "(" -/
def bodyT (rec : Nat → List Int32) (G : Row) (k : Nat) : Nat → Nat → List Int32
  | 0, _ => [41]
  | m + 1, i => if G (20 + i) = nI k then bang G k i ++ (rec i ++ bodyF rec G k m (i + 1)) else bodyT rec G k m (i + 1)
def treL (G : Row) (n : Nat) : Nat → Nat → List Int32
  | 0, _ => []
  | d + 1, k => dgs k ++ (if chN G n k = 0 then [] else 40 :: bodyT (treL G n d) G k n 0)
/-- the farms that are written -/
def flB (rec : Nat → List Nat) (G : Row) (k : Nat) : Nat → Nat → List Nat
  | 0, _ => []
  | m + 1, i => if G (20 + i) = nI k then rec i ++ flB rec G k m (i + 1) else flB rec G k m (i + 1)
def flT (G : Row) (n : Nat) : Nat → Nat → List Nat
  | 0, k => [k]
  | d + 1, k => k :: flB (flT G n d) G k n 0
theorem n33 : nch 33 = 33 := by decide
theorem n32 : nch 32 = 32 := by decide
theorem n40 : nch 40 = 40 := by decide
theorem n41 : nch 41 = 41 := by decide
section TL
variable {G : Row} {n : Nat}
theorem chain (hI : Inv G n) {v : Int32} (hv : FOk n v) : ∀ x ∈ up G v, ∀ y ∈ up G v, y ∈ up G (nI x) ∨ x ∈ up G (nI y) := by
  refine up_ind hI.1 hI.2.2.1 (C := fun v => ∀ x ∈ up G v, ∀ y ∈ up G v, y ∈ up G (nI x) ∨ x ∈ up G (nI y)) ?_ ?_ hv
  · intro x hx; rw [up_neg] at hx; cases hx
  · intro k hk ih x hx y hy
    have hu := up_c hI hk
    by_cases e1 : x = k
    · subst e1; exact Or.inl hy
    · by_cases e2 : y = k
      · subst e2; exact Or.inr hx
      · rw [hu] at hx hy
        rcases List.mem_cons.mp hx with h | h
        · exact absurd h e1
        · rcases List.mem_cons.mp hy with h' | h'
          · exact absurd h' e2
          · exact ih x h y h'
theorem sib_one (hI : Inv G n) {c k : Nat} (hc : c < n) (hk : k < n) (h : G (20 + c) = nI k) : c ∉ up G (nI k) := by
  intro h1
  have h2 : k ∈ up G (nI c) := by
    rw [up_c hI hc, h]
    refine List.mem_cons_of_mem _ ?_
    rw [up_c hI hk]
    exact List.mem_cons_self
  have e := up_anti hI hc hk h1 h2
  subst e
  exact par_irr hI hc h
theorem sibs (hI : Inv G n) {k c1 c2 x : Nat} (hk : k < n) (h1 : c1 < n) (h2 : c2 < n) (hx : x < n) (e1 : G (20 + c1) = nI k) (e2 : G (20 + c2) = nI k) (m1 : c1 ∈ up G (nI x)) (m2 : c2 ∈ up G (nI x)) : c1 = c2 := by
  rcases chain hI (Or.inr ⟨x, hx, rfl⟩ : FOk n (nI x)) c1 m1 c2 m2 with h | h
  · rw [up_c hI h1, e1] at h
    rcases List.mem_cons.mp h with h | h
    · exact h.symm
    · exact absurd h (sib_one hI h2 hk e2)
  · rw [up_c hI h2, e2] at h
    rcases List.mem_cons.mp h with h | h
    · exact h
    · exact absurd h (sib_one hI h1 hk e1)
theorem flB_ok (hI : Inv G n) {k : Nat} (hk : k < n) {rec : Nat → List Nat} (hr : ∀ c, c < n → (rec c).Nodup ∧ ∀ x ∈ rec c, x < n ∧ c ∈ up G (nI x)) : ∀ m i, i + m = n → (flB rec G k m i).Nodup ∧ ∀ x ∈ flB rec G k m i, x < n ∧ ∃ c, i ≤ c ∧ c < n ∧ G (20 + c) = nI k ∧ c ∈ up G (nI x) := by
  intro m
  induction m with
  | zero => intro i _; simp [flB]
  | succ m ih =>
    intro i hi
    obtain ⟨h1, h2⟩ := ih (i + 1) (by omega)
    obtain ⟨h3, h4⟩ := hr i (by omega)
    simp only [flB]
    by_cases hc : G (20 + i) = nI k
    · rw [if_pos hc]
      refine ⟨?_, fun x hx => ?_⟩
      · rw [List.nodup_append]
        refine ⟨h3, h1, fun x hx y hy hxy => ?_⟩
        subst hxy
        obtain ⟨q1, q2⟩ := h4 x hx
        obtain ⟨q3, c, q4, q5, q6, q7⟩ := h2 x hy
        have := sibs hI hk (show i < n by omega) q5 q1 hc q6 q2 q7
        omega
      · rcases List.mem_append.mp hx with h | h
        · obtain ⟨q1, q2⟩ := h4 x h
          exact ⟨q1, i, Nat.le_refl _, by omega, hc, q2⟩
        · obtain ⟨q3, c, q4, q5, q6, q7⟩ := h2 x h
          exact ⟨q3, c, by omega, q5, q6, q7⟩
    · rw [if_neg hc]
      refine ⟨h1, fun x hx => ?_⟩
      obtain ⟨q3, c, q4, q5, q6, q7⟩ := h2 x hx
      exact ⟨q3, c, by omega, q5, q6, q7⟩
theorem flT_ok (hI : Inv G n) : ∀ d k, k < n → (flT G n d k).Nodup ∧ ∀ x ∈ flT G n d k, x < n ∧ k ∈ up G (nI x) := by
  intro d
  induction d with
  | zero =>
    intro k hk
    simp only [flT]
    refine ⟨by simp, fun x hx => ?_⟩
    rw [List.mem_singleton.mp hx]
    exact ⟨hk, by rw [up_c hI hk]; exact List.mem_cons_self⟩
  | succ d ih =>
    intro k hk
    obtain ⟨h1, h2⟩ := flB_ok hI hk (rec := flT G n d) ih n 0 (by omega)
    simp only [flT]
    have key : ∀ x ∈ flB (flT G n d) G k n 0, x < n ∧ k ∈ up G (nI x) ∧ x ≠ k := by
      intro x hx
      obtain ⟨q3, c, q4, q5, q6, q7⟩ := h2 x hx
      have hkc : k ∈ up G (nI c) := by
        rw [up_c hI q5, q6]
        refine List.mem_cons_of_mem _ ?_
        rw [up_c hI hk]
        exact List.mem_cons_self
      refine ⟨q3, up_trans hI (Or.inr ⟨x, q3, rfl⟩) q7 hkc, fun e => ?_⟩
      subst e
      exact sib_one hI q5 hk q6 q7
    refine ⟨List.nodup_cons.mpr ⟨fun h => (key k h).2.2 rfl, h1⟩, fun x hx => ?_⟩
    rcases List.mem_cons.mp hx with rfl | h
    · exact ⟨hk, by rw [up_c hI hk]; exact List.mem_cons_self⟩
    · exact ⟨(key x h).1, (key x h).2.1⟩
theorem bang_len (k i : Nat) : (bang G k i).length ≤ 1 := by unfold bang; split <;> simp
theorem bodyF_len {rec : Nat → List Int32} {fr : Nat → List Nat} (hr : ∀ c, c < n → (rec c).length + 2 ≤ 5 * (fr c).length) (k : Nat) : ∀ m i, i + m = n → (bodyF rec G k m i).length ≤ 1 + 5 * (flB fr G k m i).length := by
  intro m
  induction m with
  | zero => intro i _; simp [bodyF, flB]
  | succ m ih =>
    intro i hi
    have h1 := ih (i + 1) (by omega)
    have h2 := hr i (by omega)
    have h3 := bang_len (G := G) k i
    simp only [bodyF, flB]
    by_cases hc : G (20 + i) = nI k
    · rw [if_pos hc, if_pos hc]
      simp only [List.length_cons, List.length_append]
      omega
    · rw [if_neg hc, if_neg hc]; exact h1
theorem bodyT_len {rec : Nat → List Int32} {fr : Nat → List Nat} (hr : ∀ c, c < n → (rec c).length + 2 ≤ 5 * (fr c).length) (k : Nat) : ∀ m i, i + m = n → (bodyT rec G k m i).length ≤ 1 + 5 * (flB fr G k m i).length ∧ ((∃ c, i ≤ c ∧ c < n ∧ G (20 + c) = nI k) → (bodyT rec G k m i).length ≤ 5 * (flB fr G k m i).length) := by
  intro m
  induction m with
  | zero => intro i hi; exact ⟨by simp [bodyT, flB], fun ⟨c, h1, h2, _⟩ => by omega⟩
  | succ m ih =>
    intro i hi
    obtain ⟨h1, h1'⟩ := ih (i + 1) (by omega)
    have h2 := hr i (by omega)
    have h3 := bang_len (G := G) k i
    have h4 := bodyF_len (G := G) hr k m (i + 1) (by omega)
    simp only [bodyT, flB]
    by_cases hc : G (20 + i) = nI k
    · rw [if_pos hc, if_pos hc]
      simp only [List.length_append]
      exact ⟨by omega, fun _ => by omega⟩
    · rw [if_neg hc, if_neg hc]
      refine ⟨h1, fun ⟨c, q1, q2, q3⟩ => h1' ⟨c, ?_, q2, q3⟩⟩
      rcases Nat.lt_or_ge i c with h | h
      · exact h
      · obtain rfl : c = i := by omega
        exact absurd q3 hc
theorem sumf_pos {f : Nat → Nat} : ∀ m i, sumf f i m ≠ 0 → ∃ j, i ≤ j ∧ j < i + m ∧ f j ≠ 0 := by
  intro m
  induction m with
  | zero => intro i h; exact absurd rfl h
  | succ m ih =>
    intro i h
    simp only [sumf] at h
    by_cases h0 : f i = 0
    · obtain ⟨j, h1, h2, h3⟩ := ih (i + 1) (by omega)
      exact ⟨j, by omega, by omega, h3⟩
    · exact ⟨i, Nat.le_refl _, by omega, h0⟩
theorem ch_ex {k : Nat} (h : chN G n k ≠ 0) : ∃ c, 0 ≤ c ∧ c < n ∧ G (20 + c) = nI k := by
  obtain ⟨j, h1, h2, h3⟩ := sumf_pos n 0 h
  refine ⟨j, h1, by omega, ?_⟩
  by_cases e : G (20 + j) = nI k
  · exact e
  · exact absurd (if_neg e) h3
theorem treL_len (hn : n ≤ 12) : ∀ d k, k < n → (treL G n d k).length + 2 ≤ 5 * (flT G n d k).length := by
  intro d
  induction d with
  | zero => intro k _; simp [treL, flT]
  | succ d ih =>
    intro k hk
    have h1 := fw_le (show k < 12 by omega)
    have e : fw k = (dgs k).length := rfl
    simp only [treL, flT, List.length_append, List.length_cons]
    by_cases hc : chN G n k = 0
    · rw [if_pos hc]
      simp only [List.length_nil]
      omega
    · rw [if_neg hc]
      have h2 := (bodyT_len (G := G) (rec := treL G n d) (fr := flT G n d) ih k n 0 (by omega)).2 (ch_ex hc)
      simp only [List.length_cons]
      omega
theorem tree80 (hI : Inv G n) {d k : Nat} (hk : k < n) : (treL G n d k).length ≤ 80 := by
  have hn := hI.1
  obtain ⟨h1, h2⟩ := flT_ok hI d k hk
  have h3 := nd_len n _ h1 (fun x hx => (h2 x hx).1)
  have h4 := treL_len (G := G) hn d k hk
  omega
end TL
theorem bodyF_t {rec : Nat → List Int32} {G : Row} {k m i : Nat} (h : G (20 + i) = nI k) : bodyF rec G k (m + 1) i = 32 :: (bang G k i ++ (rec i ++ bodyF rec G k m (i + 1))) := if_pos h
theorem bodyF_f {rec : Nat → List Int32} {G : Row} {k m i : Nat} (h : ¬ G (20 + i) = nI k) : bodyF rec G k (m + 1) i = bodyF rec G k m (i + 1) := if_neg h
theorem bodyT_t {rec : Nat → List Int32} {G : Row} {k m i : Nat} (h : G (20 + i) = nI k) : bodyT rec G k (m + 1) i = bang G k i ++ (rec i ++ bodyF rec G k m (i + 1)) := if_pos h
theorem bodyT_f {rec : Nat → List Int32} {G : Row} {k m i : Nat} (h : ¬ G (20 + i) = nI k) : bodyT rec G k (m + 1) i = bodyT rec G k m (i + 1) := if_neg h
section TW
variable {G : Row} {n : Nat}
theorem c_bang {σ : Sg} {L : List Int32} {k i : Nat} {β : Type} (K : Sg → Option β) (hk : k < 12) (hC : CR σ 0 G) (hL : LC σ L) (hl : L.length + (bang G k i).length ≤ 80) : ∃ σ', ((p_X1_preferredOf (nI k) σ).bind fun r11 => if r11 = nI i then ((p_X2_write 33 σ).bind fun r14 => K r14) else K σ) = K σ' ∧ LC σ' (L ++ bang G k i) ∧ Fr [12, 13] σ σ' := by
  rw [c_preferredOf hC hk, bS]
  unfold bang at hl ⊢
  by_cases h : G (32 + k) = nI i
  · rw [if_pos h] at hl ⊢
    obtain ⟨σ1, e1, l1, f1⟩ := c_wr n33 hL (by simp at hl; omega)
    rw [if_pos h, e1, bS]
    exact ⟨σ1, rfl, l1, f1⟩
  · rw [if_neg h, if_neg h]
    exact ⟨σ, rfl, by simpa using hL, Fr.refl⟩
theorem m_bang {σ : Sg} {L : List Int32} {k i : Nat} {β : Type} (K : Sg → Option β) (hk : k < 12) (hC : MR σ G) (hL : LM σ L) (hl : L.length + (bang G k i).length ≤ 80) : ∃ σ', ((p_X7_prefers (nI k) σ).bind fun r11 => if r11 = nI i then ((p_X7_writes 33 σ).bind fun r14 => K r14) else K σ) = K σ' ∧ LM σ' (L ++ bang G k i) ∧ Fm [26] [(20, 16)] σ σ' := by
  rw [m_prefers hC hk, bS]
  unfold bang at hl ⊢
  by_cases h : G (32 + k) = nI i
  · rw [if_pos h] at hl ⊢
    obtain ⟨σ1, e1, l1, f1⟩ := m_wr n33 hL (by simp at hl; omega)
    rw [if_pos h, e1, bS]
    exact ⟨σ1, rfl, l1, f1⟩
  · rw [if_neg h, if_neg h]
    exact ⟨σ, rfl, by simpa using hL, Fm.refl⟩
/-- what the recursion is good for, class and reference -/
def RecC (G : Row) (n : Nat) (rec : Nat → List Int32) (k : Nat) (kr : Int32 → Int32 → Sg → Option Sg) (v3 : Int32) : Prop := ∀ (c : Nat) (σ : Sg) (L : List Int32), c < n → G (20 + c) = nI k → CR σ 0 G → LC σ L → L.length + (rec c).length ≤ 80 → ∃ σ', kr (nI c) (v3 + 1) σ = some σ' ∧ LC σ' (L ++ rec c) ∧ Fr [12, 13] σ σ'
def RecM (G : Row) (n : Nat) (rec : Nat → List Int32) (k : Nat) (kr : Int32 → Sg → Option Sg) : Prop := ∀ (c : Nat) (σ : Sg) (L : List Int32), c < n → G (20 + c) = nI k → MR σ G → LM σ L → L.length + (rec c).length ≤ 80 → ∃ σ', kr (nI c) σ = some σ' ∧ LM σ' (L ++ rec c) ∧ Fm [26] [(20, 16)] σ σ'
theorem c_bodyF (hI : Inv G n) {k : Nat} (hk : k < n) {rec : Nat → List Int32} {kr : Int32 → Int32 → Sg → Option Sg} {v3 : Int32} (hr : RecC G n rec k kr v3) : ∀ (m i fuel : Nat) (σ : Sg) (L : List Int32), i + m = n → m < fuel → CR σ 0 G → LC σ L → L.length + (bodyF rec G k m i).length ≤ 80 → ∃ σ', p_X6_writeBehind_L27 kr fuel (nI k) v3 32 (nI i) σ = some σ' ∧ LC σ' (L ++ bodyF rec G k m i) ∧ Fr [12, 13] σ σ' := by
  have hn := hI.1
  intro m
  induction m with
  | zero =>
    intro i fuel σ L h1 h2 hC hL hl
    obtain ⟨fuel, rfl⟩ : ∃ z, fuel = z + 1 := ⟨fuel - 1, by omega⟩
    obtain ⟨σ1, e1, l1, f1⟩ := c_wr n41 hL (by simp [bodyF] at hl; omega)
    exact ⟨σ1, by rw [p_X6_writeBehind_L27, p_X1_farms, bS, hC.1, hI.2.1, if_pos (nI_le (by omega) (by omega)), e1, bS], l1, f1⟩
  | succ m ih =>
    intro i fuel σ L h1 h2 hC hL hl
    obtain ⟨fuel, rfl⟩ : ∃ z, fuel = z + 1 := ⟨fuel - 1, by omega⟩
    rw [p_X6_writeBehind_L27, p_X1_farms, bS, hC.1, hI.2.1, if_neg (nI_ge (by omega) (by omega)), c_parentOf hC (by omega), bS, nI_1]
    by_cases hc : G (20 + i) = nI k
    · rw [bodyF_t hc] at hl ⊢
      simp only [List.length_cons, List.length_append] at hl
      obtain ⟨σ1, e1, l1, f1⟩ := c_wr n32 hL (by omega)
      have hC1 : CR σ1 0 G := hC.fr f1 (by decide) (by decide) (by decide) (by decide) (by decide)
      obtain ⟨σ2, e2, l2, f2⟩ := c_bang (K := fun r => (kr (nI i) (v3 + 1) r).bind fun r15 => p_X6_writeBehind_L27 kr fuel (nI k) v3 32 (nI (i + 1)) r15) (k := k) (i := i) (by omega) hC1 l1 (by simp; omega)
      have hC2 : CR σ2 0 G := hC1.fr f2 (by decide) (by decide) (by decide) (by decide) (by decide)
      obtain ⟨σ3, e3, l3, f3⟩ := hr i σ2 _ (by omega) hc hC2 l2 (by simp; omega)
      have hC3 : CR σ3 0 G := hC2.fr f3 (by decide) (by decide) (by decide) (by decide) (by decide)
      obtain ⟨σ4, e4, l4, f4⟩ := ih (i + 1) fuel σ3 _ (by omega) (by omega) hC3 l3 (by simp; omega)
      refine ⟨σ4, ?_, by simpa using l4, ((f1.trans f2).trans f3).trans f4⟩
      rw [if_pos hc, e1, bS]
      refine e2.trans ?_
      show ((kr (nI i) (v3 + 1) σ2).bind fun r15 => p_X6_writeBehind_L27 kr fuel (nI k) v3 32 (nI (i + 1)) r15) = some σ4
      rw [e3, bS, e4]
    · rw [bodyF_f hc] at hl ⊢
      rw [if_neg hc]
      exact ih (i + 1) fuel σ L (by omega) (by omega) hC hL hl
theorem c_bodyT (hI : Inv G n) {k : Nat} (hk : k < n) {rec : Nat → List Int32} {kr : Int32 → Int32 → Sg → Option Sg} {v3 : Int32} (hr : RecC G n rec k kr v3) : ∀ (m i fuel : Nat) (σ : Sg) (L : List Int32), i + m = n → m < fuel → (∃ c, i ≤ c ∧ c < n ∧ G (20 + c) = nI k) → CR σ 0 G → LC σ L → L.length + 1 + (bodyT rec G k m i).length ≤ 80 → ∃ σ', p_X6_writeBehind_L27 kr fuel (nI k) v3 40 (nI i) σ = some σ' ∧ LC σ' (L ++ (40 :: bodyT rec G k m i)) ∧ Fr [12, 13] σ σ' := by
  have hn := hI.1
  intro m
  induction m with
  | zero => intro i fuel σ L h1 h2 ⟨c, q1, q2, _⟩; omega
  | succ m ih =>
    intro i fuel σ L h1 h2 hex hC hL hl
    obtain ⟨fuel, rfl⟩ : ∃ z, fuel = z + 1 := ⟨fuel - 1, by omega⟩
    rw [p_X6_writeBehind_L27, p_X1_farms, bS, hC.1, hI.2.1, if_neg (nI_ge (by omega) (by omega)), c_parentOf hC (by omega), bS, nI_1]
    by_cases hc : G (20 + i) = nI k
    · rw [bodyT_t hc] at hl ⊢
      simp only [List.length_append] at hl
      obtain ⟨σ1, e1, l1, f1⟩ := c_wr n40 hL (by omega)
      have hC1 : CR σ1 0 G := hC.fr f1 (by decide) (by decide) (by decide) (by decide) (by decide)
      obtain ⟨σ2, e2, l2, f2⟩ := c_bang (K := fun r => (kr (nI i) (v3 + 1) r).bind fun r15 => p_X6_writeBehind_L27 kr fuel (nI k) v3 32 (nI (i + 1)) r15) (k := k) (i := i) (by omega) hC1 l1 (by simp; omega)
      have hC2 : CR σ2 0 G := hC1.fr f2 (by decide) (by decide) (by decide) (by decide) (by decide)
      obtain ⟨σ3, e3, l3, f3⟩ := hr i σ2 _ (by omega) hc hC2 l2 (by simp; omega)
      have hC3 : CR σ3 0 G := hC2.fr f3 (by decide) (by decide) (by decide) (by decide) (by decide)
      obtain ⟨σ4, e4, l4, f4⟩ := c_bodyF hI hk hr m (i + 1) fuel σ3 _ (by omega) (by omega) hC3 l3 (by simp; omega)
      refine ⟨σ4, ?_, by simpa using l4, ((f1.trans f2).trans f3).trans f4⟩
      rw [if_pos hc, e1, bS]
      refine e2.trans ?_
      show ((kr (nI i) (v3 + 1) σ2).bind fun r15 => p_X6_writeBehind_L27 kr fuel (nI k) v3 32 (nI (i + 1)) r15) = some σ4
      rw [e3, bS, e4]
    · rw [bodyT_f hc] at hl ⊢
      rw [if_neg hc]
      refine ih (i + 1) fuel σ L (by omega) (by omega) ?_ hC hL hl
      obtain ⟨c, q1, q2, q3⟩ := hex
      refine ⟨c, ?_, q2, q3⟩
      rcases Nat.lt_or_ge i c with h | h
      · exact h
      · obtain rfl : c = i := by omega
        exact absurd q3 hc
theorem m_bodyF (hI : Inv G n) {k : Nat} (hk : k < n) {rec : Nat → List Int32} {kr : Int32 → Sg → Option Sg} (hr : RecM G n rec k kr) : ∀ (m i fuel : Nat) (σ : Sg) (L : List Int32), i + m = n → m < fuel → MR σ G → LM σ L → L.length + (bodyF rec G k m i).length ≤ 80 → ∃ σ', p_X7_writesTree_L24 kr fuel (nI k) 0 (nI i) σ = some σ' ∧ LM σ' (L ++ bodyF rec G k m i) ∧ Fm [26] [(20, 16)] σ σ' := by
  have hn := hI.1
  intro m
  induction m with
  | zero =>
    intro i fuel σ L h1 h2 hC hL hl
    have h0 : gA σ 21 0 0 = nI n := (hC 0 (by omega)).trans hI.2.1
    obtain ⟨fuel, rfl⟩ : ∃ z, fuel = z + 1 := ⟨fuel - 1, by omega⟩
    obtain ⟨σ1, e1, l1, f1⟩ := m_wr n41 hL (by simp [bodyF] at hl; omega)
    exact ⟨σ1, by rw [p_X7_writesTree_L24, h0, if_pos (nI_le (by omega) (by omega)), e1, bS], l1, f1⟩
  | succ m ih =>
    intro i fuel σ L h1 h2 hC hL hl
    have h0 : gA σ 21 0 0 = nI n := (hC 0 (by omega)).trans hI.2.1
    obtain ⟨fuel, rfl⟩ : ∃ z, fuel = z + 1 := ⟨fuel - 1, by omega⟩
    rw [p_X7_writesTree_L24, h0, if_neg (nI_ge (by omega) (by omega)), m_parent hC (by omega), bS, nI_1]
    by_cases hc : G (20 + i) = nI k
    · rw [bodyF_t hc] at hl ⊢
      simp only [List.length_cons, List.length_append] at hl
      obtain ⟨σ1, e1, l1, f1⟩ := m_wr n32 hL (by omega)
      have hC1 : MR σ1 G := hC.fm f1 (by decide)
      obtain ⟨σ2, e2, l2, f2⟩ := m_bang (K := fun r => (kr (nI i) r).bind fun r15 => p_X7_writesTree_L24 kr fuel (nI k) 0 (nI (i + 1)) r15) (k := k) (i := i) (by omega) hC1 l1 (by simp; omega)
      have hC2 : MR σ2 G := hC1.fm f2 (by decide)
      obtain ⟨σ3, e3, l3, f3⟩ := hr i σ2 _ (by omega) hc hC2 l2 (by simp; omega)
      have hC3 : MR σ3 G := hC2.fm f3 (by decide)
      obtain ⟨σ4, e4, l4, f4⟩ := ih (i + 1) fuel σ3 _ (by omega) (by omega) hC3 l3 (by simp; omega)
      refine ⟨σ4, ?_, by simpa using l4, ((f1.trans f2).trans f3).trans f4⟩
      rw [if_pos hc, if_pos rfl, e1, bS]
      refine e2.trans ?_
      show ((kr (nI i) σ2).bind fun r15 => p_X7_writesTree_L24 kr fuel (nI k) 0 (nI (i + 1)) r15) = some σ4
      rw [e3, bS, e4]
    · rw [bodyF_f hc] at hl ⊢
      rw [if_neg hc]
      exact ih (i + 1) fuel σ L (by omega) (by omega) hC hL hl
theorem m_bodyT (hI : Inv G n) {k : Nat} (hk : k < n) {rec : Nat → List Int32} {kr : Int32 → Sg → Option Sg} (hr : RecM G n rec k kr) : ∀ (m i fuel : Nat) (σ : Sg) (L : List Int32), i + m = n → m < fuel → MR σ G → LM σ L → L.length + (bodyT rec G k m i).length ≤ 80 → ∃ σ', p_X7_writesTree_L24 kr fuel (nI k) 1 (nI i) σ = some σ' ∧ LM σ' (L ++ bodyT rec G k m i) ∧ Fm [26] [(20, 16)] σ σ' := by
  have hn := hI.1
  intro m
  induction m with
  | zero =>
    intro i fuel σ L h1 h2 hC hL hl
    have h0 : gA σ 21 0 0 = nI n := (hC 0 (by omega)).trans hI.2.1
    obtain ⟨fuel, rfl⟩ : ∃ z, fuel = z + 1 := ⟨fuel - 1, by omega⟩
    obtain ⟨σ1, e1, l1, f1⟩ := m_wr n41 hL (by simp [bodyT] at hl; omega)
    exact ⟨σ1, by rw [p_X7_writesTree_L24, h0, if_pos (nI_le (by omega) (by omega)), e1, bS], l1, f1⟩
  | succ m ih =>
    intro i fuel σ L h1 h2 hC hL hl
    have h0 : gA σ 21 0 0 = nI n := (hC 0 (by omega)).trans hI.2.1
    obtain ⟨fuel, rfl⟩ : ∃ z, fuel = z + 1 := ⟨fuel - 1, by omega⟩
    rw [p_X7_writesTree_L24, h0, if_neg (nI_ge (by omega) (by omega)), m_parent hC (by omega), bS, nI_1]
    by_cases hc : G (20 + i) = nI k
    · rw [bodyT_t hc] at hl ⊢
      simp only [List.length_append] at hl
      obtain ⟨σ2, e2, l2, f2⟩ := m_bang (K := fun r => (kr (nI i) r).bind fun r15 => p_X7_writesTree_L24 kr fuel (nI k) 0 (nI (i + 1)) r15) (k := k) (i := i) (by omega) hC hL (by omega)
      have hC2 : MR σ2 G := hC.fm f2 (by decide)
      obtain ⟨σ3, e3, l3, f3⟩ := hr i σ2 _ (by omega) hc hC2 l2 (by simp; omega)
      have hC3 : MR σ3 G := hC2.fm f3 (by decide)
      obtain ⟨σ4, e4, l4, f4⟩ := m_bodyF hI hk hr m (i + 1) fuel σ3 _ (by omega) (by omega) hC3 l3 (by simp; omega)
      refine ⟨σ4, ?_, by simpa using l4, (f2.trans f3).trans f4⟩
      rw [if_pos hc, if_neg n10]
      refine e2.trans ?_
      show ((kr (nI i) σ2).bind fun r15 => p_X7_writesTree_L24 kr fuel (nI k) 0 (nI (i + 1)) r15) = some σ4
      rw [e3, bS, e4]
    · rw [bodyT_f hc] at hl ⊢
      rw [if_neg hc]
      exact ih (i + 1) fuel σ L (by omega) (by omega) hC hL hl
theorem chN_le (k : Nat) : chN G n k ≤ n := by
  have : ∀ m i, sumf (fun i => if G (20 + i) = nI k then 1 else 0) i m ≤ m := by
    intro m
    induction m with
    | zero => intro i; simp [sumf]
    | succ m ih =>
      intro i
      have h := ih (i + 1)
      simp only [sumf]
      split <;> omega
  exact this n 0
theorem c_tree (hI : Inv G n) : ∀ (d k s : Nat) (σ : Sg) (L : List Int32), k < n → s ≤ depN G k → 12 ≤ d + depN G k → CR σ 0 G → LC σ L → L.length + (treL G n d k).length ≤ 80 → ∃ σ', p_X6_writeBehind d (nI k) (nI s) σ = some σ' ∧ LC σ' (L ++ treL G n d k) ∧ Fr [12, 13] σ σ' := by
  have hn := hI.1
  intro d
  induction d with
  | zero => intro k s σ L hk _ h2; have := dep_lt hI hk; omega
  | succ d ih =>
    intro k s σ L hk h1 h2 hC hL hl
    have hd := dep_lt hI hk
    have hch := chN_le (G := G) (n := n) k
    simp only [treL, List.length_append] at hl
    obtain ⟨σ1, e1, l1, f1⟩ := c_num (show k < 1000 by omega) hL (by omega)
    have hC1 : CR σ1 0 G := hC.fr f1 (by decide) (by decide) (by decide) (by decide) (by decide)
    rw [p_X6_writeBehind, e1, bS, if_neg (show ¬ (12 : Int32) ≤ nI s from nI_ge (b := 12) (by omega) (by decide)), c_childrenOf hC1 hI hk, bS]
    simp only [treL]
    by_cases hc : chN G n k = 0
    · rw [if_pos hc, hc, if_pos (show nI 0 = 0 from rfl)]
      exact ⟨σ1, rfl, by simpa using l1, f1⟩
    · rw [if_neg hc] at hl ⊢
      rw [if_neg (nI_ne0 (by omega) (by omega))]
      simp only [List.length_cons] at hl
      have hr : RecC G n (treL G n d) k (p_X6_writeBehind d) (nI s) := by
        intro c σ L hcn hp hC hL hl
        have hdc := dep_child hI hk hp
        rw [nI_1]
        exact ih c (s + 1) σ L hcn (by omega) (by omega) hC hL hl
      obtain ⟨σ2, e2, l2, f2⟩ := c_bodyT hI hk hr n 0 400 σ1 _ (by omega) (by omega) (ch_ex hc) hC1 l1 (by simp; omega)
      exact ⟨σ2, e2, by simpa using l2, f1.trans f2⟩
theorem m_tree (hI : Inv G n) : ∀ (d k : Nat) (σ : Sg) (L : List Int32), k < n → 12 ≤ d + depN G k → MR σ G → LM σ L → L.length + (treL G n d k).length ≤ 80 → ∃ σ', p_X7_writesTree d (nI k) σ = some σ' ∧ LM σ' (L ++ treL G n d k) ∧ Fm [26] [(20, 16)] σ σ' := by
  have hn := hI.1
  intro d
  induction d with
  | zero => intro k σ L hk h2; have := dep_lt hI hk; omega
  | succ d ih =>
    intro k σ L hk h2 hC hL hl
    have hd := dep_lt hI hk
    have hch := chN_le (G := G) (n := n) k
    simp only [treL, List.length_append] at hl
    obtain ⟨σ1, e1, l1, f1⟩ := m_num (show k < 1000 by omega) hL (by omega)
    have hC1 : MR σ1 G := hC.fm f1 (by decide)
    rw [p_X7_writesTree, e1, bS, m_children hC1 hI hk, bS]
    simp only [treL]
    by_cases hc : chN G n k = 0
    · rw [if_pos hc, hc, if_pos (show nI 0 = 0 from rfl)]
      exact ⟨σ1, rfl, by simpa using l1, f1⟩
    · rw [if_neg hc] at hl ⊢
      rw [if_neg (nI_ne0 (by omega) (by omega))]
      simp only [List.length_cons] at hl
      have hr : RecM G n (treL G n d) k (p_X7_writesTree d) := by
        intro c σ L hcn hp hC hL hl
        have hdc := dep_child hI hk hp
        exact ih c σ L hcn (by omega) hC hL hl
      obtain ⟨σ2, e2, l2, f2⟩ := m_wr n40 l1 (by simp; omega)
      obtain ⟨σ3, e3, l3, f3⟩ := m_bodyT hI hk hr n 0 400 σ2 _ (by omega) (by omega) (hC1.fm f2 (by decide)) l2 (by simp; omega)
      refine ⟨σ3, ?_, by simpa using l3, (f1.trans f2).trans f3⟩
      rw [e2, bS]
      exact e3
end TW
theorem cmd_tree (v : Int32) : Cmd (p_X6_tree v) (p_X7_tree v) (e12 eIO eNS) := by
  intro s hA
  obtain ⟨i1, i2, i3, i4, i5, i6⟩ := id hA
  obtain ⟨G, hG⟩ : ∃ G, G = (aR s).1 := ⟨_, rfl⟩
  obtain ⟨n, hn⟩ : ∃ n, n = (aR s).2 := ⟨_, rfl⟩
  have hI : Inv G n := by rw [hG, hn]; exact i1
  have n12 := hI.1
  have hCG : ∀ σ, CRel σ s → CR σ 0 G := fun σ hC => by rw [hG]; exact hC.1
  have hMG : ∀ σ, MRel σ s 0 → MR σ G := fun σ hM => by rw [hG]; exact hM.1
  cases hff : isF n v with
  | false =>
    refine ⟨.inr 1, s, hA, fun σ hC => ?_, fun σ hM => ?_⟩
    · refine simC_same (S := []) hC (?_ : p_X6_tree v σ = _) Fr.refl (by simp)
      unfold p_X6_tree
      rw [c_req (hCG σ hC) hI, hff, bS, if_neg (by decide), smR]
      rfl
    · refine simM_same (v := 0) hM (?_ : p_X7_tree v σ = _) (Fm.sI (A := []) (I := [(20, 8)]) (by simp)) sc2 ⟨s8g σ 1, Or.inl rfl⟩
      unfold p_X7_tree
      rw [m_isFarm (hMG σ hM) hI, hff, bS, if_pos bf0, mf1, bS, if_neg n10]
  | true =>
    obtain ⟨k, hk, rfl⟩ := isF_of n12 hff
    have h80 := tree80 hI (d := 20) hk
    refine ⟨.inl (nI (treL G n 20 k).length), wL s (treL G n 20 k), ⟨i1, i2, i3, i4, i5, h80, i6.2⟩, fun σ hC => ?_, fun σ hM => ?_⟩
    · have fc : Fr [12, 13] σ (sI σ 12 0 1 0) := Fr.sI (by simp)
      obtain ⟨σ2, e2, l2, f2⟩ := c_tree hI 20 k 0 (sI σ 12 0 1 0) [] hk (by omega) (by omega) ((hCG σ hC).fr fc (by decide) (by decide) (by decide) (by decide) (by decide)) ⟨by rw [gI_sI, if_pos ⟨rfl, rfl, rfl⟩]; rfl, fun k hk => absurd hk (Nat.not_lt_zero _)⟩ (by simpa using h80)
      rw [List.nil_append] at l2
      have f9 : Fr [12, 13, 14, 15] σ σ2 := (fc.trans f2).mono (by decide)
      refine ⟨_, σ2, ?_, hC.wL f9 l2, f9.mono (by decide), rfl⟩
      have e3 : p_X6_writeBehind 20 (nI k) 0 (sI σ 12 0 1 0) = some σ2 := e2
      unfold p_X6_tree p_X2_clear p_X2_length
      rw [c_req (hCG σ hC) hI, hff, bS, if_pos rfl, smL, bS, e3, bS, bS, l2.1]
    · have fc : Fm [26] [(20, 16)] (sI σ 20 0 8 0) (sI (sI σ 20 0 8 0) 20 0 16 0) := Fm.sI (by simp)
      obtain ⟨σ2, e2, l2, f2⟩ := m_tree hI 20 k (sI (sI σ 20 0 8 0) 20 0 16 0) [] hk (by omega) ((hMG σ hM).s8.fm fc (by decide)) ⟨by rw [gI_sI, if_pos ⟨rfl, rfl, rfl⟩]; rfl, fun k hk => absurd hk (Nat.not_lt_zero _)⟩ (by simpa using h80)
      rw [List.nil_append] at l2
      have f9 : Fm [26, 27] [(20, 8), (20, 16), (20, 18)] σ σ2 := (Fm.sI (by decide)).trans ((fc.trans f2).mono (by decide) (by decide))
      refine ⟨_, σ2, ?_, hM.wL f9 l2, f9.mono (by decide) (by decide), rfl, ?_⟩
      · unfold p_X7_tree
        rw [m_isFarm (hMG σ hM) hI, hff, bS, if_neg bt0, mf0, bS, if_pos rfl, e2, bS, l2.1]
      · rw [f2.1 20 0 8 (by decide), fc.1 20 0 8 (by decide), s8g]
theorem on_tree (v : Int32) {σ σ1 : Sg} {E : String} (h : p_X6_tree v σ = some (.inr E, σ1)) : E = eIO := by
  unfold p_X6_tree at h
  rcases rq_or v σ with h1 | h1
  · rw [h1, bS, smL] at h
    obtain ⟨_, _, h⟩ := bnd h
    obtain ⟨_, _, h⟩ := bnd h
    obtain ⟨_, _, h⟩ := bnd h
    exact inl_no h
  · rw [h1, bS, smR] at h
    exact inr_of h
theorem st_31 (xs : Nat → Int32) (L : Nat) (i : Int32) (h1 : ib (i + 1) L = true) : Step (p_lc_31 xs L i) := by
  intro σ a h
  obtain ⟨r1, r2, q1, q2, q3, q4, a', q5⟩ := step_wrap (pL := p_L_tree (xs (i + 1).toNatClampNeg)) (cmd_tree _) (fun σ v σ1 h => by unfold p_L_tree; rw [h, bS, smL]) (fun σ c σ1 hc h => by
    rcases hc with rfl | rfl
    · unfold p_L_tree; rw [h, bS, smR]; rfl
    · exact absurd (on_tree _ h) (by decide)) σ a h
  refine ⟨r2.2, a', ?_, q5⟩
  unfold p_lc_31
  rw [if_pos h1, q1, bS, if_pos h1, q2, bS]
  exact tail_ok q3 q4
