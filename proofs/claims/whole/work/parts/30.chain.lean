/-! PURE: rows of 44 places, the way to the root as a list -/
abbrev Row : Type := Nat → Int32
theorem nd_len : ∀ (n : Nat) (L : List Nat), L.Nodup → (∀ x ∈ L, x < n) → L.length ≤ n := by
  intro n
  induction n with
  | zero =>
    intro L _ h
    cases L with
    | nil => simp
    | cons a L => exact absurd (h a List.mem_cons_self) (by omega)
  | succ n ih =>
    intro L hn h
    have h1 := ih (L.erase n) (hn.erase n) (fun x hx => by
      have h2 := (hn.mem_erase_iff).mp hx
      have h3 := h x h2.2
      have h4 := h2.1
      omega)
    have h5 := List.length_erase (a := n) (l := L)
    split at h5 <;> omega
/-- the farms from v on to the root -/
def anc (G : Row) : Nat → Int32 → List Nat
  | 0, _ => []
  | m + 1, v => if v < 0 then [] else v.toNatClampNeg :: anc G m (G (20 + v.toNatClampNeg))
def FOk (n : Nat) (v : Int32) : Prop := v = -1 ∨ ∃ k, k < n ∧ v = nI k
theorem neg1_lt : (-1 : Int32) < 0 := by decide
/-- the tracks: each farm has none ahead of it, or one of a lower rank -/
def Forest (G : Row) (n : Nat) : Prop := ∃ rk : Nat → Nat, ∀ k, k < n → G (20 + k) = -1 ∨ ∃ q, q < n ∧ G (20 + k) = nI q ∧ rk q < rk k
theorem Forest.ok {G : Row} {n k : Nat} (h : Forest G n) (hk : k < n) : FOk n (G (20 + k)) := by
  obtain ⟨rk, h⟩ := h
  rcases h k hk with h1 | ⟨q, h1, h2, -⟩
  · exact Or.inl h1
  · exact Or.inr ⟨q, h1, h2⟩
theorem anc_neg {G : Row} {m : Nat} {v : Int32} (h : v < 0) : anc G m v = [] := by
  cases m with
  | zero => rfl
  | succ m => simp [anc, h]
theorem anc_nI {G : Row} {m k : Nat} (h : k < 2 ^ 31) : anc G (m + 1) (nI k) = k :: anc G m (G (20 + k)) := by
  simp only [anc, if_neg (nI_pos h), nI_clamp h]
theorem anc_mem {G : Row} {n : Nat} (hn : n ≤ 12) (hF : Forest G n) : ∀ (m : Nat) (v : Int32), FOk n v → ∀ x ∈ anc G m v, x < n := by
  intro m
  induction m with
  | zero => intro v _ x hx; simp [anc] at hx
  | succ m ih =>
    intro v hv x hx
    rcases hv with rfl | ⟨k, hk, rfl⟩
    · rw [anc_neg neg1_lt] at hx; simp at hx
    · rw [anc_nI (by omega)] at hx
      rcases List.mem_cons.mp hx with rfl | hx
      · exact hk
      · exact ih _ (hF.ok hk) x hx
theorem anc_rk {G : Row} {n : Nat} (hn : n ≤ 12) {rk : Nat → Nat} (hF : ∀ k, k < n → G (20 + k) = -1 ∨ ∃ q, q < n ∧ G (20 + k) = nI q ∧ rk q < rk k) : ∀ (m k : Nat), k < n → (∀ x ∈ anc G m (G (20 + k)), rk x < rk k) ∧ (anc G m (nI k)).Nodup := by
  intro m
  induction m with
  | zero => intro k hk; simp [anc]
  | succ m ih =>
    intro k hk
    have h1 : ∀ x ∈ anc G (m + 1) (G (20 + k)), rk x < rk k := by
      rcases hF k hk with h | ⟨q, hq, h, hr⟩
      · rw [h, anc_neg neg1_lt]; simp
      · rw [h, anc_nI (by omega)]
        intro x hx
        rcases List.mem_cons.mp hx with rfl | hx
        · exact hr
        · exact Nat.lt_trans ((ih q hq).1 x hx) hr
    refine ⟨h1, ?_⟩
    rw [anc_nI (by omega), List.nodup_cons]
    refine ⟨fun hx => Nat.lt_irrefl _ ((ih k hk).1 k hx), ?_⟩
    rcases hF k hk with h | ⟨q, hq, h, hr⟩
    · rw [h, anc_neg neg1_lt]; simp
    · rw [h]; exact (ih q hq).2
theorem anc_nd {G : Row} {n : Nat} (hn : n ≤ 12) (hF : Forest G n) (m : Nat) {v : Int32} (hv : FOk n v) : (anc G m v).Nodup := by
  obtain ⟨rk, hF⟩ := hF
  rcases hv with rfl | ⟨k, hk, rfl⟩
  · rw [anc_neg neg1_lt]; simp
  · exact (anc_rk hn hF m k hk).2
theorem anc_len {G : Row} {n : Nat} (hn : n ≤ 12) (hF : Forest G n) (m : Nat) {v : Int32} (hv : FOk n v) : (anc G m v).length ≤ n := nd_len n _ (anc_nd hn hF m hv) (anc_mem hn hF m v hv)
theorem anc_stab {G : Row} : ∀ (m : Nat) (v : Int32), (anc G (m + 1) v).length ≤ m → anc G (m + 1) v = anc G m v := by
  intro m
  induction m with
  | zero =>
    intro v h
    exact List.length_eq_zero_iff.mp (by omega)
  | succ m ih =>
    intro v h
    by_cases hv : v < 0
    · rw [anc_neg hv, anc_neg hv]
    · have e : ∀ j, anc G (j + 1) v = v.toNatClampNeg :: anc G j (G (20 + v.toNatClampNeg)) := fun j => by simp [anc, hv]
      rw [e, e]
      rw [e] at h
      rw [ih _ (by simpa using h)]
/-- the way to the root -/
def up (G : Row) (v : Int32) : List Nat := anc G 12 v
theorem up_neg {G : Row} : up G (-1) = [] := anc_neg neg1_lt
theorem up_cons {G : Row} {n k : Nat} (hn : n ≤ 12) (hF : Forest G n) (hk : k < n) : up G (nI k) = k :: up G (G (20 + k)) := by
  have h1 := anc_len hn hF 13 (Or.inr ⟨k, hk, rfl⟩ : FOk n (nI k))
  rw [anc_nI (by omega)] at h1
  have h2 : (anc G 12 (G (20 + k))).length ≤ 11 := by simp at h1; omega
  unfold up
  rw [anc_nI (by omega), anc_stab 11 _ h2]
theorem up_mem {G : Row} {n : Nat} (hn : n ≤ 12) (hF : Forest G n) {v : Int32} (hv : FOk n v) : ∀ x ∈ up G v, x < n := anc_mem hn hF 12 v hv
theorem up_nd {G : Row} {n : Nat} (hn : n ≤ 12) (hF : Forest G n) {v : Int32} (hv : FOk n v) : (up G v).Nodup := anc_nd hn hF 12 hv
theorem up_len {G : Row} {n : Nat} (hn : n ≤ 12) (hF : Forest G n) {v : Int32} (hv : FOk n v) : (up G v).length ≤ n := anc_len hn hF 12 hv
/-- by the way to the root -/
theorem up_ind {G : Row} {n : Nat} (hn : n ≤ 12) (hF : Forest G n) {C : Int32 → Prop} (h0 : C (-1)) (h1 : ∀ k, k < n → C (G (20 + k)) → C (nI k)) {v : Int32} (hv : FOk n v) : C v := by
  obtain ⟨rk, hF'⟩ := id hF
  have key : ∀ r k, k < n → rk k < r → C (nI k) := by
    intro r
    induction r with
    | zero => intro k _ h; omega
    | succ r ih =>
      intro k hk hr
      refine h1 k hk ?_
      rcases hF' k hk with h | ⟨q, hq, h, hlt⟩
      · rw [h]; exact h0
      · rw [h]; exact ih q hq (by omega)
  rcases hv with rfl | ⟨k, hk, rfl⟩
  · exact h0
  · exact key _ k hk (Nat.lt_succ_self _)
