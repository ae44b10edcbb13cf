/-! THE STORE OF THE RUN: every object that the run keeps has a tag T and a number i; ints of fields, ints of rows, the law's two one-place rows -/
abbrev Sg : Type := (Nat → Nat → Nat → Int32) × (Nat → Nat → Nat → Int32) × Int64 × UInt64
def gI (σ : Sg) (T i k : Nat) : Int32 := σ.1 T i k
def gA (σ : Sg) (T i k : Nat) : Int32 := σ.2.1 T i k
def gL (σ : Sg) : Int64 := σ.2.2.1
def gD (σ : Sg) : UInt64 := σ.2.2.2
def sI (σ : Sg) (T i k : Nat) (x : Int32) : Sg := (fun T' i' k' => if T' = T ∧ i' = i ∧ k' = k then x else σ.1 T' i' k', σ.2.1, σ.2.2.1, σ.2.2.2)
def sA (σ : Sg) (T i k : Nat) (x : Int32) : Sg := (σ.1, fun T' i' k' => if T' = T ∧ i' = i ∧ k' = k then x else σ.2.1 T' i' k', σ.2.2.1, σ.2.2.2)
def sL (σ : Sg) (x : Int64) : Sg := (σ.1, σ.2.1, x, σ.2.2.2)
def sD (σ : Sg) (x : UInt64) : Sg := (σ.1, σ.2.1, σ.2.2.1, x)
theorem gI_sI (σ : Sg) (T i k T' i' k' : Nat) (x : Int32) : gI (sI σ T i k x) T' i' k' = if T' = T ∧ i' = i ∧ k' = k then x else gI σ T' i' k' := rfl
theorem gA_sI (σ : Sg) (T i k T' i' k' : Nat) (x : Int32) : gA (sI σ T i k x) T' i' k' = gA σ T' i' k' := rfl
theorem gI_sA (σ : Sg) (T i k T' i' k' : Nat) (x : Int32) : gI (sA σ T i k x) T' i' k' = gI σ T' i' k' := rfl
theorem gA_sA (σ : Sg) (T i k T' i' k' : Nat) (x : Int32) : gA (sA σ T i k x) T' i' k' = if T' = T ∧ i' = i ∧ k' = k then x else gA σ T' i' k' := rfl
/-- of an object of the tag: its class's number in vwCl, and its fields: an int, or the object that it always names -/
def dsc : Nat → Option (Nat × List (Option (Nat × Option Nat)))
  | 0 => some (8, [some (1, some 0), some (1, some 1), some (1, some 2), none, some (6, some 0), some (8, some 0), some (9, some 0), none, some (12, some 0), some (14, some 0), some (16, some 0)])
  | 1 => some (3, [none, some (2, none), some (3, none), some (4, none), some (5, none), none, none, none, none])
  | 6 => some (2, [some (7, some 0), none, none])
  | 8 => some (5, [none, none, none])
  | 9 => some (6, [some (10, some 0), none, none, none, some (11, some 0), none, none])
  | 12 => some (4, [some (13, some 0), none])
  | 14 => some (7, [some (15, some 0), none, none])
  | 20 => some (9, [some (21, some 0), some (22, some 0), some (23, some 0), some (24, some 0), none, none, none, none, none, none, none, none, some (25, some 0), none, none, some (26, some 0), none, some (27, some 0), none, none, some (28, some 0), none])
  | _ => none
/-- of a row of the tag: its length; and its kind: 0 ints, 1 chars, 2 countries, 3 longs, else doubles -/
def alen : Nat → Nat
  | 2 => 12 | 3 => 12 | 4 => 12 | 5 => 3 | 7 => 8 | 10 => 60 | 11 => 3 | 13 => 80 | 15 => 12 | 16 => 12
  | 21 => 44 | 22 => 352 | 23 => 44 | 24 => 44 | 25 => 60 | 26 => 120 | 27 => 12 | 28 => 124 | _ => 1
def akind : Nat → Nat
  | 7 => 2 | 10 => 1 | 13 => 1 | 26 => 1 | 30 => 3 | 31 => 4 | _ => 0
def objs : List (Nat × Nat) := [(0, 0), (1, 0), (2, 0), (3, 0), (4, 0), (5, 0), (1, 1), (2, 1), (3, 1), (4, 1), (5, 1), (1, 2), (2, 2), (3, 2), (4, 2), (5, 2), (1, 3), (2, 3), (3, 3), (4, 3), (5, 3), (1, 4), (2, 4), (3, 4), (4, 4), (5, 4), (1, 5), (2, 5), (3, 5), (4, 5), (5, 5), (1, 6), (2, 6), (3, 6), (4, 6), (5, 6), (1, 7), (2, 7), (3, 7), (4, 7), (5, 7), (1, 8), (2, 8), (3, 8), (4, 8), (5, 8), (1, 9), (2, 9), (3, 9), (4, 9), (5, 9), (1, 10), (2, 10), (3, 10), (4, 10), (5, 10), (6, 0), (7, 0), (8, 0), (9, 0), (10, 0), (11, 0), (12, 0), (13, 0), (14, 0), (15, 0), (16, 0), (20, 0), (21, 0), (22, 0), (23, 0), (24, 0), (25, 0), (26, 0), (27, 0), (28, 0), (30, 0), (31, 0)]
def Vld (T i : Nat) : Prop := (T, i) ∈ objs
theorem vC {T i : Nat} (hT : T = 1 ∨ T = 2 ∨ T = 3 ∨ T = 4 ∨ T = 5) (hi : i < 11) : Vld T i := by
  have h : ∀ i, i < 11 → (1, i) ∈ objs ∧ (2, i) ∈ objs ∧ (3, i) ∈ objs ∧ (4, i) ∈ objs ∧ (5, i) ∈ objs := by decide +kernel
  obtain ⟨h1, h2, h3, h4, h5⟩ := h i hi
  rcases hT with rfl | rfl | rfl | rfl | rfl <;> assumption
theorem vC1 {i : Nat} (hi : i < 11) : Vld 1 i := vC (by omega) hi
theorem vC2 {i : Nat} (hi : i < 11) : Vld 2 i := vC (by omega) hi
theorem vC3 {i : Nat} (hi : i < 11) : Vld 3 i := vC (by omega) hi
theorem vC4 {i : Nat} (hi : i < 11) : Vld 4 i := vC (by omega) hi
theorem vC5 {i : Nat} (hi : i < 11) : Vld 5 i := vC (by omega) hi
def fv1 (ρ : Nat → Nat → Nat) (σ : Sg) (T i k : Nat) : Option (Nat × Option Nat) → Value
  | none => .int (gI σ T i k)
  | some (T', none) => .ref (ρ T' i)
  | some (T', some n) => .ref (ρ T' n)
def fv (ρ : Nat → Nat → Nat) (σ : Sg) (T i : Nat) : Nat → List (Option (Nat × Option Nat)) → List Value
  | _, [] => []
  | k, d :: ds => fv1 ρ σ T i k d :: fv ρ σ T i (k + 1) ds
theorem fv_len (ρ : Nat → Nat → Nat) (σ : Sg) (T i : Nat) (ds : List (Option (Nat × Option Nat))) : ∀ k, (fv ρ σ T i k ds).length = ds.length := by
  induction ds with
  | nil => intro k; rfl
  | cons d ds ih => intro k; simp [fv, ih]
theorem fv_at (ρ : Nat → Nat → Nat) (σ : Sg) (T i : Nat) (ds : List (Option (Nat × Option Nat))) : ∀ k j : Nat, (fv ρ σ T i k ds)[j]? = (ds[j]?).map (fv1 ρ σ T i (k + j)) := by
  induction ds with
  | nil => intro k j; simp [fv]
  | cons d ds ih =>
    intro k j
    cases j with
    | zero => simp [fv]
    | succ j => simp [fv, ih]; congr 2; omega
def cellOf (ty : Nat → ClassId) (ρ : Nat → Nat → Nat) (σ : Sg) (T i : Nat) : va_E := match dsc T with
  | some (ci, ds) => .inr (ci, fv ρ σ T i 0 ds)
  | none => match akind T with
    | 0 => .inl (ty 0, alen T, .inl (gA σ T i))
    | 1 => .inl (ty 1, alen T, .inl (gA σ T i))
    | 2 => .inl (ty 2, alen T, .inr (.inr (.inr (.inr (fun j => some (ρ 1 (3 + j)))))))
    | 3 => .inl (ty 3, alen T, .inr (.inl (fun _ => gL σ)))
    | _ => .inl (ty 4, alen T, .inr (.inr (.inr (.inl (fun _ => gD σ)))))
def tysOf (ty : Nat → ClassId) : List (ClassId × FieldType) := [(ty 0, .int), (ty 1, .char), (ty 2, .object RX1), (ty 3, .long), (ty 4, .double)]
def WS (ty : Nat → ClassId) (ρ : Nat → Nat → Nat) (σ : Sg) : va_W := objs.map (fun q => (ρ q.1 q.2, cellOf ty ρ σ q.1 q.2))
theorem objs_nd : objs.Nodup := by decide +kernel
theorem ws_at {ty : Nat → ClassId} {ρ : Nat → Nat → Nat} {σ : Sg} {T i : Nat} (h : Vld T i) : ∃ p : Nat, objs[p]? = some (T, i) ∧ (WS ty ρ σ)[p]? = some (ρ T i, cellOf ty ρ σ T i) := by
  obtain ⟨p, hp⟩ := List.getElem?_of_mem h
  exact ⟨p, hp, by simp [WS, hp]⟩
/-- one cell changes, all others stay -/
theorem ws_set {ty : Nat → ClassId} {ρ : Nat → Nat → Nat} {σ σ' : Sg} {T i p : Nat} {e : va_E} (hp : objs[p]? = some (T, i)) (he : cellOf ty ρ σ' T i = e)
    (ho : ∀ T' i', ¬ (T' = T ∧ i' = i) → (T', i') ∈ objs → cellOf ty ρ σ' T' i' = cellOf ty ρ σ T' i') : (WS ty ρ σ).set p (ρ T i, e) = WS ty ρ σ' := by
  apply List.ext_getElem?
  intro j
  have hl : p < objs.length := (List.getElem?_eq_some_iff.mp hp).1
  by_cases hj : j = p
  · subst hj
    rw [List.getElem?_set_self (by simpa [WS] using hl)]
    simp [WS, hp, he]
  · rw [List.getElem?_set_ne (Ne.symm hj)]
    simp only [WS, List.getElem?_map]
    cases hq : objs[j]? with
    | none => rfl
    | some q =>
      obtain ⟨T', i'⟩ := q
      simp only [Option.map_some, Option.some.injEq, Prod.mk.injEq, true_and]
      refine (ho T' i' (fun hh => hj ?_) (List.mem_of_getElem? hq)).symm
      obtain ⟨rfl, rfl⟩ := hh
      obtain ⟨h1, h2⟩ := List.getElem?_eq_some_iff.mp hp
      obtain ⟨h3, h4⟩ := List.getElem?_eq_some_iff.mp hq
      exact (List.getElem?_inj h3 objs_nd).mp (hq.trans hp.symm)
theorem fv_congr {ρ : Nat → Nat → Nat} {σ σ' : Sg} {T i : Nat} (h : ∀ k, gI σ' T i k = gI σ T i k) (ds : List (Option (Nat × Option Nat))) : ∀ k, fv ρ σ' T i k ds = fv ρ σ T i k ds := by
  induction ds with
  | nil => intro k; rfl
  | cons d ds ih =>
    intro k
    simp only [fv, ih]
    congr 1
    rcases d with _ | ⟨a, _ | b⟩ <;> simp [fv1, h]
theorem cell_congr {ty : Nat → ClassId} {ρ : Nat → Nat → Nat} {σ σ' : Sg} {T i : Nat} (h1 : ∀ k, gI σ' T i k = gI σ T i k) (h2 : ∀ k, gA σ' T i k = gA σ T i k) (h3 : akind T = 3 → gL σ' = gL σ) (h4 : akind T = 4 → gD σ' = gD σ) : cellOf ty ρ σ' T i = cellOf ty ρ σ T i := by
  unfold cellOf
  have e2 : gA σ' T i = gA σ T i := funext h2
  cases hd : dsc T with
  | some q => simp only [fv_congr h1]
  | none =>
    simp only [e2]
    have hk : akind T = 0 ∨ akind T = 1 ∨ akind T = 2 ∨ akind T = 3 ∨ akind T = 4 := by
      unfold akind
      split <;> simp
    rcases hk with hk | hk | hk | hk | hk <;> simp only [hk]
    · rw [h3 hk]
    · rw [h4 hk]
theorem fv_set {ρ : Nat → Nat → Nat} {σ : Sg} {T i k : Nat} {x : Int32} (ds : List (Option (Nat × Option Nat))) : ∀ k0, ds[k]? = some none → fv ρ (sI σ T i (k0 + k) x) T i k0 ds = (fv ρ σ T i k0 ds).set k (.int x) := by
  have other : ∀ (ds : List (Option (Nat × Option Nat))) (k0 kx : Nat), kx < k0 → fv ρ (sI σ T i kx x) T i k0 ds = fv ρ σ T i k0 ds := by
    intro ds
    induction ds with
    | nil => intro k0 kx _; rfl
    | cons d ds ih =>
      intro k0 kx hx
      simp only [fv, ih (k0 + 1) kx (by omega)]
      congr 1
      rcases d with _ | ⟨a, _ | b⟩ <;> simp [fv1, gI_sI]
      intro h; omega
  induction ds generalizing k with
  | nil => intro k0 h; simp at h
  | cons d ds ih =>
    intro k0 h
    cases k with
    | zero =>
      simp only [List.getElem?_cons_zero, Option.some.injEq] at h
      subst h
      simp only [fv, List.set_cons_zero, Nat.add_zero]
      rw [other ds (k0 + 1) k0 (by omega)]
      congr 1
      simp [fv1, gI_sI]
    | succ k =>
      simp only [List.getElem?_cons_succ] at h
      have e := ih (k0 + 1) h
      simp only [fv, List.set_cons_succ]
      rw [show k0 + (k + 1) = k0 + 1 + k by omega, e]
      congr 1
      rcases d with _ | ⟨a, _ | b⟩ <;> simp [fv1, gI_sI]
      intro h; omega
theorem cell_sI {ty : Nat → ClassId} {ρ : Nat → Nat → Nat} {σ : Sg} {T i k ci : Nat} {ds : List (Option (Nat × Option Nat))} {x : Int32} (hd : dsc T = some (ci, ds)) (hk : ds[k]? = some none) : cellOf ty ρ (sI σ T i k x) T i = .inr (ci, (fv ρ σ T i 0 ds).set k (.int x)) := by
  unfold cellOf
  simp only [hd]
  have := fv_set (ρ := ρ) (σ := σ) (T := T) (i := i) (x := x) ds 0 hk
  rw [Nat.zero_add] at this
  rw [this]
theorem ws_sI {ty : Nat → ClassId} {ρ : Nat → Nat → Nat} {σ : Sg} {T i k ci p : Nat} {ds : List (Option (Nat × Option Nat))} {x : Int32} (hp : objs[p]? = some (T, i)) (hd : dsc T = some (ci, ds)) (hk : ds[k]? = some none) :
    (WS ty ρ σ).set p (ρ T i, .inr (ci, (fv ρ σ T i 0 ds).set k (.int x))) = WS ty ρ (sI σ T i k x) :=
  ws_set hp (cell_sI hd hk) (fun T' i' hn _ => cell_congr (fun k' => by rw [gI_sI, if_neg (fun h => hn ⟨h.1, h.2.1⟩)]) (fun _ => rfl) (fun _ => rfl) (fun _ => rfl))
theorem ws_sA {ty : Nat → ClassId} {ρ : Nat → Nat → Nat} {σ : Sg} {T i k t p : Nat} {x : Int32} (hp : objs[p]? = some (T, i)) (hd : dsc T = none) (hk : akind T = t) (ht : t = 0 ∨ t = 1) :
    (WS ty ρ σ).set p (ρ T i, .inl (ty t, alen T, .inl (upd (gA σ T i) k x))) = WS ty ρ (sA σ T i k x) := by
  refine ws_set hp ?_ (fun T' i' hn _ => cell_congr (fun k' => rfl) (fun k' => by rw [gA_sA, if_neg (fun h => hn ⟨h.1, h.2.1⟩)]) (fun _ => rfl) (fun _ => rfl))
  have e : gA (sA σ T i k x) T i = upd (gA σ T i) k x := by
    funext j
    simp [gA_sA, upd]
  unfold cellOf
  rw [hd, hk, e]
  rcases ht with rfl | rfl <;> rfl
theorem cell_int {ty : Nat → ClassId} {ρ : Nat → Nat → Nat} {σ : Sg} {T i : Nat} (hd : dsc T = none) (hk : akind T = 0) : cellOf ty ρ σ T i = .inl (ty 0, alen T, .inl (gA σ T i)) := by unfold cellOf; rw [hd, hk]; rfl
theorem cell_char {ty : Nat → ClassId} {ρ : Nat → Nat → Nat} {σ : Sg} {T i : Nat} (hd : dsc T = none) (hk : akind T = 1) : cellOf ty ρ σ T i = .inl (ty 1, alen T, .inl (gA σ T i)) := by unfold cellOf; rw [hd, hk]; rfl
theorem cell_obj {ty : Nat → ClassId} {ρ : Nat → Nat → Nat} {σ : Sg} {T i ci : Nat} {ds : List (Option (Nat × Option Nat))} (hd : dsc T = some (ci, ds)) : cellOf ty ρ σ T i = .inr (ci, fv ρ σ T i 0 ds) := by unfold cellOf; rw [hd]
