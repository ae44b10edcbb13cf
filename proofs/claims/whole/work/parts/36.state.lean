/-! PURE: what the two sides stand for together -/
/-- the row and its farms; what is kept, oldest first; the snapshot; the refusal; the text; the fault; the line -/
abbrev AS : Type := (Row × Nat) × List (Row × Nat) × Option (Row × Nat) × (Int32 × Int32 × Int32) × List Int32 × Int32 × List Int32
def aR (a : AS) : Row × Nat := a.1
def aH (a : AS) : List (Row × Nat) := a.2.1
def aS (a : AS) : Option (Row × Nat) := a.2.2.1
def aW (a : AS) : Int32 × Int32 × Int32 := a.2.2.2.1
def aX (a : AS) : List Int32 := a.2.2.2.2.1
def aF (a : AS) : Int32 := a.2.2.2.2.2.1
def aL (a : AS) : List Int32 := a.2.2.2.2.2.2
def AInv (a : AS) : Prop := Inv (aR a).1 (aR a).2 ∧ (∀ K ∈ aH a, Inv K.1 K.2) ∧ (∀ K, aS a = some K → Inv K.1 K.2) ∧ (aH a).length ≤ 8 ∧ (aX a).length ≤ 60 ∧ (aL a).length ≤ 80 ∧ ∀ x ∈ aX a, nch x = x
def rowI (σ : Sg) (T : Nat) (L : List Int32) : Prop := ∀ k (h : k < L.length), gA σ T 0 k = L[k]
def CRel (σ : Sg) (a : AS) : Prop := CR σ 0 (aR a).1 ∧ (∃ np, np < 8 ∧ gI σ 6 0 1 = nI np ∧ gI σ 6 0 2 = nI (aH a).length ∧ ∀ j (hj : j < (aH a).length), CR σ (3 + (np + 8 - (aH a).length + j) % 8) (aH a)[j].1) ∧
  (gI σ 0 0 3 = b01 (aS a).isSome ∧ ∀ K, aS a = some K → CR σ 2 K.1) ∧ (gI σ 8 0 0 = (aW a).1 ∧ gI σ 8 0 1 = (aW a).2.1 ∧ gI σ 8 0 2 = (aW a).2.2) ∧ (gI σ 9 0 1 = nI (aX a).length ∧ rowI σ 10 (aX a)) ∧ gI σ 0 0 7 = aF a ∧ (gI σ 12 0 1 = nI (aL a).length ∧ rowI σ 13 (aL a))
def keptIs (σ : Sg) (H : List (Row × Nat)) : Prop := ∀ j (hj : j < H.length) k, k < 44 → gA σ 22 0 (44 * j + k) = H[j].1 k
/-- w: whether it stands within a text's commands -/
def MRel (σ : Sg) (a : AS) (w : Int32) : Prop := MR σ (aR a).1 ∧ (gI σ 20 0 5 = nI (aH a).length ∧ keptIs σ (aH a)) ∧ (gI σ 20 0 4 = b01 (aS a).isSome ∧ ∀ K, aS a = some K → ∀ k, k < 44 → gA σ 23 0 k = K.1 k) ∧ (gI σ 20 0 9 = (aW a).1 ∧ gI σ 20 0 10 = (aW a).2.1 ∧ gI σ 20 0 11 = (aW a).2.2) ∧ (gI σ 20 0 13 = nI (aX a).length ∧ rowI σ 25 (aX a)) ∧ gI σ 20 0 14 = aF a ∧ (gI σ 20 0 16 = nI (aL a).length ∧ rowI σ 26 (aL a)) ∧ gI σ 20 0 6 = w
theorem rowI.fr {S : List Nat} {σ σ' : Sg} {T : Nat} {L : List Int32} (h : Fr S σ σ') (hT : T ∉ S) (hr : rowI σ T L) : rowI σ' T L := fun k hk => (h.1 T hT 0 k).2.trans (hr k hk)
theorem rowI.fm {A : List Nat} {I : List (Nat × Nat)} {σ σ' : Sg} {T : Nat} {L : List Int32} (h : Fm A I σ σ') (hT : T ∉ A) (hr : rowI σ T L) : rowI σ' T L := fun k hk => (h.2.1 T hT 0 k).trans (hr k hk)
theorem CR.fm {A : List Nat} {I : List (Nat × Nat)} {σ σ' : Sg} {i : Nat} {G : Row} (h : Fm A I σ σ') (hA : ∀ T, T ≤ 13 → T ∉ A) (hI : ∀ T k, T ≤ 13 → (T, k) ∉ I) (hC : CR σ i G) : CR σ' i G := by
  obtain ⟨c0, c1, c2, c3, c4, c5, c6, c7, c8⟩ := hC
  exact ⟨(h.1 1 i 0 (hI 1 0 (by omega))).trans c0, (h.1 1 i 5 (hI 1 5 (by omega))).trans c1, (h.1 1 i 6 (hI 1 6 (by omega))).trans c2, (h.1 1 i 7 (hI 1 7 (by omega))).trans c3, (h.1 1 i 8 (hI 1 8 (by omega))).trans c4, fun k hk => (h.2.1 5 (hA 5 (by omega)) i k).trans (c5 k hk), fun k hk => (h.2.1 2 (hA 2 (by omega)) i k).trans (c6 k hk), fun k hk => (h.2.1 3 (hA 3 (by omega)) i k).trans (c7 k hk), fun k hk => (h.2.1 4 (hA 4 (by omega)) i k).trans (c8 k hk)⟩
/-- the reference's steps keep the class's side -/
theorem CRel.fm {A : List Nat} {I : List (Nat × Nat)} {σ σ' : Sg} {a : AS} (h : Fm A I σ σ') (hA : ∀ T, T ≤ 13 → T ∉ A) (hI : ∀ T k, T ≤ 13 → (T, k) ∉ I) (hC : CRel σ a) : CRel σ' a := by
  obtain ⟨h1, ⟨np, h2, h3, h4, h5⟩, ⟨h6, h7⟩, ⟨h8, h9, h10⟩, ⟨h11, h12⟩, h13, ⟨h14, h15⟩⟩ := hC
  exact ⟨h1.fm h hA hI, ⟨np, h2, (h.1 6 0 1 (hI 6 1 (by omega))).trans h3, (h.1 6 0 2 (hI 6 2 (by omega))).trans h4, fun j hj => (h5 j hj).fm h hA hI⟩, ⟨(h.1 0 0 3 (hI 0 3 (by omega))).trans h6, fun K hK => (h7 K hK).fm h hA hI⟩,
    ⟨(h.1 8 0 0 (hI 8 0 (by omega))).trans h8, (h.1 8 0 1 (hI 8 1 (by omega))).trans h9, (h.1 8 0 2 (hI 8 2 (by omega))).trans h10⟩, ⟨(h.1 9 0 1 (hI 9 1 (by omega))).trans h11, h12.fm h (hA 10 (by omega))⟩, (h.1 0 0 7 (hI 0 7 (by omega))).trans h13, ⟨(h.1 12 0 1 (hI 12 1 (by omega))).trans h14, h15.fm h (hA 13 (by omega))⟩⟩
/-- steps on the way's and the keys' rows keep the class's side -/
theorem CRel.fr {S : List Nat} {σ σ' : Sg} {a : AS} (h : Fr S σ σ') (hS : ∀ T ∈ S, 14 ≤ T) (hC : CRel σ a) : CRel σ' a := by
  have n : ∀ T, T ≤ 13 → T ∉ S := fun T hT q => by have := hS T q; omega
  have cr : ∀ {i : Nat} {G : Row}, CR σ i G → CR σ' i G := fun hC => hC.fr h (n 1 (by omega)) (n 2 (by omega)) (n 3 (by omega)) (n 4 (by omega)) (n 5 (by omega))
  obtain ⟨h1, ⟨np, h2, h3, h4, h5⟩, ⟨h6, h7⟩, ⟨h8, h9, h10⟩, ⟨h11, h12⟩, h13, ⟨h14, h15⟩⟩ := hC
  exact ⟨cr h1, ⟨np, h2, (h.1 6 (n 6 (by omega)) 0 1).1.trans h3, (h.1 6 (n 6 (by omega)) 0 2).1.trans h4, fun j hj => cr (h5 j hj)⟩, ⟨(h.1 0 (n 0 (by omega)) 0 3).1.trans h6, fun K hK => cr (h7 K hK)⟩,
    ⟨(h.1 8 (n 8 (by omega)) 0 0).1.trans h8, (h.1 8 (n 8 (by omega)) 0 1).1.trans h9, (h.1 8 (n 8 (by omega)) 0 2).1.trans h10⟩, ⟨(h.1 9 (n 9 (by omega)) 0 1).1.trans h11, h12.fr h (n 10 (by omega))⟩, (h.1 0 (n 0 (by omega)) 0 7).1.trans h13, ⟨(h.1 12 (n 12 (by omega)) 0 1).1.trans h14, h15.fr h (n 13 (by omega))⟩⟩
theorem MRel.fr {S : List Nat} {σ σ' : Sg} {a : AS} {w : Int32} (h : Fr S σ σ') (hS : ∀ T ∈ S, T ≤ 16) (hM : MRel σ a w) : MRel σ' a w := by
  have n : ∀ T, 20 ≤ T → T ∉ S := fun T hT q => by have := hS T q; omega
  obtain ⟨h1, ⟨h2, h3⟩, ⟨h4, h5⟩, ⟨h6, h7, h8⟩, ⟨h9, h10⟩, h11, ⟨h12, h13⟩, h14⟩ := hM
  have f : ∀ k, gI σ' 20 0 k = gI σ 20 0 k := fun k => (h.1 20 (n 20 (by omega)) 0 k).1
  exact ⟨h1.fr h (n 21 (by omega)), ⟨(f 5).trans h2, fun j hj k hk => (h.1 22 (n 22 (by omega)) 0 _).2.trans (h3 j hj k hk)⟩, ⟨(f 4).trans h4, fun K hK k hk => (h.1 23 (n 23 (by omega)) 0 k).2.trans (h5 K hK k hk)⟩, ⟨(f 9).trans h6, (f 10).trans h7, (f 11).trans h8⟩, ⟨(f 13).trans h9, h10.fr h (n 25 (by omega))⟩, (f 14).trans h11, ⟨(f 16).trans h12, h13.fr h (n 26 (by omega))⟩, (f 6).trans h14⟩
/-- steps on the reference's scratch keep its side -/
def Sc (A : List Nat) (I : List (Nat × Nat)) : Prop := (∀ T ∈ A, T = 24 ∨ T = 27 ∨ T = 28) ∧ ∀ q ∈ I, q.1 = 20 ∧ (q.2 = 7 ∨ q.2 = 8 ∨ q.2 = 18 ∨ q.2 = 19 ∨ q.2 = 21)
theorem MRel.fm {A : List Nat} {I : List (Nat × Nat)} {σ σ' : Sg} {a : AS} {w : Int32} (h : Fm A I σ σ') (hs : Sc A I) (hM : MRel σ a w) : MRel σ' a w := by
  have n : ∀ T, (T = 21 ∨ T = 22 ∨ T = 23 ∨ T = 25 ∨ T = 26) → T ∉ A := fun T hT q => by have := hs.1 T q; omega
  have f : ∀ k, (k = 4 ∨ k = 5 ∨ k = 6 ∨ k = 9 ∨ k = 10 ∨ k = 11 ∨ k = 13 ∨ k = 14 ∨ k = 16) → gI σ' 20 0 k = gI σ 20 0 k := fun k hk => h.1 20 0 k (fun q => by have := (hs.2 _ q).2; simp only at this; omega)
  obtain ⟨h1, ⟨h2, h3⟩, ⟨h4, h5⟩, ⟨h6, h7, h8⟩, ⟨h9, h10⟩, h11, ⟨h12, h13⟩, h14⟩ := hM
  exact ⟨h1.fm h (n 21 (by omega)), ⟨(f 5 (by omega)).trans h2, fun j hj k hk => (h.2.1 22 (n 22 (by omega)) 0 _).trans (h3 j hj k hk)⟩, ⟨(f 4 (by omega)).trans h4, fun K hK k hk => (h.2.1 23 (n 23 (by omega)) 0 k).trans (h5 K hK k hk)⟩, ⟨(f 9 (by omega)).trans h6, (f 10 (by omega)).trans h7, (f 11 (by omega)).trans h8⟩, ⟨(f 13 (by omega)).trans h9, h10.fm h (n 25 (by omega))⟩, (f 14 (by omega)).trans h11, ⟨(f 16 (by omega)).trans h12, h13.fm h (n 26 (by omega))⟩, (f 6 (by omega)).trans h14⟩
/-- what a call comes to: an answer, or the first or second way to be refused -/
abbrev Out : Type := Int32 ⊕ Nat
def clTags : List Nat := [0, 1, 2, 3, 4, 5, 6, 7, 8, 9, 10, 11, 12, 13, 14, 15, 16]
def moRows : List Nat := [21, 22, 23, 24, 25, 26, 27, 28]
def moInts : List (Nat × Nat) := (List.range 22).map (fun k => (20, k))
/-- the class's call: from a to a', with that end; e: the names of what is thrown -/
def SimC (r : Option ((Int32 ⊕ String) × Sg)) (σ : Sg) (o : Out) (a' : AS) (e : Nat → String) : Prop := ∃ q σ1, r = some (q, σ1) ∧ CRel σ1 a' ∧ Fr clTags σ σ1 ∧ q = (match o with | .inl v => .inl v | .inr c => .inr (e c))
/-- the reference's call -/
def SimM (r : Option (Int32 × Sg)) (σ : Sg) (o : Out) (a' : AS) : Prop := ∃ v σ1, r = some (v, σ1) ∧ MRel σ1 a' 0 ∧ Fm moRows moInts σ σ1 ∧ (match o with | .inl x => v = x ∧ gI σ1 20 0 8 = 0 | .inr c => gI σ1 20 0 8 = nI c ∧ (c = 1 ∨ c = 2))
def BothRel (σ : Sg) (a : AS) : Prop := AInv a ∧ CRel σ a ∧ MRel σ a 0
theorem Fm.toMo {A : List Nat} {I : List (Nat × Nat)} {σ σ' : Sg} (h : Fm A I σ σ') (hA : ∀ T ∈ A, T ∈ moRows) (hI : ∀ q ∈ I, q ∈ moInts) : Fm moRows moInts σ σ' := h.mono hA hI
theorem mo_no {T k : Nat} (h : T ≤ 19) : (T, k) ∉ moInts := by
  intro q
  simp only [moInts, List.mem_map, Prod.mk.injEq] at q
  obtain ⟨x, -, rfl, -⟩ := q
  omega
theorem mo_noR {T : Nat} (h : T ≤ 19) : T ∉ moRows := by
  intro q
  simp only [moRows, List.mem_cons, List.not_mem_nil, or_false] at q
  omega
theorem CRel.mo {σ σ' : Sg} {a : AS} (h : Fm moRows moInts σ σ') (hC : CRel σ a) : CRel σ' a := hC.fm h (fun T hT => mo_noR (by omega)) (fun T k hT => mo_no (by omega))
theorem MRel.cl {σ σ' : Sg} {a : AS} {w : Int32} (h : Fr clTags σ σ') (hM : MRel σ a w) : MRel σ' a w := hM.fr h (fun T hT => by simp only [clTags, List.mem_cons, List.not_mem_nil, or_false] at hT; omega)
