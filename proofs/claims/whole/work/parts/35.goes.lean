/-! PURE: the reference's way -/
def Fm (A : List Nat) (I : List (Nat × Nat)) (σ σ' : Sg) : Prop := (∀ T i k, (T, k) ∉ I → gI σ' T i k = gI σ T i k) ∧ (∀ T, T ∉ A → ∀ i k, gA σ' T i k = gA σ T i k) ∧ gL σ' = gL σ ∧ gD σ' = gD σ
theorem Fm.refl {A : List Nat} {I : List (Nat × Nat)} {σ : Sg} : Fm A I σ σ := ⟨fun _ _ _ _ => rfl, fun _ _ _ _ => rfl, rfl, rfl⟩
theorem Fm.trans {A : List Nat} {I : List (Nat × Nat)} {a b c : Sg} (h : Fm A I a b) (g : Fm A I b c) : Fm A I a c := ⟨fun T i k hT => (g.1 T i k hT).trans (h.1 T i k hT), fun T hT i k => (g.2.1 T hT i k).trans (h.2.1 T hT i k), g.2.2.1.trans h.2.2.1, g.2.2.2.trans h.2.2.2⟩
theorem Fm.mono {A A' : List Nat} {I I' : List (Nat × Nat)} {a b : Sg} (h : Fm A I a b) (ha : ∀ T ∈ A, T ∈ A') (hi : ∀ T ∈ I, T ∈ I') : Fm A' I' a b := ⟨fun T i k hT => h.1 T i k (fun q => hT (hi _ q)), fun T hT => h.2.1 T (fun q => hT (ha _ q)), h.2.2⟩
theorem Fm.sI {A : List Nat} {I : List (Nat × Nat)} {σ : Sg} {T i k : Nat} {x : Int32} (h : (T, k) ∈ I) : Fm A I σ (sI σ T i k x) := ⟨fun T' i' k' hT => by rw [gI_sI, if_neg (fun (q : T' = T ∧ i' = i ∧ k' = k) => hT (by rw [q.1, q.2.2]; exact h))], fun _ _ _ _ => rfl, rfl, rfl⟩
theorem Fm.sA {A : List Nat} {I : List (Nat × Nat)} {σ : Sg} {T i k : Nat} {x : Int32} (h : T ∈ A) : Fm A I σ (sA σ T i k x) := ⟨fun _ _ _ _ => rfl, fun T' hT i' k' => by rw [gA_sA, if_neg (fun (q : T' = T ∧ i' = i ∧ k' = k) => hT (q.1 ▸ h))], rfl, rfl⟩
theorem MR.fm {A : List Nat} {I : List (Nat × Nat)} {σ σ' : Sg} {G : Row} (h : Fm A I σ σ') (h1 : 21 ∉ A) (hM : MR σ G) : MR σ' G := fun k hk => (h.2.1 21 h1 0 k).trans (hM k hk)
theorem rowIs.fm {A : List Nat} {I : List (Nat × Nat)} {σ σ' : Sg} {T : Nat} {L : List Nat} (h : Fm A I σ σ') (hT : T ∉ A) (hr : rowIs σ T L) : rowIs σ' T L := fun k hk => (h.2.1 T hT 0 k).trans (hr k hk)
def PR (σ : Sg) (P : List Nat) : Prop := gI σ 20 0 18 = nI P.length ∧ P.length ≤ 12 ∧ rowIs σ 27 P
section GO
variable {G : Row} {n : Nat}
def mkS (G : Row) : Sg := (fun T _ k => if T = 1 then (match k with | 0 => G 0 | 5 => G 1 | 6 => G 2 | 7 => G 3 | 8 => G 4 | _ => 0) else 0, fun T _ k => match T with | 5 => G (5 + k) | 2 => G (8 + k) | 3 => G (20 + k) | 4 => G (32 + k) | _ => 0, 0, 0)
theorem mkS_ok : CR (mkS G) 0 G := ⟨rfl, rfl, rfl, rfl, rfl, fun _ _ => rfl, fun _ _ => rfl, fun _ _ => rfl, fun _ _ => rfl⟩
theorem path_le (hI : Inv G n) {a b : Nat} (ha : a < n) (hb : b < n) : (path G a b).length ≤ 12 := by
  obtain ⟨σ', -, -, -, -, h⟩ := c_follow (mkS_ok (G := G)) hI ha hb
  exact h
theorem up_anti (hI : Inv G n) {x y : Nat} (hx : x < n) (hy : y < n) (h1 : x ∈ up G (nI y)) (h2 : y ∈ up G (nI x)) : x = y := by
  by_cases h : x = y
  · exact h
  · exfalso
    have hu := up_c hI hy
    have hn := up_nd hI.1 hI.2.2.1 (Or.inr ⟨y, hy, rfl⟩ : FOk n (nI y))
    rw [hu] at h1 hn
    rcases List.mem_cons.mp h1 with h3 | h3
    · exact h h3
    · exact (List.nodup_cons.mp hn).1 (up_trans hI (hI.2.2.1.ok hy) h3 h2)
theorem mem_after (hI : Inv G n) {v : Int32} (hv : FOk n v) {U : List Nat} {m x : Nat} (hm : meetL U (up G v) = some m) (hx : x ∈ up G v) (hxU : x ∈ U) : x ∈ up G (nI m) := by
  refine (up_ind hI.1 hI.2.2.1 (C := fun v => meetL U (up G v) = some m → x ∈ up G v → x ∈ up G (nI m)) ?_ ?_ hv) hm hx
  · intro h1; rw [up_neg] at h1; cases h1
  · intro k hk ih h1 h2
    have hu := up_c hI hk
    by_cases hkU : k ∈ U
    · have : m = k := by rw [hu] at h1; simpa [meetL, List.find?_cons, hkU] using h1.symm
      rw [this]; exact h2
    · have e2 : meetL U (up G (nI k)) = meetL U (up G (G (20 + k))) := by rw [hu]; simp [meetL, List.find?_cons, hkU]
      rw [e2] at h1
      rw [hu] at h2
      rcases List.mem_cons.mp h2 with h3 | h3
      · exact absurd (h3 ▸ hxU) hkU
      · exact ih h1 h3
theorem meet_sym (hI : Inv G n) {a b : Nat} (ha : a < n) (hb : b < n) : meetL (up G (nI a)) (up G (nI b)) = meetL (up G (nI b)) (up G (nI a)) := by
  have fa : FOk n (nI a) := Or.inr ⟨a, ha, rfl⟩
  have fb : FOk n (nI b) := Or.inr ⟨b, hb, rfl⟩
  cases h1 : meetL (up G (nI a)) (up G (nI b)) with
  | none =>
    symm
    rw [meetL_none] at h1 ⊢
    exact fun x hx hx2 => h1 x hx2 hx
  | some m =>
    obtain ⟨m1, m2⟩ := meetL_mem h1
    cases h2 : meetL (up G (nI b)) (up G (nI a)) with
    | none => exact absurd m2 ((meetL_none _ _).mp h2 m m1)
    | some m' =>
      obtain ⟨m3, m4⟩ := meetL_mem h2
      have k1 := mem_after hI fb h1 m3 m4
      have k2 := mem_after hI fa h2 m1 m2
      rw [up_anti hI (up_mem hI.1 hI.2.2.1 fa m m1) (up_mem hI.1 hI.2.2.1 fa m' m4) k2 k1]
theorem joined_meet (hI : Inv G n) {a b : Nat} (ha : a < n) (hb : b < n) : joined G a b = true ↔ ∃ m, meetL (up G (nI a)) (up G (nI b)) = some m := by
  rw [joined_iff hI ha hb]
  constructor
  · rintro ⟨m, h1, h2⟩
    cases h : meetL (up G (nI a)) (up G (nI b)) with
    | none => exact absurd h1 ((meetL_none _ _).mp h m h2)
    | some m' => exact ⟨m', rfl⟩
  · rintro ⟨m, h⟩
    exact ⟨m, (meetL_mem h).1, (meetL_mem h).2⟩
theorem m_meetOf {σ : Sg} (hM : MR σ G) (hI : Inv G n) {a b m : Nat} (ha : a < n) (hb : b < n) (hm : meetL (up G (nI a)) (up G (nI b)) = some m) : p_X7_meetOf (nI a) (nI b) σ = some (nI m) := by
  have hn := hI.1
  rw [meet_sym hI ha hb] at hm
  have fa : FOk n (nI a) := Or.inr ⟨a, ha, rfl⟩
  have fb : FOk n (nI b) := Or.inr ⟨b, hb, rfl⟩
  have la := up_len hI.1 hI.2.2.1 fa
  have key : ∀ fuel, (up G (nI a)).length ≤ fuel → meetL (up G (nI b)) (up G (nI a)) = some m → p_X7_meetOf_L2 σ fuel (nI b) (nI a) = some (nI m) := by
    refine up_ind hI.1 hI.2.2.1 (C := fun v => ∀ fuel, (up G v).length ≤ fuel → meetL (up G (nI b)) (up G v) = some m → p_X7_meetOf_L2 σ fuel (nI b) v = some (nI m)) ?_ ?_ fa
    · intro fuel _ h; rw [up_neg] at h; cases h
    · intro k hk ih fuel hf h
      have hu := up_c hI hk
      have hl := congrArg List.length hu
      simp only [List.length_cons] at hl
      obtain ⟨fuel, rfl⟩ : ∃ z, fuel = z + 1 := ⟨fuel - 1, by omega⟩
      simp only [p_X7_meetOf_L2]
      rw [m_liesBehind hM hI hk fb]
      simp only [Option.bind_some]
      by_cases hkU : k ∈ up G (nI b)
      · have : m = k := by rw [hu] at h; simpa [meetL, List.find?_cons, hkU] using h.symm
        subst this
        simp [onUp, hkU, b01]
      · have e2 : meetL (up G (nI b)) (up G (nI k)) = meetL (up G (nI b)) (up G (G (20 + k))) := by rw [hu]; simp [meetL, List.find?_cons, hkU]
        rw [e2] at h
        simp only [onUp, hkU, decide_false, b01]
        rw [if_pos (by decide), m_parent hM (by omega)]
        simp only [Option.bind_some]
        exact ih fuel (by omega) h
  unfold p_X7_meetOf
  exact key 400 (by omega) hm
theorem goe15 (hI : Inv G n) (b : Int32) {m : Nat} {v : Int32} (hv : FOk n v) : m ∈ up G v → ∀ (fuel : Nat) (σ : Sg) (Q : List Nat), MR σ G → gI σ 20 0 18 = nI Q.length → rowIs σ 27 Q → Q.length + (up G v).idxOf m < 12 → (up G v).idxOf m < fuel →
    ∃ σ', p_X7_goes_L15 fuel b (nI m) v σ = p_X7_goes_L15 1 b (nI m) (nI m) σ' ∧ gI σ' 20 0 18 = nI (Q.length + (up G v).idxOf m) ∧ rowIs σ' 27 (Q ++ (up G v).take ((up G v).idxOf m)) ∧ Fm [27] [(20, 18)] σ σ' := by
  have hn := hI.1
  refine up_ind hI.1 hI.2.2.1 (C := fun v => m ∈ up G v → ∀ (fuel : Nat) (σ : Sg) (Q : List Nat), MR σ G → gI σ 20 0 18 = nI Q.length → rowIs σ 27 Q → Q.length + (up G v).idxOf m < 12 → (up G v).idxOf m < fuel →
    ∃ σ', p_X7_goes_L15 fuel b (nI m) v σ = p_X7_goes_L15 1 b (nI m) (nI m) σ' ∧ gI σ' 20 0 18 = nI (Q.length + (up G v).idxOf m) ∧ rowIs σ' 27 (Q ++ (up G v).take ((up G v).idxOf m)) ∧ Fm [27] [(20, 18)] σ σ') ?_ ?_ hv
  · intro h; rw [up_neg] at h; cases h
  · intro k hk ih hm fuel σ Q hM h1 h2 h3 h4
    have hu := up_c hI hk
    have hmn := up_mem hI.1 hI.2.2.1 (Or.inr ⟨k, hk, rfl⟩ : FOk n (nI k)) m hm
    obtain ⟨fuel, rfl⟩ : ∃ z, fuel = z + 1 := ⟨fuel - 1, by omega⟩
    by_cases hkm : k = m
    · subst hkm
      have e0 : (up G (nI k)).idxOf k = 0 := by rw [hu]; simp
      refine ⟨σ, ?_, by rw [e0]; exact h1, by rw [e0]; simpa using h2, Fm.refl⟩
      simp only [p_X7_goes_L15, if_true]
    · have hkb : (k == m) = false := by simpa using hkm
      have e0 : (up G (nI k)).idxOf m = (up G (G (20 + k))).idxOf m + 1 := by rw [hu, List.idxOf_cons, hkb]; rfl
      have hm2 : m ∈ up G (G (20 + k)) := by
        rw [hu] at hm
        rcases List.mem_cons.mp hm with h | h
        · exact absurd h.symm hkm
        · exact h
      rw [e0] at h3 h4
      have hq : Q.length < 12 := by omega
      have e1 : (gI (sA σ 27 0 Q.length (nI k)) 20 0 18) + 1 = nI (Q.length + 1) := by rw [gI_sA, h1, nI_1]
      have hM2 : MR (sI (sA σ 27 0 Q.length (nI k)) 20 0 18 (nI (Q.length + 1))) G := (hM.fm (Fm.sA (A := [27]) (I := []) (by simp)) (by decide)).fm (Fm.sI (A := []) (I := [(20, 18)]) (by simp)) (by decide)
      obtain ⟨σ', g1, g2, g3, g4⟩ := ih hm2 fuel (sI (sA σ 27 0 Q.length (nI k)) 20 0 18 (nI (Q.length + 1))) (Q ++ [k]) hM2
        (by rw [gI_sI, if_pos ⟨rfl, rfl, rfl⟩]; simp)
        (fun j hj => by
          rw [gA_sI, gA_sA]
          by_cases hj2 : j = Q.length
          · subst hj2
            rw [if_pos ⟨rfl, rfl, rfl⟩]; simp
          · rw [if_neg (fun q => hj2 q.2.2)]
            have hj3 : j < Q.length := by simp at hj; omega
            rw [h2 j hj3, List.getElem_append_left hj3])
        (by simp; omega) (by omega)
      refine ⟨σ', ?_, ?_, ?_, ((Fm.sA (by simp)).trans (Fm.sI (by simp))).trans g4⟩
      · rw [p_X7_goes_L15, if_neg (fun e => hkm (nI_inj (by omega) (by omega) e)), h1, if_pos (ib_t hq (by omega)), nI_clamp (by omega), e1, m_parent hM2 (by omega)]
        simp only [Option.bind_some]
        exact g1
      · rw [g2, e0]; simp; congr 1; omega
      · rw [e0, hu, List.take_succ_cons]
        rw [List.append_assoc] at g3
        exact g3
theorem goe86 (hI : Inv G n) {m : Nat} (hm : m < n) (h : Nat) : ∀ (T : List Nat) (v : Int32) (σ : Sg) (fuel : Nat), FOk n v → up G v = T ++ up G (nI m) → m ∉ T → MR σ G → h + T.length < 12 → T.length < fuel →
    ∃ σ', p_X7_goes_L86 fuel (nI m) (nI (h + T.length)) v σ = some σ' ∧ Fm [27] [] σ σ' ∧ (∀ k, k < h ∨ h + T.length < k → gA σ' 27 0 k = gA σ 27 0 k) ∧ gA σ' 27 0 h = nI m ∧ ∀ j (hj : j < T.length), gA σ' 27 0 (h + T.length - j) = nI T[j] := by
  have hn := hI.1
  intro T
  induction T with
  | nil =>
    intro v σ fuel hv hT hmT hM h2 h3
    obtain ⟨fuel, rfl⟩ : ∃ z, fuel = z + 1 := ⟨fuel - 1, by omega⟩
    rcases hv with rfl | ⟨k, hk, rfl⟩
    · rw [up_neg, up_c hI hm] at hT; cases hT
    · rw [up_c hI hk, up_c hI hm] at hT
      simp only [List.nil_append, List.cons.injEq] at hT
      obtain ⟨rfl, -⟩ := hT
      simp only [List.length_nil, Nat.add_zero] at h2 ⊢
      refine ⟨sA σ 27 0 h (nI k), ?_, Fm.sA (by simp), ?_, by rw [gA_sA, if_pos ⟨rfl, rfl, rfl⟩], fun j hj => by simp at hj⟩
      · rw [p_X7_goes_L86, if_pos rfl, if_pos (ib_t (by omega) (by omega)), nI_clamp (by omega)]
      · intro j hj; rw [gA_sA, if_neg (by omega)]
  | cons t T ih =>
    intro v σ fuel hv hT hmT hM h2 h3
    obtain ⟨fuel, rfl⟩ : ∃ z, fuel = z + 1 := ⟨fuel - 1, by omega⟩
    simp only [List.length_cons] at h2 h3
    rcases hv with rfl | ⟨k, hk, rfl⟩
    · rw [up_neg] at hT; cases hT
    · rw [up_c hI hk] at hT
      simp only [List.cons_append, List.cons.injEq] at hT
      obtain ⟨rfl, hT⟩ := hT
      have hkm : ¬ k = m := fun e => hmT (e ▸ List.mem_cons_self)
      have hM2 : MR (sA σ 27 0 (h + T.length + 1) (nI k)) G := hM.fm (Fm.sA (A := [27]) (I := []) (by simp)) (by decide)
      obtain ⟨σ', g1, g2, g3, g5, g4⟩ := ih (G (20 + k)) (sA σ 27 0 (h + T.length + 1) (nI k)) fuel (hI.2.2.1.ok hk) hT (fun q => hmT (List.mem_cons_of_mem _ q)) hM2 (by omega) (by omega)
      refine ⟨σ', ?_, (Fm.sA (by simp)).trans g2, ?_, g5, ?_⟩
      · rw [p_X7_goes_L86]
        simp only [List.length_cons, ← Nat.add_assoc]
        rw [if_neg (fun e => hkm (nI_inj (by omega) (by omega) e)), if_pos (ib_t (by omega) (by omega)), nI_clamp (by omega), m_parent hM2 (by omega)]
        simp only [Option.bind_some, pk_m1]
        exact g1
      · intro j hj
        simp only [List.length_cons] at hj
        rw [g3 j (by omega), gA_sA, if_neg (by omega)]
      · intro j hj
        simp only [List.length_cons] at hj ⊢
        cases j with
        | zero =>
          rw [g3 _ (by omega), gA_sA, if_pos ⟨rfl, rfl, by omega⟩]
          rfl
        | succ j =>
          have := g4 j (by omega)
          rw [show h + (T.length + 1) - (j + 1) = h + T.length - j by omega, this]
          rfl
theorem m_goes {σ : Sg} (hM : MR σ G) (hI : Inv G n) {a b : Nat} (ha : a < n) (hb : b < n) (hj : joined G a b = true) : ∃ σ', p_X7_goes (nI a) (nI b) σ = some σ' ∧ Fm [27] [(20, 18)] σ σ' ∧ PR σ' (path G a b) := by
  have hn := hI.1
  obtain ⟨m, hm⟩ := (joined_meet hI ha hb).mp hj
  have fa : FOk n (nI a) := Or.inr ⟨a, ha, rfl⟩
  have fb : FOk n (nI b) := Or.inr ⟨b, hb, rfl⟩
  obtain ⟨m1, m2⟩ := meetL_mem hm
  have hmn := up_mem hI.1 hI.2.2.1 fa m m1
  have l1 := List.idxOf_lt_length_of_mem m1
  have l2 := List.idxOf_lt_length_of_mem m2
  have la := up_len hI.1 hI.2.2.1 fa
  have lb := up_len hI.1 hI.2.2.1 fb
  have hpl : (path G a b).length = _ := path_len hm
  have hple := path_le hI ha hb
  have hM0 : MR (sI σ 20 0 18 0) G := hM.fm (Fm.sI (A := []) (I := [(20, 18)]) (by simp)) (by decide)
  obtain ⟨σ1, g1, g2, g3, g4⟩ := goe15 hI (nI b) fa m1 400 (sI σ 20 0 18 0) [] hM0 (by rw [gI_sI, if_pos ⟨rfl, rfl, rfl⟩]; rfl) (fun k hk => by simp at hk) (by simp; omega) (by omega)
  simp only [List.length_nil, Nat.zero_add, List.nil_append] at g2 g3
  have hM1 : MR σ1 G := hM0.fm g4 (by decide)
  have hsplit := up_split hI fb m m2
  obtain ⟨T, hT⟩ : ∃ T, T = (up G (nI b)).take ((up G (nI b)).idxOf m) := ⟨_, rfl⟩
  have hTl : T.length = (up G (nI b)).idxOf m := by rw [hT, List.length_take]; omega
  obtain ⟨h, hh⟩ : ∃ h, h = (up G (nI a)).idxOf m := ⟨_, rfl⟩
  rw [← hh] at g2 g3 hpl
  rw [← hTl] at hpl
  have hdep : depN G b = T.length + depN G m := by
    have e1 := congrArg List.length (up_c hI hb)
    have e2 := congrArg List.length (up_c hI hmn)
    have e3 := congrArg List.length hsplit
    rw [← hT, List.length_append] at e3
    simp only [List.length_cons] at e1 e2
    unfold depN
    omega
  have hmT : m ∉ T := by
    have hnd := up_nd hI.1 hI.2.2.1 fb
    rw [hsplit, ← hT, up_c hI hmn, List.nodup_append] at hnd
    exact fun q => hnd.2.2 m q m List.mem_cons_self rfl
  obtain ⟨σ2, hσ2⟩ : ∃ σ2, σ2 = sI σ1 20 0 18 (nI (h + T.length + 1)) := ⟨_, rfl⟩
  have f2 : Fm [27] [(20, 18)] σ1 σ2 := by rw [hσ2]; exact Fm.sI (by simp)
  have e5 : gI σ2 20 0 18 = nI (h + T.length + 1) := by rw [hσ2, gI_sI, if_pos ⟨rfl, rfl, rfl⟩]
  obtain ⟨σ', r1, r2, r3, r5, r4⟩ := goe86 hI hmn h T (nI b) σ2 400 fb (by rw [hT]; exact hsplit) hmT (hM1.fm f2 (by decide)) (by omega) (by omega)
  have hP : path G a b = (up G (nI a)).take (h + 1) ++ T.reverse := by simp only [path, pathL, hm, hT, hh]
  refine ⟨σ', ?_, ((Fm.sI (by simp)).trans (g4.trans f2)).trans (r2.mono (by simp) (by simp)), ?_, hple, ?_⟩
  · unfold p_X7_goes
    rw [m_meetOf hM hI ha hb hm]
    simp only [Option.bind_some]
    rw [g1, p_X7_goes_L15, if_pos rfl, m_depth hM1 hI hb, m_depth hM1 hI hmn]
    simp only [Option.bind_some]
    rw [g2, pk_sub (by omega), nI_1, nI_add, show h + (depN G b - depN G m + 1) = h + T.length + 1 by omega, ← hσ2, e5, nI_pred]
    exact r1
  · rw [r2.1 20 0 18 (by simp), e5, hpl]
    congr 1; omega
  · intro k hk
    by_cases hk1 : k < h
    · have hrow : gA σ2 27 0 k = gA σ1 27 0 k := by rw [hσ2]; rfl
      rw [r3 k (Or.inl hk1), hrow, g3 k (by rw [List.length_take]; omega)]
      congr 1
      simp only [hP]
      rw [List.getElem_append_left (by rw [List.length_take]; omega), List.getElem_take, List.getElem_take]
    · by_cases hk2 : k = h
      · subst hk2
        rw [r5]
        congr 1
        simp only [hP]
        rw [List.getElem_append_left (by rw [List.length_take]; omega), List.getElem_take]
        have : k = (up G (nI a)).idxOf m := hh
        simp only [this]
        rw [List.getElem_idxOf]
      · have hj : h + T.length - k < T.length := by omega
        have := r4 (h + T.length - k) hj
        rw [show h + T.length - (h + T.length - k) = k by omega] at this
        rw [this]
        congr 1
        simp only [hP]
        rw [List.getElem_append_right (by rw [List.length_take]; omega), List.getElem_reverse]
        congr 1
        rw [List.length_take]
        omega
end GO
