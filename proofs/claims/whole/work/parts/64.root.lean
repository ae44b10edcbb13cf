/-! PURE: a tree is rooted anew -/
def turnR : Row → Int32 → List Nat → Row
  | G, _, [] => G
  | G, ah, x :: U => turnR (up1 (up1 G (20 + x) ah) (32 + x) (-1)) (nI x) U
theorem turnR_ne {j : Nat} : ∀ (U : List Nat) (G : Row) (ah : Int32), (∀ x ∈ U, j ≠ 20 + x ∧ j ≠ 32 + x) → turnR G ah U j = G j := by
  intro U
  induction U with
  | nil => intro G ah _; rfl
  | cons x U ih =>
    intro G ah h
    simp only [turnR]
    rw [ih _ _ (fun y hy => h y (List.mem_cons_of_mem _ hy)), up1_ne (h x List.mem_cons_self).2, up1_ne (h x List.mem_cons_self).1]
theorem c_rootL {P : List Nat} (hP : ∀ x ∈ P, x < 12) (v : Int32) : ∀ (Q : List Nat) (i fuel : Nat) (ah : Int32) (G : Row) (σ : Sg), (∀ σ, WR σ P → p_X5_farmAt (nI i - 1) σ = some ah) → WR σ P → CR σ 0 G → P.drop i = Q → i + Q.length = P.length → Q.length < fuel → ∃ σ', p_X6_rootAnew_L24 fuel v (nI i) σ = some (v, σ') ∧ CR σ' 0 (turnR G ah Q) ∧ Fx σ σ' := by
  intro Q
  induction Q with
  | nil =>
    intro i fuel ah G σ _ hW hC h1 h2 h3
    have h12 := hW.2.1
    obtain ⟨fuel, rfl⟩ : ∃ z, fuel = z + 1 := ⟨fuel - 1, by omega⟩
    simp only [List.length_nil] at h2
    refine ⟨σ, ?_, hC, Fx.refl⟩
    rw [p_X6_rootAnew_L24, p_X5_farms, bS, hW.1, if_pos (nI_le (by omega) (by omega))]
  | cons x Q ih =>
    intro i fuel ah G σ ha hW hC h1 h2 h3
    have h12 := hW.2.1
    obtain ⟨fuel, rfl⟩ : ∃ z, fuel = z + 1 := ⟨fuel - 1, by omega⟩
    simp only [List.length_cons] at h2 h3
    have hi : i < P.length := by omega
    obtain ⟨hx, hd⟩ := drop_hd h1 hi
    have hx12 : x < 12 := hP x (hx ▸ List.getElem_mem hi)
    have hW1 : WR (sA σ 3 0 x ah) P := hW.fr (S := [3]) (Fr.sA (by simp)) (by decide) (by decide)
    have hW2 : WR (sA (sA σ 3 0 x ah) 4 0 x (-1)) P := hW1.fr (S := [4]) (Fr.sA (by simp)) (by decide) (by decide)
    obtain ⟨σ', e1, c1, f1⟩ := ih (i + 1) fuel (nI x) _ (sA (sA σ 3 0 x ah) 4 0 x (-1)) (fun σ hW => by rw [nI_pred, c_farmAt hW hi, hx]) hW2 ((hC.uPar hx12 _).uPref hx12 _) hd (by omega) (by omega)
    refine ⟨σ', ?_, c1, ((Fx.sA (by omega) (by omega)).trans (Fx.sA (by omega) (by omega))).trans f1⟩
    rw [p_X6_rootAnew_L24, p_X5_farms, bS, hW.1, if_neg (nI_ge hi (by omega)), c_farmAt hW hi, bS, hx, ha σ hW, bS, setPar_n hx12, bS, c_farmAt hW1 hi, bS, hx, pref_n hx12, bS, nI_1]
    exact e1
section ROO
variable {σ : Sg} {G : Row} {n : Nat}
theorem path_up (hI : Inv G n) {k : Nat} (hk : k < n) : path G k (rootN G k) = up G (nI k) := by
  have hm := root_mem hI hk
  have fk : FOk n (nI k) := Or.inr ⟨k, hk, rfl⟩
  have hsp := up_split hI fk _ hm
  have hr := up_root hI hk
  have hmeet : meetL (up G (nI k)) (up G (nI (rootN G k))) = some (rootN G k) := by
    rw [hr]
    simp [meetL, hm]
  have hlen := congrArg List.length hsp
  rw [hr, List.length_append, List.length_take] at hlen
  have hx := List.idxOf_lt_length_of_mem hm
  simp only [List.length_singleton] at hlen
  simp only [path, pathL, hmeet]
  rw [hr]
  simp only [List.idxOf_cons_self, List.take_zero, List.reverse_nil, List.append_nil]
  rw [List.take_of_length_le (by omega)]
def rotRow (G : Row) (k : Nat) : Row := turnR G (-1) (up G (nI k))
theorem c_rootAnew (hC : CR σ 0 G) (hI : Inv G n) {k : Nat} (hk : k < n) : ∃ σ', p_X6_rootAnew (nI k) σ = some (nI (rootN G k), σ') ∧ CR σ' 0 (rotRow G k) ∧ Fx σ σ' := by
  have hn := hI.1
  have fk : FOk n (nI k) := Or.inr ⟨k, hk, rfl⟩
  have hl := up_len hI.1 hI.2.2.1 fk
  obtain ⟨σ1, e1, f1, w1, -, -⟩ := c_follow hC hI hk (root_lt hI hk)
  rw [path_up hI hk] at w1
  have hC1 : CR σ1 0 G := hC.fr f1 (by decide) (by decide) (by decide) (by decide) (by decide)
  have hP : ∀ x ∈ up G (nI k), x < 12 := fun x hx => by
    have := up_mem hI.1 hI.2.2.1 fk x hx
    omega
  obtain ⟨σ2, e2, c2, f2⟩ := c_rootL hP (nI (rootN G k)) (up G (nI k)) 0 400 (-1) G σ1 (fun σ _ => by rw [show nI 0 - 1 = -1 by decide]; exact c_farmAtN) w1 hC1 rfl (by omega) (by omega)
  refine ⟨σ2, ?_, c2, (Fx.fr f1).trans f2⟩
  unfold p_X6_rootAnew
  rw [c_rootOf hC hI hk, bS, e1, bS]
  exact e2
theorem m_rootL (hI : Inv G n) {v : Int32} (hv : FOk n v) : ∀ (fuel : Nat) (ah : Int32) (H : Row) (σ : Sg), MR σ H → (∀ x ∈ up G v, H (20 + x) = G (20 + x)) → (up G v).length < fuel → ∃ σ', p_X7_roots_L4 fuel ah v σ = some σ' ∧ MR σ' (turnR H ah (up G v)) ∧ Fm [21] [] σ σ' := by
  have hn := hI.1
  refine up_ind hI.1 hI.2.2.1 (C := fun v => ∀ (fuel : Nat) (ah : Int32) (H : Row) (σ : Sg), MR σ H → (∀ x ∈ up G v, H (20 + x) = G (20 + x)) → (up G v).length < fuel → ∃ σ', p_X7_roots_L4 fuel ah v σ = some σ' ∧ MR σ' (turnR H ah (up G v)) ∧ Fm [21] [] σ σ') ?_ ?_ hv
  · intro fuel ah H σ hM h1 h3
    obtain ⟨fuel, rfl⟩ : ∃ z, fuel = z + 1 := ⟨fuel - 1, by omega⟩
    rw [up_neg]
    exact ⟨σ, by rw [p_X7_roots_L4, if_pos neg1_lt], hM, Fm.refl⟩
  · intro k hk ih fuel ah H σ hM h1 h3
    have hu := up_c hI hk
    have hl := congrArg List.length hu
    simp only [List.length_cons] at hl
    have fk : FOk n (nI k) := Or.inr ⟨k, hk, rfl⟩
    have hnd := up_nd hI.1 hI.2.2.1 fk
    have hmem := up_mem hI.1 hI.2.2.1 fk
    rw [hu] at hnd h1 hmem
    have hk2 := (List.nodup_cons.mp hnd).1
    obtain ⟨fuel, rfl⟩ : ∃ z, fuel = z + 1 := ⟨fuel - 1, by omega⟩
    have hM2 : MR (sA (sA σ 21 0 (20 + k) ah) 21 0 (32 + k) (-1)) (up1 (up1 H (20 + k) ah) (32 + k) (-1)) := (hM.up1 _ _).up1 _ _
    obtain ⟨σ', e1, m1, f1⟩ := ih fuel (nI k) _ _ hM2 (fun x hx => by
      have hx12 := hmem x (List.mem_cons_of_mem _ hx)
      have hne : x ≠ k := fun e => hk2 (mem_eq e hx)
      rw [up1_ne (by omega), up1_ne (by omega)]
      exact h1 x (List.mem_cons_of_mem _ hx)) (by omega)
    refine ⟨σ', ?_, by rw [hu]; exact m1, ((Fm.sA (by decide)).trans (Fm.sA (by decide))).trans f1⟩
    rw [p_X7_roots_L4, if_neg (nI_pos (by omega)), m_parent hM (by omega), bS, h1 k List.mem_cons_self, show (20 : Int32) + nI k = nI (20 + k) from nI_add 20 k, show (32 : Int32) + nI k = nI (32 + k) from nI_add 32 k, if_pos (ib_t (by omega) (by omega)), if_pos (ib_t (by omega) (by omega)), nI_clamp (by omega), nI_clamp (by omega)]
    exact e1
theorem m_roots (hM : MR σ G) (hI : Inv G n) {k : Nat} (hk : k < n) : ∃ σ', p_X7_roots (nI k) σ = some σ' ∧ MR σ' (rotRow G k) ∧ Fm [21] [] σ σ' := by
  have hn := hI.1
  have fk : FOk n (nI k) := Or.inr ⟨k, hk, rfl⟩
  have hl := up_len hI.1 hI.2.2.1 fk
  exact m_rootL hI fk 400 (-1) G σ hM (fun _ _ => rfl) (by omega)
theorem turnR_in (hI : Inv G n) {v : Int32} (hv : FOk n v) : ∀ (ah : Int32) (H : Row) (x : Nat), x ∈ up G v → turnR H ah (up G v) (32 + x) = -1 ∧ ((v = nI x ∧ turnR H ah (up G v) (20 + x) = ah) ∨ ∃ c, c < n ∧ c ∈ up G v ∧ turnR H ah (up G v) (20 + x) = nI c ∧ G (20 + c) = nI x) := by
  have hn := hI.1
  refine up_ind hI.1 hI.2.2.1 (C := fun v => ∀ (ah : Int32) (H : Row) (x : Nat), x ∈ up G v → turnR H ah (up G v) (32 + x) = -1 ∧ ((v = nI x ∧ turnR H ah (up G v) (20 + x) = ah) ∨ ∃ c, c < n ∧ c ∈ up G v ∧ turnR H ah (up G v) (20 + x) = nI c ∧ G (20 + c) = nI x)) ?_ ?_ hv
  · intro ah H x hx; rw [up_neg] at hx; cases hx
  · intro k hk ih ah H x hx
    have hu := up_c hI hk
    have fk : FOk n (nI k) := Or.inr ⟨k, hk, rfl⟩
    have hnd := up_nd hI.1 hI.2.2.1 fk
    have hmem := up_mem hI.1 hI.2.2.1 fk
    rw [hu] at hnd hx hmem ⊢
    have hk2 := (List.nodup_cons.mp hnd).1
    simp only [turnR]
    rcases List.mem_cons.mp hx with rfl | hx
    · have hne : ∀ y ∈ up G (G (20 + x)), y ≠ x ∧ y < 12 := fun y hy => ⟨fun e => hk2 (mem_eq e hy), by have := hmem y (List.mem_cons_of_mem _ hy); omega⟩
      constructor
      · rw [turnR_ne _ _ _ (fun y hy => by have := hne y hy; omega), up1_eq]
      · left
        refine ⟨rfl, ?_⟩
        rw [turnR_ne _ _ _ (fun y hy => by have := hne y hy; omega), up1_ne (by omega), up1_eq]
    · obtain ⟨h1, h2⟩ := ih (nI k) (up1 (up1 H (20 + k) ah) (32 + k) (-1)) x hx
      refine ⟨h1, ?_⟩
      rcases h2 with ⟨h2, h3⟩ | ⟨c, h2, h3, h4, h5⟩
      · exact Or.inr ⟨k, hk, List.mem_cons_self, h3, h2⟩
      · exact Or.inr ⟨c, h2, List.mem_cons_of_mem _ h3, h4, h5⟩
theorem Inv.root (hI : Inv G n) {k : Nat} (hk : k < n) : Inv (rotRow G k) n := by
  have fk : FOk n (nI k) := Or.inr ⟨k, hk, rfl⟩
  have hn := hI.1
  have hmem := up_mem hI.1 hI.2.2.1 fk
  have hin := turnR_in hI fk (-1) G
  have e : ∀ i, (∀ x ∈ up G (nI k), i ≠ 20 + x ∧ i ≠ 32 + x) → rotRow G k i = G i := fun i h => turnR_ne _ _ _ h
  have hpar := fun q (hq : q < n) => hI.par hq
  have hdc := fun q c (hq : q < n) (h : G (20 + c) = nI q) => dep_child hI (k := q) (c := c) hq h
  have hdl := fun q (hq : q < n) => dep_lt hI hq
  obtain ⟨i1, i2, -, i4, i5, i6⟩ := id hI
  refine ⟨i1, by rw [e 0 (fun _ _ => by omega)]; exact i2, ⟨fun x => if x ∈ up G (nI k) then 12 - depN G x else 13 + depN G x, fun q hq => ?_⟩, fun q hq => ?_, fun q hq => ?_, fun d hd => ?_⟩
  · by_cases hqU : q ∈ up G (nI k)
    · rcases (hin q hqU).2 with ⟨-, h⟩ | ⟨c, h1, h2, h3, h4⟩
      · exact Or.inl h
      · refine Or.inr ⟨c, h1, h3, ?_⟩
        simp only [if_pos h2, if_pos hqU]
        have a1 := hdc q c hq h4
        have a2 := hdl c h1
        omega
    · rw [e (20 + q) (fun x hx => ⟨fun e => hqU (by rw [show q = x by omega]; exact hx), by omega⟩)]
      rcases hpar q hq with h | ⟨p, h1, h2⟩
      · exact Or.inl h
      · refine Or.inr ⟨p, h1, h2, ?_⟩
        simp only [if_neg hqU]
        have a1 := hdc p q h1 h2
        split <;> omega
  · rw [e (8 + q) (fun x hx => ⟨by omega, by omega⟩)]
    exact i4 q hq
  · by_cases hqU : q ∈ up G (nI k)
    · exact Or.inl (hin q hqU).1
    · rw [e (32 + q) (fun x hx => ⟨by have := hmem x hx; omega, fun e => hqU (by rw [show q = x by omega]; exact hx)⟩)]
      rcases i5 q hq with h | ⟨c, h1, h2, h3⟩
      · exact Or.inl h
      · refine Or.inr ⟨c, h1, h2, ?_⟩
        have hcU : c ∉ up G (nI k) := fun hc => hqU (by
          refine up_trans hI fk hc ?_
          rw [up_c hI h1, h3]
          refine List.mem_cons_of_mem _ ?_
          rw [up_c hI hq]
          exact List.mem_cons_self)
        rw [e (20 + c) (fun x hx => ⟨fun e => hcU (by rw [show c = x by omega]; exact hx), by omega⟩)]
        exact h3
  · rw [e (5 + d) (fun x hx => ⟨by omega, by omega⟩)]
    exact i6 d hd
end ROO
theorem chg_root (a b c : Int32) : Chg 114 a b c (p_X7_root a) := by
  intro G n hI
  have hn := hI.1
  cases hf : isF n a with
  | false =>
    refine Or.inl ⟨3, a, reC fun σ hC => ⟨σ, Fr.refl, ?_⟩, reM fun σ hM => ⟨σ, Fm.refl, 0, ?_⟩⟩
    · rw [isR_r]
      unfold p_X6_refusesToRoot
      rw [c_refF1 hC hI hf, bS, if_neg n10, bS, nb1]
    · unfold p_X7_root
      rw [m_isFarm hM hI, hf, bS, if_pos bf0, refuses_rf, bS]
  | true =>
    obtain ⟨k, hk, rfl⟩ := isF_of hn hf
    rcases hI.par hk with hp | ⟨p, hpn, hp⟩
    · refine Or.inl ⟨8, nI k, reC fun σ hC => ⟨σ, Fr.refl, ?_⟩, reM fun σ hM => ⟨σ, Fm.refl, 0, ?_⟩⟩
      · rw [isR_r]
        unfold p_X6_refusesToRoot
        rw [c_refF0 hC hI hf, bS, if_pos rfl, c_parentOf hC (by omega), bS, if_pos hp, keep_kp, bS, if_neg n10, bS, nb1]
      · unfold p_X7_root
        rw [m_isFarm hM hI, hf, bS, if_neg bt0, m_parent hM (by omega), bS, hp, if_neg (by decide), refuses_rf, bS]
    · refine Or.inr ⟨nI (rootN G k), _, n, hI.root hk, ⟨fun σ hC => ⟨σ, ?_, Fr.refl⟩, fun σ hC => ?_⟩, fun σ hM => ⟨σ, Fm.refl, fun σk ek fk => ?_⟩⟩
      · rw [isR_r]
        unfold p_X6_refusesToRoot
        rw [c_refF0 hC hI hf, bS, if_pos rfl, c_parentOf hC (by omega), bS, if_neg (by rw [hp]; exact ne_m1 (by omega)), bS, nb0]
      · obtain ⟨σ1, e1, c1, f1⟩ := c_rootAnew hC hI hk
        exact ⟨σ1, by rw [cO_r, e1, bS], c1, f1⟩
      · have hMk : MR σk G := hM.fm fk (by decide)
        obtain ⟨σ1, e1, m1, f1⟩ := m_roots hMk hI hk
        refine ⟨σ1, ?_, m1, f1.mono (by decide) (by decide)⟩
        unfold p_X7_root
        rw [m_isFarm hM hI, hf, bS, if_neg bt0, m_parent hM (by omega), bS, hp, if_pos (nI_pos' (by omega)), ek, bS, m_rootOf hMk hI hk, bS, e1, bS]
