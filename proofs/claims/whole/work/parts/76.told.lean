/-! PURE: reading a text, the reference -/
theorem acc_ring (t x : Int32) : 10 * t + x - 48 = t * 10 + (x - 48) := by
  rw [Int32.mul_comm, Int32.sub_eq_add_neg, Int32.sub_eq_add_neg, Int32.add_assoc]
section RDM
variable {X : List Int32}
theorem m_here (hX : X.length ≤ 60) {σ : Sg} {Y : List Int32} (hT : TM σ X Y) : p_X7_here σ = some (hdM Y) := by
  obtain ⟨t1, t2, Z, t3, t4⟩ := hT
  have hl := congrArg List.length t3
  rw [List.length_append] at hl
  unfold p_X7_here
  rw [t1, t4]
  cases Y with
  | nil =>
    simp only [List.length_nil] at hl
    rw [if_pos (nI_le (by omega) (by omega))]
    rfl
  | cons x Y =>
    simp only [List.length_cons] at hl
    have hz : Z.length < X.length := by omega
    have e : X[Z.length]'hz = x := by simp [t3]
    rw [if_neg (nI_ge hz (by omega)), if_pos (ib_t (by omega) (by omega)), nI_clamp (by omega), t2 _ hz, e]
    rfl
theorem m_figL (hX : X.length ≤ 60) {pl : Nat} (hpl : pl < 124) : ∀ (m k : Nat) (Y : List Int32) (acc : Int32) (fuel : Nat) (σ : Sg), m < fuel → k + m ≤ 3 → TM σ X Y → gA σ 28 0 pl = acc → ∃ σ', p_X7_figures_L25 fuel (nI pl) (nI (k + m)) (nI k) σ = some (1, σ') ∧ TM σ' X (rdD m acc Y).2 ∧ gA σ' 28 0 pl = (rdD m acc Y).1 ∧ (∀ j, j ≠ pl → gA σ' 28 0 j = gA σ 28 0 j) ∧ Fm [28] [(20, 19)] σ σ' := by
  intro m
  induction m with
  | zero =>
    intro k Y acc fuel σ hf hkm hT ha
    obtain ⟨fuel, rfl⟩ : ∃ z, fuel = z + 1 := ⟨fuel - 1, by omega⟩
    refine ⟨σ, ?_, hT, ha, fun _ _ => rfl, Fm.refl⟩
    rw [p_X7_figures_L25, if_pos (nI_le (by omega) (by omega))]
  | succ m ih =>
    intro k Y acc fuel σ hf hkm hT ha
    obtain ⟨fuel, rfl⟩ : ∃ z, fuel = z + 1 := ⟨fuel - 1, by omega⟩
    have hh := m_here hX hT
    have stop : isD (hdC Y) = false → rdD (m + 1) acc Y = (acc, Y) → ∃ σ', p_X7_figures_L25 (fuel + 1) (nI pl) (nI (k + (m + 1))) (nI k) σ = some (1, σ') ∧ TM σ' X (rdD (m + 1) acc Y).2 ∧ gA σ' 28 0 pl = (rdD (m + 1) acc Y).1 ∧ (∀ j, j ≠ pl → gA σ' 28 0 j = gA σ 28 0 j) ∧ Fm [28] [(20, 19)] σ σ' := by
      intro hd hr
      rw [hr]
      refine ⟨σ, ?_, hT, ha, fun _ _ => rfl, Fm.refl⟩
      rw [p_X7_figures_L25, if_neg (nI_ge (by omega) (by omega)), hh, bS, m_isDigit, isD_hd, hd, bS, if_pos bf0]
    cases Y with
    | nil => exact stop (by decide) rfl
    | cons x Y =>
      cases hd : isD x with
      | false => exact stop hd (rdD_f hd)
      | true =>
        have hh2 : p_X7_here σ = some x := hh
        have fa : Fm [28] [] σ (sA σ 28 0 pl (acc * 10 + (x - 48))) := Fm.sA (by simp)
        have hT2 := (hT.fm fa (by decide) (by decide) (by decide)).adv
        obtain ⟨σ', g0, g1, g2, g3, g4⟩ := ih (k + 1) Y (acc * 10 + (x - 48)) fuel _ (by omega) (by omega) hT2 (by rw [gA_sI, gA_sA, if_pos ⟨rfl, rfl, rfl⟩])
        rw [rdD_t hd]
        refine ⟨σ', ?_, g1, g2, fun j hj => (g3 j hj).trans (by rw [gA_sI, gA_sA, if_neg (fun q => hj q.2.2)]), ((fa.mono (by simp) (by simp)).trans (Fm.sI (by simp))).trans g4⟩
        rw [p_X7_figures_L25, if_neg (nI_ge (by omega) (by omega)), hh2, bS, m_isDigit, hd, bS, if_neg bt0, if_pos (ib_t hpl (by omega)), bS, if_pos (ib_t hpl (by omega)), nI_clamp (by omega), ha, acc_ring, nI_1, show k + (m + 1) = k + 1 + m by omega]
        exact g0
theorem m_fig (hX : X.length ≤ 60) {pl : Nat} (hpl : pl < 124) {m : Nat} (hm : m + 1 ≤ 3) {Y : List Int32} {σ : Sg} (hT : TM σ X Y) : (isD (hdC Y) = false → p_X7_figures (nI pl) (nI (m + 1)) σ = some (0, σ)) ∧ (isD (hdC Y) = true → ∃ σ', p_X7_figures (nI pl) (nI (m + 1)) σ = some (1, σ') ∧ TM σ' X (rdD (m + 1) 0 Y).2 ∧ gA σ' 28 0 pl = (rdD (m + 1) 0 Y).1 ∧ (∀ j, j ≠ pl → gA σ' 28 0 j = gA σ 28 0 j) ∧ Fm [28] [(20, 19)] σ σ') := by
  have hh := m_here hX hT
  unfold p_X7_figures
  constructor
  · intro hd
    rw [hh, bS, m_isDigit, isD_hd, hd, bS, if_pos bf0]
  · intro hd
    have fa : Fm [28] [] σ (sA σ 28 0 pl 0) := Fm.sA (by simp)
    obtain ⟨σ', g0, g1, g2, g3, g4⟩ := m_figL hX hpl (m + 1) 0 Y 0 400 (sA σ 28 0 pl 0) (by omega) (by omega) (hT.fm fa (by decide) (by decide) (by decide)) (by rw [gA_sA, if_pos ⟨rfl, rfl, rfl⟩])
    rw [Nat.zero_add] at g0
    refine ⟨σ', ?_, g1, g2, fun j hj => (g3 j hj).trans (by rw [gA_sA, if_neg (fun q => hj q.2.2)]), (fa.mono (by simp) (by simp)).trans g4⟩
    rw [hh, bS, m_isDigit, isD_hd, hd, bS, if_neg bt0, if_pos (ib_t hpl (by omega)), nI_clamp (by omega)]
    exact g0
theorem m_skipN (hX : X.length ≤ 60) {c : Int32} (h1 : c ≠ -1) {Y : List Int32} {σ : Sg} (hT : TM σ X Y) (h : hdC Y ≠ c) : p_X7_skips c σ = some (0, σ) := by
  unfold p_X7_skips
  rw [m_here hX hT, bS, if_neg]
  cases Y with
  | nil => exact fun e => h1 e.symm
  | cons x Y => exact h
theorem m_skipY (hX : X.length ≤ 60) {c : Int32} (h0 : c ≠ 0) {Y : List Int32} {σ : Sg} (hT : TM σ X Y) (h : hdC Y = c) : ∃ σ', p_X7_skips c σ = some (1, σ') ∧ TM σ' X Y.tail ∧ (∀ j, gA σ' 28 0 j = gA σ 28 0 j) ∧ Fm [28] [(20, 19)] σ σ' := by
  cases Y with
  | nil => exact absurd h.symm h0
  | cons x Y =>
    refine ⟨_, ?_, hT.adv, fun j => rfl, Fm.sI (by simp)⟩
    have hx : x = c := h
    unfold p_X7_skips
    rw [m_here hX hT, bS, if_pos (show hdM (x :: Y) = c from hx)]
theorem rdS_dt {c : Nat} {S : List Nat} {sg : Int32} {Y : List Int32} (h1 : 49 ≤ c ∧ c ≤ 51) (h2 : isD (hdC Y) = true) : rdS (c :: S) sg Y = ((rdS S sg (rdD (c - 48) 0 Y).2).1, (sg * (rdD (c - 48) 0 Y).1) :: (rdS S sg (rdD (c - 48) 0 Y).2).2.1, (rdS S sg (rdD (c - 48) 0 Y).2).2.2) := by
  simp only [rdS]; rw [if_pos h1, if_pos h2]
theorem rdS_df {c : Nat} {S : List Nat} {sg : Int32} {Y : List Int32} (h1 : 49 ≤ c ∧ c ≤ 51) (h2 : isD (hdC Y) = false) : rdS (c :: S) sg Y = (false, [], Y) := by
  simp only [rdS]; rw [if_pos h1, if_neg (by rw [h2]; decide)]
theorem rdS_ct {c : Nat} {S : List Nat} {sg : Int32} {Y : List Int32} (h1 : ¬ (49 ≤ c ∧ c ≤ 51)) (h2 : ¬ (c = 43 ∧ hdC Y = 42)) (h3 : hdC Y = nI c) : rdS (c :: S) sg Y = rdS S sg Y.tail := by
  simp only [rdS]; rw [if_neg h1, if_neg h2, if_pos h3]
theorem rdS_cf {c : Nat} {S : List Nat} {sg : Int32} {Y : List Int32} (h1 : ¬ (49 ≤ c ∧ c ≤ 51)) (h2 : ¬ (c = 43 ∧ hdC Y = 42)) (h3 : ¬ hdC Y = nI c) : rdS (c :: S) sg Y = (false, [], Y) := by
  simp only [rdS]; rw [if_neg h1, if_neg h2, if_neg h3]
theorem rdS_app {A S : List Nat} : ∀ {sg : Int32} {Y : List Int32}, (∀ c ∈ A, c ≠ 43) → rdS (A ++ S) sg Y = if (rdS A sg Y).1 = true then ((rdS S sg (rdS A sg Y).2.2).1, (rdS A sg Y).2.1 ++ (rdS S sg (rdS A sg Y).2.2).2.1, (rdS S sg (rdS A sg Y).2.2).2.2) else rdS A sg Y := by
  induction A with
  | nil => intro sg Y _; simp [rdS]
  | cons c A ih =>
    intro sg Y h
    have h' : ∀ d ∈ A, d ≠ 43 := fun d hd => h d (List.mem_cons_of_mem _ hd)
    have hc43 : ¬ (c = 43 ∧ hdC Y = 42) := fun q => h c List.mem_cons_self q.1
    rw [List.cons_append]
    by_cases h1 : 49 ≤ c ∧ c ≤ 51
    · cases h2 : isD (hdC Y) with
      | false => rw [rdS_df h1 h2, rdS_df h1 h2, if_neg Bool.false_ne_true]
      | true =>
        rw [rdS_dt h1 h2, rdS_dt h1 h2, ih h']
        by_cases h3 : (rdS A sg (rdD (c - 48) 0 Y).2).1 = true
        · rw [if_pos h3, if_pos h3]; rfl
        · rw [if_neg h3, if_neg h3]
    · by_cases h3 : hdC Y = nI c
      · rw [rdS_ct h1 hc43 h3, rdS_ct h1 hc43 h3, ih h']
      · rw [rdS_cf h1 hc43 h3, rdS_cf h1 hc43 h3, if_neg Bool.false_ne_true]
/-- the reference reads the parts S, numbers from the place p + 1 on -/
def MP (X : List Int32) (p : Nat) (S : List Nat) (r : Option (Int32 × Sg)) (σ : Sg) (Y : List Int32) : Prop := ∃ σ', r = some (b01 (rdS S 1 Y).1, σ') ∧ TM σ' X (rdS S 1 Y).2.2 ∧ ((rdS S 1 Y).1 = true → ∀ u (hu : u < (rdS S 1 Y).2.1.length), gA σ' 28 0 (p + 1 + u) = (rdS S 1 Y).2.1[u]) ∧ (∀ j, j ≤ p → gA σ' 28 0 j = gA σ 28 0 j) ∧ Fm [28] [(20, 19)] σ σ'
theorem mp_fig (hX : X.length ≤ 60) {p c : Nat} (hp : p + 1 < 124) (hc : 49 ≤ c ∧ c ≤ 51) {Y : List Int32} {σ : Sg} (hT : TM σ X Y) : MP X p [c] (p_X7_figures (nI (p + 1)) (nI (c - 48)) σ) σ Y := by
  obtain ⟨m, hm⟩ : ∃ m, c - 48 = m + 1 := ⟨c - 49, by omega⟩
  obtain ⟨g1, g2⟩ := m_fig hX hp (m := m) (by omega) hT
  unfold MP
  cases h2 : isD (hdC Y) with
  | false =>
    rw [rdS_df hc h2, hm]
    exact ⟨σ, g1 h2, hT, fun h => (by cases h), fun _ _ => rfl, Fm.refl⟩
  | true =>
    rw [rdS_dt hc h2, hm]
    obtain ⟨σ', k0, k1, k2, k3, k4⟩ := g2 h2
    refine ⟨σ', k0, k1, fun _ u hu => ?_, fun j hj => k3 j (by omega), k4⟩
    have hu0 : u = 0 := by simp [rdS] at hu; omega
    subst hu0
    show gA σ' 28 0 (p + 1) = 1 * (rdD (m + 1) 0 Y).1
    rw [k2, Int32.one_mul]
theorem mp_skip (hX : X.length ≤ 60) {p c : Nat} (hc : c = 45 ∨ c = 62) {Y : List Int32} {σ : Sg} (hT : TM σ X Y) : MP X p [c] (p_X7_skips (nI c) σ) σ Y := by
  have h1 : ¬ (49 ≤ c ∧ c ≤ 51) := by omega
  have h2 : ¬ (c = 43 ∧ hdC Y = 42) := fun q => by omega
  unfold MP
  by_cases h3 : hdC Y = nI c
  · rw [rdS_ct h1 h2 h3]
    obtain ⟨σ', k0, k1, k2, k3⟩ := m_skipY hX (c := nI c) (by rcases hc with rfl | rfl <;> decide) hT h3
    exact ⟨σ', k0, k1, fun _ u hu => absurd hu (Nat.not_lt_zero _), fun j _ => k2 j, k3⟩
  · rw [rdS_cf h1 h2 h3]
    exact ⟨σ, m_skipN hX (by rcases hc with rfl | rfl <;> decide) hT h3, hT, fun h => (by cases h), fun _ _ => rfl, Fm.refl⟩
theorem mp_end {p : Nat} {Y : List Int32} {σ : Sg} (hT : TM σ X Y) : MP X p [] (some (1, σ)) σ Y := ⟨σ, rfl, hT, fun _ u hu => absurd hu (Nat.not_lt_zero _), fun _ _ => rfl, Fm.refl⟩
theorem mp_app {p : Nat} {A S : List Nat} {q : Option (Int32 × Sg)} {K : Sg → Option (Int32 × Sg)} {Y : List Int32} {σ : Sg} (hA : ∀ c ∈ A, c ≠ 43) (h : MP X p A q σ Y) (hK : ∀ σ1 Y1, TM σ1 X Y1 → MP X (p + dn A) S (K σ1) σ1 Y1) : MP X p (A ++ S) (q.bind fun r => if r.1 = 0 then some (0, r.2) else K r.2) σ Y := by
  obtain ⟨σ1, e1, t1, n1, k1, f1⟩ := h
  have hnum := rdS_num A 1 Y
  unfold MP
  rw [rdS_app hA, e1, bS]
  cases hok : (rdS A 1 Y).1 with
  | false =>
    rw [if_neg Bool.false_ne_true, if_pos bf0]
    refine ⟨σ1, by rw [hok]; rfl, t1, fun h => (by rw [hok] at h; cases h), k1, f1⟩
  | true =>
    rw [if_pos rfl, if_neg bt0]
    obtain ⟨σ2, e2, t2, n2, k2, f2⟩ := hK σ1 _ t1
    have hlen := hnum.2 hok
    refine ⟨σ2, e2, t2, fun h u hu => ?_, fun j hj => (k2 j (by omega)).trans (k1 j hj), f1.trans f2⟩
    by_cases hu2 : u < (rdS A 1 Y).2.1.length
    · rw [k2 (p + 1 + u) (by omega), n1 hok u hu2]
      simp only [List.getElem_append_left hu2]
    · simp only [List.length_append] at hu
      have := n2 h (u - (rdS A 1 Y).2.1.length) (by omega)
      rw [show p + dn A + 1 + (u - (rdS A 1 Y).2.1.length) = p + 1 + u by omega] at this
      rw [this]
      simp only
      rw [List.getElem_append_right (by omega)]
theorem mp_two (hX : X.length ≤ 60) {p : Nat} (hp : p + 2 < 124) {Y : List Int32} {σ : Sg} (hT : TM σ X Y) : MP X p [50, 45, 50] (p_X7_twoHere (nI p) σ) σ Y := by
  unfold p_X7_twoHere
  rw [nI_1, show nI p + 2 = nI (p + 2) from nI_add p 2]
  refine mp_app (A := [50]) (S := [45, 50]) (K := fun s => (p_X7_skips 45 s).bind fun r3 => if r3.1 = 0 then (some (0, r3.2)) else ((p_X7_figures (nI (p + 2)) 2 r3.2).bind fun r5 => if r5.1 = 0 then (some (0, r5.2)) else (some (1, r5.2)))) (by decide) (mp_fig hX (by omega) (by omega) hT) (fun σ1 Y1 t1 => ?_)
  refine mp_app (A := [45]) (S := [50]) (K := fun s => (p_X7_figures (nI (p + 2)) 2 s).bind fun r5 => if r5.1 = 0 then (some (0, r5.2)) else (some (1, r5.2))) (by decide) (mp_skip hX (Or.inl rfl) t1) (fun σ2 Y2 t2 => ?_)
  exact mp_app (A := [50]) (S := []) (K := fun s => some (1, s)) (by decide) (mp_fig (p := p + 1) hX (by omega) (by omega) t2) (fun σ3 Y3 t3 => mp_end t3)
theorem mp_one (hX : X.length ≤ 60) {p : Nat} (hp : p + 2 < 124) {Y : List Int32} {σ : Sg} (hT : TM σ X Y) : MP X p [49, 62, 50] ((p_X7_figures (nI (p + 1)) 1 σ).bind fun r19 => if r19.1 = 0 then (some (0, r19.2)) else ((p_X7_skips 62 r19.2).bind fun r21 => if r21.1 = 0 then (some (0, r21.2)) else ((p_X7_figures (nI (p + 2)) 2 r21.2).bind fun r23 => if r23.1 = 0 then (some (0, r23.2)) else (some (1, r23.2))))) σ Y := by
  refine mp_app (A := [49]) (S := [62, 50]) (K := fun s => (p_X7_skips 62 s).bind fun r21 => if r21.1 = 0 then (some (0, r21.2)) else ((p_X7_figures (nI (p + 2)) 2 r21.2).bind fun r23 => if r23.1 = 0 then (some (0, r23.2)) else (some (1, r23.2)))) (by decide) (mp_fig hX (by omega) (by omega) hT) (fun σ1 Y1 t1 => ?_)
  refine mp_app (A := [62]) (S := [50]) (K := fun s => (p_X7_figures (nI (p + 2)) 2 s).bind fun r5 => if r5.1 = 0 then (some (0, r5.2)) else (some (1, r5.2))) (by decide) (mp_skip hX (Or.inr rfl) t1) (fun σ2 Y2 t2 => ?_)
  exact mp_app (A := [50]) (S := []) (K := fun s => some (1, s)) (by decide) (mp_fig (p := p + 1) hX (by omega) (by omega) t2) (fun σ3 Y3 t3 => mp_end t3)
theorem neg_mul1 (v : Int32) : -v = -1 * v := by
  rw [show (-1 : Int32) = -(1 : Int32) from rfl, Int32.neg_mul, Int32.one_mul]
theorem mp_toll (hX : X.length ≤ 60) {p : Nat} (hp : p + 3 < 124) {Y : List Int32} {σ : Sg} (hT : TM σ X Y) : MP X p [50, 45, 50, 43, 50] (p_X7_tollHere (nI p) σ) σ Y := by
  unfold p_X7_tollHere
  rw [show nI p + 3 = nI (p + 3) from nI_add p 3, nI_clamp (by omega)]
  have ib3 : ib (nI (p + 3)) 124 = true := ib_t hp (by omega)
  refine mp_app (A := [50, 45, 50]) (S := [43, 50]) (K := fun s => (p_X7_here s).bind fun r3 => if r3 = 42 then ((p_X7_skips 43 s).bind fun r15 => if r15.1 = 0 then ((p_X7_skips 42 r15.2).bind fun r22 => if r22.1 = 0 then (some (0, r22.2)) else ((p_X7_figures (nI (p + 3)) 2 r22.2).bind fun r24 => if r24.1 = 0 then (some (0, r24.2)) else (if ib (nI (p + 3)) 124 then (if ib (nI (p + 3)) 124 then (some (1, sA r24.2 28 0 (p + 3) (-(gA r24.2 28 0 (p + 3))))) else none) else none))) else ((p_X7_figures (nI (p + 3)) 2 r15.2).bind fun r17 => if r17.1 = 0 then (some (0, r17.2)) else (if ib (nI (p + 3)) 124 then (if ib (nI (p + 3)) 124 then (some (1, sA r17.2 28 0 (p + 3) (-(gA r17.2 28 0 (p + 3))))) else none) else none))) else ((p_X7_skips 43 s).bind fun r5 => if r5.1 = 0 then ((p_X7_skips 42 r5.2).bind fun r10 => if r10.1 = 0 then (some (0, r10.2)) else ((p_X7_figures (nI (p + 3)) 2 r10.2).bind fun r12 => if r12.1 = 0 then (some (0, r12.2)) else (some (1, r12.2)))) else ((p_X7_figures (nI (p + 3)) 2 r5.2).bind fun r7 => if r7.1 = 0 then (some (0, r7.2)) else (some (1, r7.2))))) (by decide) (mp_two hX (by omega) hT) (fun σ1 Y1 t1 => ?_)
  show MP X (p + 2) [43, 50] ((p_X7_here σ1).bind _) σ1 Y1
  have n43 : ¬ (49 ≤ 43 ∧ 43 ≤ 51) := by omega
  have n50 : 49 ≤ 50 ∧ 50 ≤ 51 := by omega
  rw [m_here hX t1, bS]
  unfold MP
  by_cases h42 : hdC Y1 = 42
  · have hm : hdM Y1 = 42 := by
      cases Y1 with
      | nil => exact absurd h42 (by decide)
      | cons x Y1 => exact h42
    have hr : rdS [43, 50] 1 Y1 = rdS [50] (-1) Y1.tail := rdS_43 h42
    obtain ⟨σ2, e2, t2, k2, f2⟩ := m_skipY hX (c := 42) (by decide) t1 h42
    obtain ⟨g1, g2⟩ := m_fig hX hp (m := 1) (by omega) t2
    rw [hr, if_pos hm, m_skipN hX (c := 43) (by decide) t1 (by rw [h42]; decide), bS, if_pos rfl, e2, bS, if_neg n10]
    cases hd : isD (hdC Y1.tail) with
    | false =>
      have e3 : p_X7_figures (nI (p + 3)) 2 σ2 = some (0, σ2) := g1 hd
      rw [rdS_df n50 hd, e3, bS, if_pos rfl]
      exact ⟨σ2, rfl, t2, fun h => (by cases h), fun j _ => k2 j, f2⟩
    | true =>
      obtain ⟨σ3, e3, t3, v3, k3, f3⟩ := g2 hd
      have e3' : p_X7_figures (nI (p + 3)) 2 σ2 = some (1, σ3) := e3
      have fs : Fm [28] [] σ3 (sA σ3 28 0 (p + 3) (-(gA σ3 28 0 (p + 3)))) := Fm.sA (by simp)
      rw [rdS_dt n50 hd, e3', bS, if_neg n10, if_pos ib3, if_pos ib3]
      refine ⟨_, rfl, t3.fm fs (by decide) (by decide) (by decide), fun _ u hu => ?_, fun j hj => ?_, (f2.trans f3).trans (fs.mono (by simp) (by simp))⟩
      · have hu0 : u = 0 := by simp [rdS] at hu; omega
        subst hu0
        show gA (sA σ3 28 0 (p + 3) (-(gA σ3 28 0 (p + 3)))) 28 0 (p + 3) = -1 * (rdD 2 0 Y1.tail).1
        rw [gA_sA, if_pos ⟨rfl, rfl, rfl⟩, v3, neg_mul1]
      · rw [gA_sA, if_neg (by omega), k3 j (by omega), k2 j]
  · have hm : ¬ hdM Y1 = 42 := by
      cases Y1 with
      | nil => decide
      | cons x Y1 => exact h42
    rw [if_neg hm]
    by_cases h43 : hdC Y1 = nI 43
    · obtain ⟨σ2, e2, t2, k2, f2⟩ := m_skipY hX (c := 43) (by decide) t1 h43
      obtain ⟨σ3, e3, t3, v3, k3, f3⟩ := mp_fig (p := p + 2) (c := 50) hX (by omega) n50 t2
      have e3' : p_X7_figures (nI (p + 3)) 2 σ2 = _ := e3
      rw [rdS_ct n43 (fun q => h42 q.2) h43, e2, bS, if_neg n10, e3', bS]
      cases hok : (rdS [50] 1 Y1.tail).1 with
      | false =>
        rw [if_pos bf0]
        exact ⟨σ3, rfl, t3, fun h => (by cases h), fun j hj => (k3 j hj).trans (k2 j), f2.trans f3⟩
      | true =>
        rw [if_neg bt0]
        exact ⟨σ3, rfl, t3, fun _ => v3 hok, fun j hj => (k3 j hj).trans (k2 j), f2.trans f3⟩
    · rw [rdS_cf n43 (fun q => h42 q.2) h43, m_skipN hX (c := 43) (by decide) t1 h43, bS, if_pos rfl, m_skipN hX (c := 42) (by decide) t1 h42, bS, if_pos rfl]
      exact ⟨σ1, rfl, t1, fun h => (by cases h), fun _ _ => rfl, Fm.refl⟩
theorem m_command (hX : X.length ≤ 60) {m : Nat} (hm : m ≤ 30) {Y : List Int32} {σ : Sg} (hT : TM σ X Y) (h21 : gI σ 20 0 21 = nI m) : ∃ σ', p_X7_commandHere σ = some (b01 (rdC Y).1, σ') ∧ TM σ' X (rdC Y).2.2 ∧ ((rdC Y).1 = true → gA σ' 28 0 (4 * m) = hdC Y ∧ ∀ u (hu : u < (rdC Y).2.1.length), gA σ' 28 0 (4 * m + 1 + u) = (rdC Y).2.1[u]) ∧ (∀ j, j < 4 * m → gA σ' 28 0 j = gA σ 28 0 j) ∧ Fm [28] [(20, 19)] σ σ' := by
  have e4 : (4 : Int32) * nI m = nI (4 * m) := pk_mul 4 m
  have f0 : Fm [28] [] σ (sA σ 28 0 (4 * m) (hdM Y)) := Fm.sA (by simp)
  have hT0 : TM (sA σ 28 0 (4 * m) (hdM Y)) X Y := hT.fm f0 (by decide) (by decide) (by decide)
  obtain ⟨σ0, hσ0⟩ : ∃ σ0, σ0 = sA σ 28 0 (4 * m) (hdM Y) := ⟨_, rfl⟩
  have k0 : gA σ0 28 0 (4 * m) = hdM Y := by rw [hσ0, gA_sA, if_pos ⟨rfl, rfl, rfl⟩]
  have k0' : ∀ j, j < 4 * m → gA σ0 28 0 j = gA σ 28 0 j := fun j hj => by rw [hσ0, gA_sA, if_neg (by omega)]
  unfold p_X7_commandHere
  rw [m_here hX hT, bS, h21, e4, if_pos (ib_t (by omega) (by omega)), nI_clamp (by omega), nI_1, show nI (4 * m) + 2 = nI (4 * m + 2) from nI_add _ 2, ← hσ0]
  rw [← hσ0] at f0 hT0
  -- what a letter that is read gives
  have fin : ∀ (S : List Nat) (q : Sg → Option (Int32 × Sg)), shOf (hdC Y) = S → S ≠ [] → (hdC Y ≠ 0) → (∀ σ1, TM σ1 X Y.tail → MP X (4 * m) S (q σ1) σ1 Y.tail) → ∀ σ1, TM σ1 X Y.tail → (∀ j, gA σ1 28 0 j = gA σ0 28 0 j) → Fm [28] [(20, 19)] σ0 σ1 → ∃ σ', ((q σ1).bind fun r => some (nb r.1, r.2)) = some (b01 (rdC Y).1, σ') ∧ (q σ1) = some (b01 (rdC Y).1, σ') ∧ TM σ' X (rdC Y).2.2 ∧ ((rdC Y).1 = true → gA σ' 28 0 (4 * m) = hdC Y ∧ ∀ u (hu : u < (rdC Y).2.1.length), gA σ' 28 0 (4 * m + 1 + u) = (rdC Y).2.1[u]) ∧ (∀ j, j < 4 * m → gA σ' 28 0 j = gA σ 28 0 j) ∧ Fm [28] [(20, 19)] σ σ' := by
    intro S q hS hne h0 hq σ1 t1 k1 f1
    have hr : rdC Y = rdS S 1 Y.tail := by unfold rdC; rw [hS, if_neg hne]
    obtain ⟨σ2, e2, t2, n2, k2, f2⟩ := hq σ1 t1
    have hhd : hdM Y = hdC Y := by
      cases Y with
      | nil => exact absurd rfl h0
      | cons x Y => rfl
    rw [hr]
    refine ⟨σ2, by rw [e2, bS, nb01], e2, t2, fun h => ⟨?_, n2 h⟩, fun j hj => ?_, ((f0.mono (by simp) (by simp)).trans f1).trans f2⟩
    · rw [k2 _ (Nat.le_refl _), k1, k0, hhd]
    · rw [k2 j (by omega), k1, k0' j hj]
  by_cases c1 : hdC Y = 102
  · obtain ⟨σ1, e1, t1, k1, f1⟩ := m_skipY hX (c := 102) (by decide) hT0 c1
    obtain ⟨σ', r1, -, r2⟩ := fin [51] (fun s => p_X7_figures (nI (4 * m + 1)) 3 s) (by rw [c1]; decide) (by decide) (by rw [c1]; decide) (fun s t => mp_fig (c := 51) hX (by omega) (by omega) t) σ1 t1 k1 f1
    exact ⟨σ', by rw [e1, bS, if_neg n10]; exact r1, r2⟩
  have d1 := m_skipN hX (c := 102) (by decide) hT0 c1
  rw [d1, bS, if_pos rfl]
  by_cases c2 : hdC Y = 108
  · obtain ⟨σ1, e1, t1, k1, f1⟩ := m_skipY hX (c := 108) (by decide) hT0 c2
    obtain ⟨σ', r1, -, r2⟩ := fin [50, 45, 50] (fun s => p_X7_twoHere (nI (4 * m)) s) (by rw [c2]; decide) (by decide) (by rw [c2]; decide) (fun s t => mp_two hX (by omega) t) σ1 t1 k1 f1
    exact ⟨σ', by rw [e1, bS, if_neg n10]; exact r1, r2⟩
  have d2 := m_skipN hX (c := 108) (by decide) hT0 c2
  rw [d2, bS, if_pos rfl]
  by_cases c3 : hdC Y = 99
  · obtain ⟨σ1, e1, t1, k1, f1⟩ := m_skipY hX (c := 99) (by decide) hT0 c3
    obtain ⟨σ', r1, -, r2⟩ := fin [50, 45, 50] (fun s => p_X7_twoHere (nI (4 * m)) s) (by rw [c3]; decide) (by decide) (by rw [c3]; decide) (fun s t => mp_two hX (by omega) t) σ1 t1 k1 f1
    exact ⟨σ', by rw [e1, bS, if_neg n10]; exact r1, r2⟩
  have d3 := m_skipN hX (c := 99) (by decide) hT0 c3
  rw [d3, bS, if_pos rfl]
  by_cases c4 : hdC Y = 114
  · obtain ⟨σ1, e1, t1, k1, f1⟩ := m_skipY hX (c := 114) (by decide) hT0 c4
    obtain ⟨σ', r1, -, r2⟩ := fin [50] (fun s => p_X7_figures (nI (4 * m + 1)) 2 s) (by rw [c4]; decide) (by decide) (by rw [c4]; decide) (fun s t => mp_fig (c := 50) hX (by omega) (by omega) t) σ1 t1 k1 f1
    exact ⟨σ', by rw [e1, bS, if_neg n10]; exact r1, r2⟩
  have d4 := m_skipN hX (c := 114) (by decide) hT0 c4
  rw [d4, bS, if_pos rfl]
  by_cases c5 : hdC Y = 101
  · obtain ⟨σ1, e1, t1, k1, f1⟩ := m_skipY hX (c := 101) (by decide) hT0 c5
    obtain ⟨σ', r1, -, r2⟩ := fin [50] (fun s => p_X7_figures (nI (4 * m + 1)) 2 s) (by rw [c5]; decide) (by decide) (by rw [c5]; decide) (fun s t => mp_fig (c := 50) hX (by omega) (by omega) t) σ1 t1 k1 f1
    exact ⟨σ', by rw [e1, bS, if_neg n10]; exact r1, r2⟩
  have d5 := m_skipN hX (c := 101) (by decide) hT0 c5
  rw [d5, bS, if_pos rfl]
  by_cases c6 : hdC Y = 116
  · obtain ⟨σ1, e1, t1, k1, f1⟩ := m_skipY hX (c := 116) (by decide) hT0 c6
    obtain ⟨σ', r1, -, r2⟩ := fin [50, 45, 50, 43, 50] (fun s => p_X7_tollHere (nI (4 * m)) s) (by rw [c6]; decide) (by decide) (by rw [c6]; decide) (fun s t => mp_toll hX (by omega) t) σ1 t1 k1 f1
    exact ⟨σ', by rw [e1, bS, if_neg n10]; exact r1, r2⟩
  have d6 := m_skipN hX (c := 116) (by decide) hT0 c6
  rw [d6, bS, if_pos rfl]
  by_cases c7 : hdC Y = 100
  · obtain ⟨σ1, e1, t1, k1, f1⟩ := m_skipY hX (c := 100) (by decide) hT0 c7
    obtain ⟨σ', -, r1, r2⟩ := fin [49, 62, 50] (fun s => (p_X7_figures (nI (4 * m + 1)) 1 s).bind fun r19 => if r19.1 = 0 then (some (0, r19.2)) else ((p_X7_skips 62 r19.2).bind fun r21 => if r21.1 = 0 then (some (0, r21.2)) else ((p_X7_figures (nI (4 * m + 2)) 2 r21.2).bind fun r23 => if r23.1 = 0 then (some (0, r23.2)) else (some (1, r23.2))))) (by rw [c7]; decide) (by decide) (by rw [c7]; decide) (fun s t => mp_one hX (by omega) t) σ1 t1 k1 f1
    exact ⟨σ', by rw [e1, bS, if_neg n10]; exact r1, r2⟩
  have d7 := m_skipN hX (c := 100) (by decide) hT0 c7
  have hS : shOf (hdC Y) = [] := by
    unfold shOf p_X4_shapeOf
    rw [if_neg c3, if_neg c7, if_neg c5, if_neg c1, if_neg c2, if_neg c4, if_neg c6]
    rfl
  have hr : rdC Y = (false, [], Y) := if_pos hS
  rw [d7, bS, if_pos rfl, hr]
  exact ⟨σ0, rfl, hT0, fun h => (by cases h), k0', f0.mono (by simp) (by simp)⟩
end RDM
