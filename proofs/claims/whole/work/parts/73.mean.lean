/-! PURE: the mean toll, all sums by all numbers of farms -/
def sg0 : Sg := (fun _ _ _ => 0, fun _ _ _ => 0, 0, 0)
theorem bits34 (σ τ : Sg) : ∀ (n : Nat) (v1 : UInt32) (v2 : Int32), p_X6_bitsOf_L34 σ n v1 v2 = p_X6_bitsOf_L34 τ n v1 v2 := by
  intro n
  induction n with
  | zero => intro v1 v2; rfl
  | succ n ih => intro v1 v2; rw [p_X6_bitsOf_L34, p_X6_bitsOf_L34, ih]
theorem bits12 (σ τ : Sg) : ∀ (n : Nat) (v1 : UInt32) (v2 : Int32), p_X6_bitsOf_L12 σ n v1 v2 = p_X6_bitsOf_L12 τ n v1 v2 := by
  intro n
  induction n with
  | zero => intro v1 v2; rfl
  | succ n ih => intro v1 v2; rw [p_X6_bitsOf_L12, p_X6_bitsOf_L12, ih, bits34 σ τ]
theorem bits_any (σ τ : Sg) (v : UInt32) : p_X6_bitsOf v σ = p_X6_bitsOf v τ := by
  unfold p_X6_bitsOf
  rw [bits12 σ τ]
def mck (n s : Nat) : Bool := nn32 (FP.fdiv (FP.i2f (nI s)) (FP.i2f (nI n))) && (p_X6_bitsOf (FP.fdiv (FP.i2f (nI s)) (FP.i2f (nI n))) sg0 == some (fbits (FP.fdiv (FP.i2f (nI s)) (FP.i2f (nI n)))))
/-- m sums from s on -/
def mckA (n : Nat) : Nat → Nat → Bool
  | 0, _ => true
  | m + 1, s => mck n s && mckA n m (s + 1)
theorem mckA_of {n : Nat} : ∀ (m s : Nat), mckA n m s = true → ∀ k, s ≤ k → k < s + m → mck n k = true := by
  intro m
  induction m with
  | zero => intro s _ k h1 h2; omega
  | succ m ih =>
    intro s h k h1 h2
    simp only [mckA, Bool.and_eq_true] at h
    by_cases hk : k = s
    · subst hk; exact h.1
    · exact ih (s + 1) h.2 k (by omega) (by omega)
theorem mck_1 : mckA 1 201 0 = true := by decide +kernel
