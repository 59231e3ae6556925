/-! chance: the greatest divisor by Euclid's row, whose product halves each time -/
theorem half {x y : Nat} (h : y ≤ x) (h0 : 0 < y) : 2 * (y * (x % y)) ≤ x * y := by
  have h1 : x % y < y := Nat.mod_lt _ h0
  have h2 : x % y ≤ x - y := by
    rw [Nat.mod_eq_sub_mod h]
    exact Nat.mod_le _ _
  have h3 : 2 * (x % y) ≤ x := by omega
  calc 2 * (y * (x % y)) = (2 * (x % y)) * y := by rw [Nat.mul_comm y, Nat.mul_assoc]
    _ ≤ x * y := Nat.mul_le_mul_right _ h3
theorem gcd_step (x y : Nat) : Nat.gcd y (x % y) = Nat.gcd x y := by
  rw [Nat.gcd_comm x y, Nat.gcd_rec y x, Nat.gcd_comm]
def EuI (g i x y : Nat) : Prop := Nat.gcd x y = g ∧ x < 2 ^ 50 ∧ y < 2 ^ 50 ∧ y ≤ x ∧ x * y * 2 ^ i < 2 ^ 100
theorem EuI_step {g i x y : Nat} (h : EuI g i x y) (h0 : 0 < y) : EuI g (i + 1) y (x % y) := by
  obtain ⟨h1, h2, h3, h4, h5⟩ := h
  have h6 := Nat.mod_lt x h0
  refine ⟨by rw [gcd_step]; exact h1, h3, by omega, by omega, Nat.lt_of_le_of_lt ?_ h5⟩
  have := half h4 h0
  calc y * (x % y) * 2 ^ (i + 1) = (2 * (y * (x % y))) * 2 ^ i := by rw [Nat.pow_succ, Nat.mul_comm (2 ^ i) 2, ← Nat.mul_assoc, Nat.mul_comm (y * (x % y)) 2]
    _ ≤ x * y * 2 ^ i := Nat.mul_le_mul_right _ this
theorem EuI_end {g i x y : Nat} (h : EuI g i x y) (hi : 100 ≤ i) : y = 0 := by
  obtain ⟨h1, h2, h3, h4, h5⟩ := h
  rcases Nat.eq_zero_or_pos y with z | z
  · exact z
  · exfalso
    have a : 1 ≤ x * y := Nat.mul_pos (by omega) z
    have b : 2 ^ 100 ≤ 2 ^ i := Nat.pow_le_pow_right (by omega) hi
    have c : 1 * 2 ^ i ≤ x * y * 2 ^ i := Nat.mul_le_mul_right _ a
    omega
theorem EuI_start {x y : Nat} (hx : x < 2 ^ 50) (h : y ≤ x) : EuI (Nat.gcd x y) 0 x y := by
  refine ⟨rfl, hx, by omega, h, ?_⟩
  rw [Nat.pow_zero, Nat.mul_one]
  calc x * y ≤ x * x := Nat.mul_le_mul_left _ h
    _ < 2 ^ 50 * 2 ^ 50 := Nat.mul_lt_mul'' hx hx
    _ = 2 ^ 100 := by decide
theorem lz {y : Nat} (h : y < 2 ^ 50) : (lN y = (0 : Int64)) ↔ y = 0 := pk_lEQ (b := 0) (by omega) (by omega)
theorem lrem_N {x y : Nat} (hx : x < 2 ^ 50) (hy : y < 2 ^ 50) (h0 : 0 < y) : bd_lrem (lN x) (lN y) = some (lN (x % y)) := by
  unfold bd_lrem
  rw [if_neg (fun z => by have := (lz hy).mp z; omega), pk_lRem (by omega) h0 (by omega)]
theorem ldiv_N {x y : Nat} (hx : x < 2 ^ 50) (hy : y < 2 ^ 50) (h0 : 0 < y) : bd_ldiv (lN x) (lN y) = some (lN (x / y)) := by
  unfold bd_ldiv
  rw [if_neg (fun z => by have := (lz hy).mp z; omega), pk_lDiv (by omega) h0 (by omega)]
theorem px_gcd {x y : Nat} (hx : x < 2 ^ 50) (h : y ≤ x) (S : bd_T) : f_X9_greatestDivisor (lN x) (lN y) S = some (lN (Nat.gcd x y), S) := by
  unfold f_X9_greatestDivisor
  obtain ⟨r, e, hr⟩ := pz_loop (F := fun q => fb_X9_greatestDivisor_9 q.1 q.2.1 q.2.2.1 q.2.2.2) (fun i s => ∃ a b, s = (lN a, lN b, nI i, S) ∧ EuI (Nat.gcd x y) i a b) (fun r => r = (lN (Nat.gcd x y), S)) 100 (fun i s hi hs => by
      obtain ⟨a, b, rfl, q⟩ := hs
      dsimp only
      unfold fb_X9_greatestDivisor_9
      rw [if_neg (show ¬ (100 : Int32) ≤ nI i from nI_ge (b := 100) hi (by omega))]
      by_cases c : b = 0
      · rw [if_pos ((lz q.2.2.1).mpr c)]
        have := q.1
        rw [c, Nat.gcd_zero_right] at this
        exact Or.inr ⟨_, rfl, by rw [this]⟩
      · rw [if_neg (fun z => c ((lz q.2.2.1).mp z)), lrem_N q.2.1 q.2.2.1 (by omega), pz_some, nI_1]
        exact Or.inl ⟨_, rfl, b, a % b, rfl, EuI_step q (by omega)⟩) (fun s hs => by
      obtain ⟨a, b, rfl, q⟩ := hs
      dsimp only
      unfold fb_X9_greatestDivisor_9
      rw [if_pos (show (100 : Int32) ≤ nI 100 from Int32.le_refl _)]
      have := q.1
      rw [EuI_end q (Nat.le_refl _), Nat.gcd_zero_right] at this
      exact ⟨_, rfl, by rw [this]⟩) (s0 := (lN x, lN y, (0 : Int32), S)) ⟨x, y, rfl, EuI_start hx h⟩ bd_K (by rw [pz_K]; omega)
  rw [e, pz_some, hr]
theorem pm_gcd {x y : Nat} (hx : x < 2 ^ 50) (hy : y < 2 ^ 50) (M : bd_T) : f_X10_divisor (lN x) (lN y) M = some (lN (Nat.gcd x y), M) := by
  unfold f_X10_divisor
  obtain ⟨r, e, hr⟩ := pz_loop (F := fun q => fb_X10_divisor_6 q.1 q.2.1 q.2.2) (fun i s => ∃ a b, s = (lN a, lN b, M) ∧ ((i = 0 ∧ a = x ∧ b = y) ∨ (1 ≤ i ∧ EuI (Nat.gcd x y) (i - 1) a b))) (fun r => r = (lN (Nat.gcd x y), M)) 101 (fun i s hi hs => by
      obtain ⟨a, b, rfl, q⟩ := hs
      dsimp only
      have fct : Nat.gcd a b = Nat.gcd x y ∧ a < 2 ^ 50 ∧ b < 2 ^ 50 := by
        rcases q with ⟨q1, rfl, rfl⟩ | ⟨q1, q2⟩
        · exact ⟨rfl, hx, hy⟩
        · exact ⟨q2.1, q2.2.1, q2.2.2.1⟩
      unfold fb_X10_divisor_6
      by_cases c : b = 0
      · rw [if_pos ((lz fct.2.2).mpr c)]
        have := fct.1
        rw [c, Nat.gcd_zero_right] at this
        exact Or.inr ⟨_, rfl, by rw [this]⟩
      · rw [if_neg (fun z => c ((lz fct.2.2).mp z)), lrem_N fct.2.1 fct.2.2 (by omega), pz_some]
        refine Or.inl ⟨_, rfl, b, a % b, rfl, Or.inr ⟨by omega, ?_⟩⟩
        rw [Nat.add_sub_cancel]
        rcases q with ⟨q1, rfl, rfl⟩ | ⟨q1, q2⟩
        · rw [q1, ← gcd_step]
          exact EuI_start hy (Nat.le_of_lt (Nat.mod_lt _ (by omega)))
        · have := EuI_step q2 (by omega)
          rw [Nat.sub_add_cancel q1] at this
          exact this) (fun s hs => by
      obtain ⟨a, b, rfl, q⟩ := hs
      dsimp only
      unfold fb_X10_divisor_6
      rcases q with ⟨q1, _, _⟩ | ⟨q1, q2⟩
      · omega
      · have h0 := EuI_end q2 (by omega)
        have := q2.1
        rw [h0, Nat.gcd_zero_right] at this
        rw [if_pos ((lz (by omega)).mpr h0)]
        exact ⟨_, rfl, by rw [this]⟩) (s0 := (lN x, lN y, M)) ⟨x, y, rfl, Or.inl ⟨rfl, rfl, rfl⟩⟩ bd_K (by rw [pz_K]; omega)
  rw [e, pz_some, hr]
theorem sN_ge {f : Nat → Nat} {b n : Nat} (h : b < n) : f b ≤ sN f n := by
  have h1 : f b ≤ sN f (b + 1) := Nat.le_add_left _ _
  exact Nat.le_trans h1 (sN_mono (by omega))
