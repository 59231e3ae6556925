theorem bsum_lt (P : Nat → Bool) (n : Nat) : bsum P n < 2 ^ n := by
  induction n with
  | zero => exact Nat.one_pos
  | succ n ih => show bsum P n + _ < _; rw [Nat.pow_succ]; split <;> omega
theorem bsum_bit (P : Nat → Bool) (n k : Nat) : (bsum P n).testBit k = (decide (k < n) && P k) := by
  induction n with
  | zero => simp [bsum]
  | succ n ih =>
    show (bsum P n + _).testBit k = _
    have hlt := bsum_lt P n
    by_cases hp : P n = true
    · rw [if_pos hp]
      have e : bsum P n + 2 ^ n = 2 ^ n * 1 + bsum P n := by omega
      rw [e, Nat.testBit_two_pow_mul_add _ hlt]
      by_cases hk : k < n
      · rw [if_pos hk, ih]; simp [hk, show k < n + 1 by omega]
      · rw [if_neg hk]
        by_cases hk2 : k = n
        · subst hk2; simp [hp]
        · have : (1 : Nat).testBit (k - n) = false := by
            obtain ⟨d, hd⟩ : ∃ d, k - n = d + 1 := ⟨k - n - 1, by omega⟩
            rw [hd]; simp [Nat.testBit_succ]
          rw [this]; simp; omega
    · rw [if_neg hp, Nat.add_zero, ih]
      by_cases hk : k < n
      · simp [hk, show k < n + 1 by omega]
      · by_cases hk2 : k = n
        · subst hk2; simp [hp]
        · simp [hk, show ¬ k < n + 1 by omega]
theorem bsum_congr {P Q : Nat → Bool} {n : Nat} (h : ∀ k, k < n → P k = Q k) : bsum P n = bsum Q n := by
  induction n with
  | zero => rfl
  | succ n ih => show bsum P n + _ = bsum Q n + _; rw [ih (fun k hk => h k (by omega)), h n (by omega)]
theorem bsum_zero {P : Nat → Bool} {n : Nat} : bsum P n = 0 ↔ ∀ k, k < n → P k = false := by
  constructor
  · intro h k hk
    have := bsum_bit P n k
    rw [h] at this
    simpa [hk] using this.symm
  · intro h
    induction n with
    | zero => rfl
    | succ n ih => show bsum P n + _ = 0; rw [ih (fun k hk => h k (by omega)), h n (by omega)]; rfl
theorem nI_bv (n : Nat) : (nI n).toBitVec = BitVec.ofNat 32 n := rfl
theorem nI_or {a b : Nat} : nI a ||| nI b = nI (a ||| b) := by
  apply Int32.toBitVec_inj.mp
  rw [Int32.toBitVec_or, nI_bv, nI_bv, nI_bv]
  exact (BitVec.ofNat_or).symm
theorem nI_or_pow {a k : Nat} (h : a < 2 ^ k) : nI a ||| nI (2 ^ k) = nI (a + 2 ^ k) := by
  rw [nI_or]
  have := Nat.two_pow_add_eq_or_of_lt h 1
  rw [Nat.mul_one] at this
  rw [Nat.or_comm, ← this, Nat.add_comm]
theorem nI_shl {k : Nat} (h : k < 31) : (1 : Int32) <<< (nI k &&& 31) = nI (2 ^ k) := by
  have key : ∀ k, k < 31 → (1 : Int32) <<< (nI k &&& 31) = nI (2 ^ k) := by decide +kernel
  exact key k h
theorem nI_andnot {P Q : Nat → Bool} {n : Nat} (hn : n ≤ 30) : nI (bsum P n) &&& (nI (bsum Q n) ^^^ (-1)) = nI (bsum (fun k => P k && !Q k) n) := by
  apply Int32.toBitVec_inj.mp
  rw [Int32.toBitVec_and, Int32.toBitVec_xor, nI_bv, nI_bv, nI_bv, show (-1 : Int32).toBitVec = BitVec.allOnes 32 from rfl]
  apply BitVec.eq_of_getLsbD_eq
  intro i hi
  simp only [BitVec.getLsbD_and, BitVec.getLsbD_xor, BitVec.getLsbD_ofNat, BitVec.getLsbD_allOnes, bsum_bit]
  by_cases h : i < n
  · simp [hi, h]
  · simp [hi, h]
