/-! thing: a TEXT is read by both -/
def bt (n : Nat) (y : Nat → Nat) (p : Nat) : Int32 := if n ≤ p then -1 else nI (y p)
def dgt (n : Nat) (y : Nat → Nat) (p : Nat) : Prop := p < n ∧ 48 ≤ y p ∧ y p ≤ 57
def dval (y : Nat → Nat) (p : Nat) : Nat → Nat
  | 0 => 0
  | k + 1 => 10 * dval y p k + (y (p + k) - 48)
def kOK (n : Nat) (y : Nat → Nat) (p most k : Nat) : Prop := k ≤ most ∧ (∀ j, j < k → dgt n y (p + j)) ∧ (k < most → ¬ dgt n y (p + k))
theorem kOK_one {n : Nat} {y : Nat → Nat} {p most k k' : Nat} (h : kOK n y p most k) (h' : kOK n y p most k') : k = k' := by
  rcases Nat.lt_trichotomy k k' with c | c | c
  · exact absurd (h'.2.1 k c) (h.2.2 (Nat.lt_of_lt_of_le c h'.1))
  · exact c
  · exact absurd (h.2.1 k' c) (h'.2.2 (Nat.lt_of_lt_of_le c h.1))
theorem dval_lt {n : Nat} {y : Nat → Nat} {p : Nat} (k : Nat) (h : ∀ j, j < k → dgt n y (p + j)) : dval y p k < 10 ^ k := by
  induction k with
  | zero => exact Nat.one_pos
  | succ k ih =>
    have a := ih (fun j hj => h j (by omega))
    have b := h k (by omega)
    have c := b.2.2
    show 10 * dval y p k + (y (p + k) - 48) < 10 ^ (k + 1)
    rw [Nat.pow_succ]; omega
def tpX (S : bd_T) (n : Nat) (y : Nat → Nat) : Prop := bd_I S 10 = nI n ∧ ∀ i, i < n → bd_A S 8 i = nI (y i)
def tpM (M : bd_T) (n : Nat) (y : Nat → Nat) : Prop := bd_I M 0 = nI n ∧ ∀ i, i < n → bd_A M 1 i = nI (y i)
theorem tpX_kp {S S' : bd_T} {n : Nat} {y : Nat → Nat} {xi xa xj : List Nat} (h : kp S S' xi xa xj) (c : (dj [10] xi && dj [8] xa) = true) (r : tpX S n y) : tpX S' n y := by
  simp only [Bool.and_eq_true] at c
  unfold tpX at *
  rw [h.1 10 (dj_not c.1 (by decide)), h.2.1 8 (dj_not c.2 (by decide))]; exact r
theorem tpM_kp {S S' : bd_T} {n : Nat} {y : Nat → Nat} {xi xa xj : List Nat} (h : kp S S' xi xa xj) (c : (dj [0] xi && dj [1] xa) = true) (r : tpM S n y) : tpM S' n y := by
  simp only [Bool.and_eq_true] at c
  unfold tpM at *
  rw [h.1 0 (dj_not c.1 (by decide)), h.2.1 1 (dj_not c.2 (by decide))]; exact r
theorem px_byteHere {S : bd_T} {n p : Nat} {y : Nat → Nat} (h : tpX S n y) (h11 : bd_I S 11 = nI p) (hn : n ≤ 20) (hp : p ≤ 20) : f_X6_byteHere S = some (bt n y p, S) := by
  unfold f_X6_byteHere bt
  rw [h.1, h11]
  by_cases c : n ≤ p
  · rw [if_pos (nI_le c (by omega)), if_pos c]
  · rw [if_neg (nI_ge (by omega) (by omega)), if_neg c, pz_at (k := 8) (show p < 20 by omega) (by decide), pz_b2, h.2 p (by omega)]
theorem pm_sign {M : bd_T} {n p : Nat} {y : Nat → Nat} (h : tpM M n y) (h1 : bd_I M 1 = nI p) (hn : n ≤ 20) (hp : p ≤ 20) : f_X10_sign M = some (bt n y p, M) := by
  unfold f_X10_sign bt
  rw [h.1, h1]
  by_cases c : n ≤ p
  · rw [if_pos (nI_le c (by omega)), if_pos c]
  · rw [if_neg (nI_ge (by omega) (by omega)), if_neg c, pz_ga (show p < 20 by omega) (by decide), pz_some, h.2 p (by omega)]
/-- what a byte tells of a digit -/
theorem bt_dgt {n p : Nat} {y : Nat → Nat} (hn : n ≤ 20) (hy : ∀ i, i < n → y i < 256) : (dgt n y p → ¬ bt n y p < (48 : Int32) ∧ ¬ (57 : Int32) < bt n y p ∧ bt n y p = nI (y p)) ∧ (¬ dgt n y p → bt n y p < (48 : Int32) ∨ (57 : Int32) < bt n y p) := by
  unfold bt dgt
  by_cases c : n ≤ p
  · rw [if_pos c]
    exact ⟨fun h => by omega, fun _ => Or.inl (by decide)⟩
  · rw [if_neg c]
    have h := hy p (by omega)
    have a : (nI (y p) < (48 : Int32)) ↔ y p < 48 := nI_ltI (b := 48) (by omega) (by omega)
    have b : ((57 : Int32) < nI (y p)) ↔ 57 < y p := nI_ltI (a := 57) (by omega) (by omega)
    rw [a, b]
    exact ⟨fun h => ⟨by omega, by omega, rfl⟩, fun h => by omega⟩
theorem px_readNumber {S : bd_T} {n p most : Nat} {y : Nat → Nat} (h : tpX S n y) (h11 : bd_I S 11 = nI p) (hn : n ≤ 20) (hy : ∀ i, i < n → y i < 256) (hm : most ≤ 4) (hp : p ≤ 10) : ∃ k S', f_X6_readNumber (nI most) S = some (if k = 0 then -1 else nI (dval y p k), S') ∧ kOK n y p most k ∧ kp S S' [11] [] [] ∧ bd_I S' 11 = nI (p + k) := by
  obtain ⟨r, e, k, hk, r1, r2, r3, r4⟩ := pz_loop (F := fun q => fb_X6_readNumber_4 (nI most) q.1 q.2.1 q.2.2) (fun i s => s.1 = nI (dval y p i) ∧ s.2.1 = nI i ∧ kp S s.2.2 [11] [] [] ∧ bd_I s.2.2 11 = nI (p + i) ∧ ∀ j, j < i → dgt n y (p + j)) (fun r => ∃ k, kOK n y p most k ∧ r.1 = nI (dval y p k) ∧ r.2.1 = nI k ∧ kp S r.2.2 [11] [] [] ∧ bd_I r.2.2 11 = nI (p + k)) most (fun i s hi hs => by
      obtain ⟨q1, q2, q3, q4, q5⟩ := hs
      obtain ⟨s1, s2, s3⟩ := s
      dsimp only at q1 q2 q3 q4 q5 ⊢
      subst q1 q2
      have hb := px_byteHere (tpX_kp q3 (by decide) h) q4 hn (by omega)
      have stop : ¬ dgt n y (p + i) → ∃ r : Int32 × Int32 × bd_T, (some (.inr (nI (dval y p i), nI i, s3)) : Option ((Int32 × Int32 × bd_T) ⊕ (Int32 × Int32 × bd_T))) = some (.inr r) ∧ ∃ k, kOK n y p most k ∧ r.1 = nI (dval y p k) ∧ r.2.1 = nI k ∧ kp S r.2.2 [11] [] [] ∧ bd_I r.2.2 11 = nI (p + k) := fun c => ⟨_, rfl, i, ⟨by omega, q5, fun _ => c⟩, rfl, rfl, q3, q4⟩
      unfold fb_X6_readNumber_4
      rw [if_neg (nI_ge hi (by omega)), hb, pz_b2]
      by_cases c : dgt n y (p + i)
      · obtain ⟨c1, c2, c3⟩ := (bt_dgt hn hy).1 c
        left
        have hv := dval_lt i q5
        have hv4 : 10 ^ i ≤ 10000 := Nat.le_trans (Nat.pow_le_pow_right (by omega) (show i ≤ 4 by omega)) (by decide)
        have e1 : nI (dval y p i) * (10 : Int32) + nI (y (p + i)) - (48 : Int32) = nI (dval y p (i + 1)) := by
          have c4 := c.2.1
          rw [show nI (dval y p i) * (10 : Int32) = nI (dval y p i * 10) from pk_mul _ 10, nI_add, show nI (dval y p i * 10 + y (p + i)) - (48 : Int32) = nI (dval y p i * 10 + y (p + i) - 48) from pk_sub (b := 48) (by omega)]
          refine congrArg nI ?_
          show _ = 10 * dval y p i + (y (p + i) - 48)
          omega
        rw [if_neg c1, hb, pz_b2, if_neg c2, hb, pz_b2, pz_b1, pz_si, q4, c3, e1, nI_1, nI_1]
        refine ⟨_, rfl, rfl, rfl, q3.trans (kp_pI _ _ _), rfl, fun j hj => ?_⟩
        by_cases z : j = i
        · rw [z]; exact c
        · exact q5 j (by omega)
      · right
        rcases (bt_dgt hn hy).2 c with d | d
        · rw [if_pos d]; exact stop c
        · by_cases d2 : bt n y (p + i) < (48 : Int32)
          · rw [if_pos d2]; exact stop c
          · rw [if_neg d2, hb, pz_b2, if_pos d]; exact stop c) (fun s hs => by
      obtain ⟨q1, q2, q3, q4, q5⟩ := hs
      obtain ⟨s1, s2, s3⟩ := s
      dsimp only at q1 q2 q3 q4 q5 ⊢
      subst q1 q2
      unfold fb_X6_readNumber_4
      rw [if_pos (Int32.le_refl _)]
      exact ⟨_, rfl, most, ⟨Nat.le_refl _, q5, fun z => absurd z (Nat.lt_irrefl _)⟩, rfl, rfl, q3, q4⟩) (s0 := ((0 : Int32), (0 : Int32), S)) ⟨rfl, rfl, kp.rfl', h11, fun j hj => by omega⟩ bd_K (by rw [pz_K]; omega)
  obtain ⟨x1, x2, x3⟩ := r
  dsimp only at r1 r2 r3 r4
  subst r1 r2
  refine ⟨k, x3, ?_, hk, r3, r4⟩
  unfold f_X6_readNumber
  rw [e, pz_some]
  dsimp only
  have hk4 := hk.1
  by_cases c : k = 0
  · rw [if_pos (show nI k = (0 : Int32) by rw [c]; rfl), if_pos c]
  · rw [if_neg (show ¬ nI k = (0 : Int32) from fun z => c ((nI_eq (b := 0) (by omega) (by omega)).mp z)), if_neg c]
theorem pm_number {M : bd_T} {n p most : Nat} {y : Nat → Nat} (h : tpM M n y) (h1 : bd_I M 1 = nI p) (hn : n ≤ 20) (hy : ∀ i, i < n → y i < 256) (hm : most ≤ 4) (h0 : 0 < most) (hp : p ≤ 10) : ∃ k M', f_X10_number (nI most) M = some (if k = 0 then -1 else nI (dval y p k), M') ∧ kOK n y p most k ∧ kp M M' [1] [] [] ∧ bd_I M' 1 = nI (p + k) := by
  have hb0 := pm_sign h h1 hn (by omega)
  unfold f_X10_number f_X10_isIn
  rw [hb0, pz_b2]
  by_cases c0 : dgt n y p
  · obtain ⟨d1, d2, d3⟩ := (bt_dgt hn hy).1 c0
    rw [if_neg d1, if_neg d2, pz_b2, if_neg (show ¬ (1 : Int32) = 0 by decide)]
    obtain ⟨r, e, k, hk, r1, r3, r4⟩ := pz_loop (F := fun q => fb_X10_number_20 (nI most) q.1 q.2.1 q.2.2) (fun i s => s.1 = nI (dval y p i) ∧ s.2.1 = nI i ∧ kp M s.2.2 [1] [] [] ∧ bd_I s.2.2 1 = nI (p + i) ∧ ∀ j, j < i → dgt n y (p + j)) (fun r => ∃ k, kOK n y p most k ∧ r.1 = nI (dval y p k) ∧ kp M r.2 [1] [] [] ∧ bd_I r.2 1 = nI (p + k)) most (fun i s hi hs => by
      obtain ⟨q1, q2, q3, q4, q5⟩ := hs
      obtain ⟨s1, s2, s3⟩ := s
      dsimp only at q1 q2 q3 q4 q5 ⊢
      subst q1 q2
      have hb := pm_sign (tpM_kp q3 (by decide) h) q4 hn (by omega)
      have stop : ¬ dgt n y (p + i) → ∃ r : Int32 × bd_T, (some (.inr (nI (dval y p i), s3)) : Option ((Int32 × Int32 × bd_T) ⊕ (Int32 × bd_T))) = some (.inr r) ∧ ∃ k, kOK n y p most k ∧ r.1 = nI (dval y p k) ∧ kp M r.2 [1] [] [] ∧ bd_I r.2 1 = nI (p + k) := fun c => ⟨_, rfl, i, ⟨by omega, q5, fun _ => c⟩, rfl, q3, q4⟩
      unfold fb_X10_number_20 f_X10_isIn
      rw [if_neg (nI_ge hi (by omega)), hb, pz_b2]
      by_cases c : dgt n y (p + i)
      · obtain ⟨c1, c2, c3⟩ := (bt_dgt hn hy).1 c
        left
        have hv := dval_lt i q5
        have hv4 : 10 ^ i ≤ 10000 := Nat.le_trans (Nat.pow_le_pow_right (by omega) (show i ≤ 4 by omega)) (by decide)
        have e1 : (10 : Int32) * nI (dval y p i) + nI (y (p + i)) - (48 : Int32) = nI (dval y p (i + 1)) := by
          have c4 := c.2.1
          rw [show (10 : Int32) * nI (dval y p i) = nI (10 * dval y p i) from pk_mul 10 _, nI_add, show nI (10 * dval y p i + y (p + i)) - (48 : Int32) = nI (10 * dval y p i + y (p + i) - 48) from pk_sub (b := 48) (by omega)]
          refine congrArg nI ?_
          show _ = 10 * dval y p i + (y (p + i) - 48)
          omega
        rw [if_neg c1, if_neg c2, pz_b2, if_neg (show ¬ (1 : Int32) = 0 by decide), hb, pz_b2, pz_b1, pz_si, q4, c3, e1, nI_1, nI_1]
        refine ⟨_, rfl, rfl, rfl, q3.trans (kp_pI _ _ _), rfl, fun j hj => ?_⟩
        by_cases z : j = i
        · rw [z]; exact c
        · exact q5 j (by omega)
      · right
        rcases (bt_dgt hn hy).2 c with d | d
        · rw [if_pos d, pz_b2, if_pos (show (0 : Int32) = 0 from rfl)]; exact stop c
        · by_cases d2 : bt n y (p + i) < (48 : Int32)
          · rw [if_pos d2, pz_b2, if_pos (show (0 : Int32) = 0 from rfl)]; exact stop c
          · rw [if_neg d2, if_pos d, pz_b2, if_pos (show (0 : Int32) = 0 from rfl)]; exact stop c) (fun s hs => by
      obtain ⟨q1, q2, q3, q4, q5⟩ := hs
      obtain ⟨s1, s2, s3⟩ := s
      dsimp only at q1 q2 q3 q4 q5 ⊢
      subst q1 q2
      unfold fb_X10_number_20
      rw [if_pos (Int32.le_refl _)]
      exact ⟨_, rfl, most, ⟨Nat.le_refl _, q5, fun z => absurd z (Nat.lt_irrefl _)⟩, rfl, q3, q4⟩) (s0 := ((0 : Int32), (0 : Int32), M)) ⟨rfl, rfl, kp.rfl', h1, fun j hj => by omega⟩ bd_K (by rw [pz_K]; omega)
    obtain ⟨x1, x3⟩ := r
    dsimp only at r1 r3 r4
    subst r1
    rw [e, pz_some]
    have hk0 : ¬ k = 0 := fun z => by
      subst z
      exact hk.2.2 h0 c0
    exact ⟨k, x3, by rw [if_neg hk0], hk, r3, r4⟩
  · have z : (if bt n y p < (48 : Int32) then some ((0 : Int32), M) else (if (57 : Int32) < bt n y p then some ((0 : Int32), M) else some ((1 : Int32), M))) = some ((0 : Int32), M) := by
      rcases (bt_dgt hn hy).2 c0 with d | d
      · rw [if_pos d]
      · rw [if_pos d]; split <;> rfl
    rw [z, pz_b2, if_pos (show (0 : Int32) = 0 from rfl)]
    exact ⟨0, M, by rw [if_pos rfl], ⟨Nat.zero_le _, fun j hj => by omega, fun _ => c0⟩, kp.rfl', h1⟩
