/-! count -/
def bcnt (P : Nat → Bool) : Nat → Nat
  | 0 => 0
  | n + 1 => bcnt P n + if P n = true then 1 else 0
theorem bcnt_le (P : Nat → Bool) (n : Nat) : bcnt P n ≤ n := by
  induction n with
  | zero => exact Nat.le_refl _
  | succ n ih => show bcnt P n + _ ≤ n + 1; split <;> omega
theorem bcnt_congr {P Q : Nat → Bool} {n : Nat} (h : ∀ k, k < n → P k = Q k) : bcnt P n = bcnt Q n := by
  induction n with
  | zero => rfl
  | succ n ih => show bcnt P n + _ = bcnt Q n + _; rw [ih (fun k hk => h k (by omega)), h n (by omega)]
theorem bcnt_ext {P : Nat → Bool} {n m : Nat} (hm : n ≤ m) (h : ∀ k, n ≤ k → P k = false) : bcnt P m = bcnt P n := by
  induction m with
  | zero => rw [Nat.le_zero.mp hm]
  | succ m ih =>
    by_cases z : n = m + 1
    · rw [z]
    · show bcnt P m + _ = _
      rw [ih (by omega), h m (by omega)]; rfl
def bcv (x : Int32) : Int32 := ((f_J6_bitCount_0f7a4 x bi_X).map Prod.fst).getD 0
theorem bc_S (x : Int32) (S : bd_T) : f_J6_bitCount_0f7a4 x S = some (bcv x, S) := rfl
theorem bc_all : ∀ d, d < 1024 → bcv (nI d) = nI (bcnt (fun k => d.testBit k) 10) := by decide +kernel
theorem bcnt_bsum {P : Nat → Bool} {n : Nat} (hn : n ≤ 10) : bcnt (fun k => (bsum P n).testBit k) 10 = bcnt P n := by
  rw [bcnt_ext hn (fun k hk => by rw [bsum_bit, decide_eq_false (by omega), Bool.false_and])]
  exact bcnt_congr (fun k hk => by rw [bsum_bit, decide_eq_true hk, Bool.true_and])
theorem px_bitCount {P : Nat → Bool} {n : Nat} {S : bd_T} (hn : n ≤ 10) : f_J6_bitCount_0f7a4 (nI (bsum P n)) S = some (nI (bcnt P n), S) := by
  rw [bc_S, bc_all _ (Nat.lt_of_lt_of_le (bsum_lt P n) (Nat.le_trans (Nat.pow_le_pow_right (by omega) hn) (by decide))), bcnt_bsum hn]
theorem px_joinings {S : bd_T} {w : bw} (hw : wX S w) (hf : wF w) : f_X7_joinings S = some (nI (bcnt (ed0 w) (w 0 0)), S) := by
  have h66 := hf.1.1
  have i17 : bd_I S 17 = nI (w 0 0) := hw.2.2.2.1
  have e := pz_for (F := fun q : Int32 × Int32 × bd_T => fb_X7_joinings_4 q.1 q.2.1 q.2.2) (fun i => (nI (bcnt (ed0 w) i), nI i, S)) (w 0 0) (nI (bcnt (ed0 w) (w 0 0)), S) (fun i hi => by
    dsimp only
    unfold fb_X7_joinings_4
    have e14 : bd_A S 14 i = nI (w 4 i) - 1 := (hw.2.2.2.2.2.2.2.1 i hi).2.2.2.1
    have h4 := (hf.2.2.2.1 i hi).2.2.2.1
    have ee : bcnt (ed0 w) (i + 1) = bcnt (ed0 w) i + if ed0 w i = true then 1 else 0 := rfl
    rw [i17, if_neg (nI_ge hi (by omega)), pz_at (k := 14) (show i < 6 by omega) (by decide), pz_b2, e14, ee]
    by_cases c : w 4 i = 0
    · rw [if_pos (show nI (w 4 i) - 1 < 0 by rw [c]; decide), pz_b1, nI_1, Int32.add_zero, if_neg (show ¬ ed0 w i = true by unfold ed0; simp [c])]; rfl
    · rw [if_neg (Int32.not_lt.mpr (par_pos c (by omega)).2), pz_b1, nI_1, nI_1, if_pos (show ed0 w i = true by unfold ed0; simp [c])]) (by
    dsimp only
    unfold fb_X7_joinings_4
    rw [i17, if_pos (Int32.le_refl _)]) bd_K (by rw [pz_K]; omega)
  unfold f_X7_joinings
  have e : bd_lp bd_K (fun q => fb_X7_joinings_4 q.1 q.2.1 q.2.2) ((0 : Int32), (0 : Int32), S) = _ := e
  rw [e, pz_some]
theorem pm_joinings {M : bd_T} {w : bw} (hw : wM M w) (hf : wF w) : bd_lp bd_K (fun q => fb_X10_count_107 q.1 q.2.1 q.2.2) ((0 : Int32), (0 : Int32), M) = some (nI (bcnt (ed0 w) (w 0 0)), M) := by
  have h66 := hf.1.1
  have i2 : bd_I M 2 = nI (w 0 0) := hw.2.2.2.1
  exact pz_for (F := fun q : Int32 × Int32 × bd_T => fb_X10_count_107 q.1 q.2.1 q.2.2) (fun i => (nI (bcnt (ed0 w) i), nI i, M)) (w 0 0) (nI (bcnt (ed0 w) (w 0 0)), M) (fun i hi => by
    dsimp only
    unfold fb_X10_count_107
    have e12 : bd_A M 12 i = nI (w 4 i) - 1 := (hw.2.2.2.2.2.2.1 i hi).2.2.2.1
    have h4 := (hf.2.2.2.1 i hi).2.2.2.1
    have ee : bcnt (ed0 w) (i + 1) = bcnt (ed0 w) i + if ed0 w i = true then 1 else 0 := rfl
    rw [i2, if_neg (nI_ge hi (by omega)), pz_ga (show i < 6 by omega) (by decide), pz_some, e12, ee]
    by_cases c : w 4 i = 0
    · rw [if_pos (show nI (w 4 i) - 1 < 0 by rw [c]; decide), pz_b1, nI_1, Int32.add_zero, if_neg (show ¬ ed0 w i = true by unfold ed0; simp [c])]; rfl
    · rw [if_neg (Int32.not_lt.mpr (par_pos c (by omega)).2), pz_b1, nI_1, nI_1, if_pos (show ed0 w i = true by unfold ed0; simp [c])]) (by
    dsimp only
    unfold fb_X10_count_107
    rw [i2, if_pos (Int32.le_refl _)]) bd_K (by rw [pz_K]; omega)
theorem pm_doubted {M : bd_T} {w : bw} (hw : wM M w) (hf : wF w) : bd_lp bd_K (fun q => fb_X10_count_80 q.1 q.2.1 q.2.2) ((0 : Int32), (0 : Int32), M) = some (nI (bcnt (fun k => decide (w 13 k = 1)) (w 0 6)), M) := by
  have h10 := hf.1.2.2.2.2
  have i8 : bd_I M 8 = nI (w 0 6) := hw.2.2.2.2.1
  exact pz_for (F := fun q : Int32 × Int32 × bd_T => fb_X10_count_80 q.1 q.2.1 q.2.2) (fun i => (nI (bcnt (fun k => decide (w 13 k = 1)) i), nI i, M)) (w 0 6) (nI (bcnt (fun k => decide (w 13 k = 1)) (w 0 6)), M) (fun i hi => by
    dsimp only
    unfold fb_X10_count_80
    have e11 : bd_A M 11 i = nI (w 13 i) := (hw.2.2.2.2.2.2.2 i hi).2.2.2.2
    have h1 := (hf.2.2.2.2 i hi).2.2.2.2
    have ee : bcnt (fun k => decide (w 13 k = 1)) (i + 1) = bcnt (fun k => decide (w 13 k = 1)) i + if decide (w 13 i = 1) = true then 1 else 0 := rfl
    rw [i8, if_neg (nI_ge hi (by omega)), pz_ga (show i < 10 by omega) (by decide), pz_some, pz_b1, e11, ee, nI_1, nI_add]
    have : (if decide (w 13 i = 1) = true then 1 else 0) = w 13 i := by
      by_cases c : w 13 i = 1
      · rw [if_pos (decide_eq_true c), c]
      · rw [if_neg (fun z => c (of_decide_eq_true z))]; omega
    rw [this]) (by
    dsimp only
    unfold fb_X10_count_80
    rw [i8, if_pos (Int32.le_refl _)]) bd_K (by rw [pz_K]; omega)
theorem r_count : rel_count RR := by
  intro x S M h
  unfold f_X9_count f_X10_count f_X10_isIn
  obtain ⟨hp, w, hw⟩ := id h
  obtain ⟨hf, hX, hM, hc, hmm, hpre⟩ := id hw
  obtain ⟨n, n1, n2, n3, n4⟩ := hp.1
  obtain ⟨m, m1, m2, m3, m4⟩ := hp.2.1
  by_cases c0 : x = 0
  · subst c0
    rw [if_pos (show (0 : Int32) = 0 from rfl), if_pos (show (0 : Int32) < 11 by decide), pz_b2, if_pos (show (0 : Int32) = 0 from rfl), if_pos (show (0 : Int32) = 0 from rfl)]
    exact ⟨_, S, M, rfl, by rw [show bd_I M 2 = nI (w 0 0) from hM.2.2.2.1, show bd_I S 17 = nI (w 0 0) from hX.2.2.2.1], h⟩
  by_cases c1 : x = 1
  · subst c1
    rw [if_neg (show ¬ (1 : Int32) = 0 by decide), if_pos (show (1 : Int32) = 1 from rfl), if_pos (show (1 : Int32) < 11 by decide), pz_b2, if_pos (show (0 : Int32) = 0 from rfl), if_neg (show ¬ (1 : Int32) = 0 by decide), if_pos (show (1 : Int32) = 1 from rfl)]
    exact ⟨_, S, M, rfl, by rw [show bd_I M 8 = nI (w 0 6) from hM.2.2.2.2.1, show bd_I S 18 = nI (w 0 6) from hX.2.2.2.2.1], h⟩
  by_cases c2 : x = 2
  · subst c2
    rw [if_neg (show ¬ (2 : Int32) = 0 by decide), if_neg (show ¬ (2 : Int32) = 1 by decide), if_pos (show (2 : Int32) = 2 from rfl), if_pos (show (2 : Int32) < 11 by decide), pz_b2, if_pos (show (0 : Int32) = 0 from rfl), if_neg (show ¬ (2 : Int32) = 0 by decide), if_neg (show ¬ (2 : Int32) = 1 by decide), if_pos (show (2 : Int32) = 2 from rfl)]
    rw [show bd_I S 19 = nI (wdb w (w 0 6)) from hX.2.2.2.2.2.1]
    unfold wdb
    rw [px_bitCount hf.1.2.2.2.2, pz_b2, pm_doubted hM hf, pz_some]
    exact ⟨_, S, M, rfl, rfl, h⟩
  by_cases c3 : x = 3
  · subst c3
    rw [if_neg (show ¬ (3 : Int32) = 0 by decide), if_neg (show ¬ (3 : Int32) = 1 by decide), if_neg (show ¬ (3 : Int32) = 2 by decide), if_pos (show (3 : Int32) = 3 from rfl), if_pos (show (3 : Int32) < 11 by decide), pz_b2, if_pos (show (0 : Int32) = 0 from rfl), if_neg (show ¬ (3 : Int32) = 0 by decide), if_neg (show ¬ (3 : Int32) = 1 by decide), if_neg (show ¬ (3 : Int32) = 2 by decide), if_pos (show (3 : Int32) = 3 from rfl)]
    rw [px_joinings hX hf, pz_b2, pm_joinings hM hf, pz_some]
    exact ⟨_, S, M, rfl, rfl, h⟩
  by_cases c4 : x = 4
  · subst c4
    rw [if_neg (show ¬ (4 : Int32) = 0 by decide), if_neg (show ¬ (4 : Int32) = 1 by decide), if_neg (show ¬ (4 : Int32) = 2 by decide), if_neg (show ¬ (4 : Int32) = 3 by decide), if_pos (show (4 : Int32) = 4 from rfl), if_pos (show (4 : Int32) < 11 by decide), pz_b2, if_pos (show (0 : Int32) = 0 from rfl), if_neg (show ¬ (4 : Int32) = 0 by decide), if_neg (show ¬ (4 : Int32) = 1 by decide), if_neg (show ¬ (4 : Int32) = 2 by decide), if_neg (show ¬ (4 : Int32) = 3 by decide), if_pos (show (4 : Int32) = 4 from rfl)]
    exact ⟨_, S, M, rfl, by rw [show bd_I M 6 = nI (w 0 5) from hM.2.2.1, show bd_I S 5 = nI (w 0 5) from hX.2.2.1], h⟩
  by_cases c5 : x = 5
  · subst c5
    rw [if_neg (show ¬ (5 : Int32) = 0 by decide), if_neg (show ¬ (5 : Int32) = 1 by decide), if_neg (show ¬ (5 : Int32) = 2 by decide), if_neg (show ¬ (5 : Int32) = 3 by decide), if_neg (show ¬ (5 : Int32) = 4 by decide), if_pos (show (5 : Int32) = 5 from rfl), if_pos (show (5 : Int32) < 11 by decide), pz_b2, if_pos (show (0 : Int32) = 0 from rfl), if_neg (show ¬ (5 : Int32) = 0 by decide), if_neg (show ¬ (5 : Int32) = 1 by decide), if_neg (show ¬ (5 : Int32) = 2 by decide), if_neg (show ¬ (5 : Int32) = 3 by decide), if_neg (show ¬ (5 : Int32) = 4 by decide), if_pos (show (5 : Int32) = 5 from rfl)]
    exact ⟨_, S, M, rfl, by rw [n2, n3], h⟩
  by_cases c6 : x = 6
  · subst c6
    rw [if_neg (show ¬ (6 : Int32) = 0 by decide), if_neg (show ¬ (6 : Int32) = 1 by decide), if_neg (show ¬ (6 : Int32) = 2 by decide), if_neg (show ¬ (6 : Int32) = 3 by decide), if_neg (show ¬ (6 : Int32) = 4 by decide), if_neg (show ¬ (6 : Int32) = 5 by decide), if_pos (show (6 : Int32) = 6 from rfl), if_pos (show (6 : Int32) < 11 by decide), pz_b2, if_pos (show (0 : Int32) = 0 from rfl), if_neg (show ¬ (6 : Int32) = 0 by decide), if_neg (show ¬ (6 : Int32) = 1 by decide), if_neg (show ¬ (6 : Int32) = 2 by decide), if_neg (show ¬ (6 : Int32) = 3 by decide), if_neg (show ¬ (6 : Int32) = 4 by decide), if_neg (show ¬ (6 : Int32) = 5 by decide), if_pos (show (6 : Int32) = 6 from rfl)]
    exact ⟨_, S, M, rfl, by rw [m2, m3], h⟩
  rw [if_neg c0, if_neg c1, if_neg c2, if_neg c3, if_neg c4, if_neg c5, if_neg c6]
  rcases pz_num x with d | ⟨k, hk, rfl⟩
  · have d2 : x < 11 := Int32.lt_trans d (by decide)
    rw [if_pos d2, if_pos d2, pz_b2, if_pos (show (0 : Int32) = 0 from rfl), if_neg c0, if_neg c1, if_neg c2, if_neg c3, if_neg c4, if_neg c5, if_neg c6]
    exact ⟨_, S, M, rfl, rfl, h⟩
  · have l1 : (nI k < (11 : Int32)) ↔ k < 11 := nI_ltI (b := 11) hk (by omega)
    have l2 : ((16 : Int32) < nI k) ↔ 16 < k := nI_ltI (a := 16) (by omega) hk
    by_cases d : k < 11
    · rw [if_pos (l1.mpr d), if_pos (l1.mpr d), pz_b2, if_pos (show (0 : Int32) = 0 from rfl), if_neg c0, if_neg c1, if_neg c2, if_neg c3, if_neg c4, if_neg c5, if_neg c6]
      exact ⟨_, S, M, rfl, rfl, h⟩
    · rw [if_neg (fun z => d (l1.mp z)), if_neg (fun z => d (l1.mp z))]
      by_cases e : 16 < k
      · rw [if_pos (l2.mpr e), if_pos (l2.mpr e), pz_b2, if_pos (show (0 : Int32) = 0 from rfl), if_neg c0, if_neg c1, if_neg c2, if_neg c3, if_neg c4, if_neg c5, if_neg c6]
        exact ⟨_, S, M, rfl, rfl, h⟩
      · rw [if_neg (fun z => e (l2.mp z)), if_neg (fun z => e (l2.mp z)), pz_b2, if_neg (show ¬ (1 : Int32) = 0 by decide), show nI k - (11 : Int32) = nI (k - 11) from pk_sub (b := 11) (by omega), show nI k - (10 : Int32) = nI (k - 10) from pk_sub (b := 10) (by omega), pz_at (k := 1) (show k - 11 < 6 by omega) (by decide), pz_b2, pz_ga (show k - 10 < 7 by omega) (by decide), pz_some]
        refine ⟨_, S, M, rfl, ?_, h⟩
        rw [hp.2.2.1 (k - 11) (by omega), show k - 11 + 1 = k - 10 by omega]
