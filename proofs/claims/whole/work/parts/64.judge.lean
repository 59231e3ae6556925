/-! judge -/
def tzN (P : Nat → Bool) : Nat → Nat
  | 0 => 0
  | n + 1 => if tzN P n < n then tzN P n else if P n = true then n else n + 1
theorem tz_spec (P : Nat → Bool) (n : Nat) : tzN P n ≤ n ∧ (∀ j, j < tzN P n → P j = false) ∧ (tzN P n < n → P (tzN P n) = true) := by
  induction n with
  | zero => exact ⟨Nat.le_refl _, fun j hj => absurd hj (Nat.not_lt_zero _), fun h => absurd h (Nat.lt_irrefl _)⟩
  | succ n ih =>
    obtain ⟨a, b, c⟩ := ih
    have e : tzN P (n + 1) = if tzN P n < n then tzN P n else if P n = true then n else n + 1 := rfl
    by_cases d : tzN P n < n
    · rw [if_pos d] at e
      rw [e]
      exact ⟨by omega, b, fun _ => c d⟩
    · rw [if_neg d] at e
      have en : tzN P n = n := by omega
      rw [en] at b
      by_cases f : P n = true
      · rw [if_pos f] at e
        rw [e]
        exact ⟨by omega, b, fun _ => f⟩
      · rw [if_neg f] at e
        rw [e]
        refine ⟨Nat.le_refl _, fun j hj => ?_, fun h => absurd h (Nat.lt_irrefl _)⟩
        by_cases z : j = n
        · rw [z]; simpa using f
        · exact b j (by omega)
theorem tz_of {P : Nat → Bool} {n k : Nat} (hk : k < n) (h1 : P k = true) (h2 : ∀ j, j < k → P j = false) : tzN P n = k := by
  obtain ⟨a, b, c⟩ := tz_spec P n
  rcases Nat.lt_trichotomy (tzN P n) k with d | d | d
  · have := c (by omega)
    rw [h2 _ d] at this; cases this
  · exact d
  · have := b k d
    rw [h1] at this; cases this
theorem tz_lt {P : Nat → Bool} {n : Nat} (h : bsum P n ≠ 0) : tzN P n < n := by
  obtain ⟨a, b, c⟩ := tz_spec P n
  by_cases d : tzN P n < n
  · exact d
  · exact absurd (bsum_zero.mpr (fun k hk => b k (by omega))) h
theorem ntz_S (x : Int32) (S Z : bd_T) : f_J6_numberOfTrailingZeros_0f7a4 x S = (f_J6_numberOfTrailingZeros_0f7a4 x Z).map (fun p => (p.1, S)) := by
  unfold f_J6_numberOfTrailingZeros_0f7a4
  simp only [pz_b1]
  repeat (first | rfl | split)
theorem ntz_all : ∀ d, d < 1024 → 0 < d → (f_J6_numberOfTrailingZeros_0f7a4 (nI d) bi_X).map Prod.fst = some (nI (tzN (fun k => d.testBit k) 10)) := by decide +kernel
theorem px_ntz {P : Nat → Bool} {n : Nat} (S : bd_T) (hn : n ≤ 10) (h0 : bsum P n ≠ 0) : f_J6_numberOfTrailingZeros_0f7a4 (nI (bsum P n)) S = some (nI (tzN P n), S) := by
  have hlt : bsum P n < 1024 := Nat.lt_of_lt_of_le (bsum_lt P n) (Nat.le_trans (Nat.pow_le_pow_right (by omega) hn) (by decide))
  have := ntz_all _ hlt (Nat.pos_of_ne_zero h0)
  have hk := tz_lt h0
  obtain ⟨a, b, c⟩ := tz_spec P n
  rw [tz_of (k := tzN P n) (by omega) (by rw [bsum_bit, decide_eq_true hk, c hk]; rfl) (fun j hj => by rw [bsum_bit, b j hj, Bool.and_false])] at this
  rw [ntz_S _ S bi_X]
  cases h : f_J6_numberOfTrailingZeros_0f7a4 (nI (bsum P n)) bi_X with
  | none => rw [h] at this; cases this
  | some p =>
    rw [h] at this
    simp only [Option.map_some, Option.some.injEq] at this
    simp only [Option.map_some, this]
def Qk (w : bw) (t b k : Nat) : Bool := (decide (w 9 k = t) && !lets w k b) && !decide (w 13 k = 1)
def jr (w : bw) (y : Nat → Nat) (t : Nat) : Int32 := if spk w t (y t) = 0 then (if w 4 t = 0 then -9 else if rlw w t (y t) (y (w 4 t - 1)) = true then -9 else nI t) else 100 + nI (tzN (Qk w t (y t)) (w 0 6))
def jf (w : bw) (y : Nat → Nat) : Nat → Int32
  | 0 => -9
  | n + 1 => if jf w y n = -9 then jr w y n else jf w y n
theorem jf_stay {w : bw} {y : Nat → Nat} {n : Nat} (h : jf w y n ≠ -9) (m : Nat) : jf w y (n + m) = jf w y n := by
  induction m with
  | zero => rfl
  | succ m ih =>
    show (if jf w y (n + m) = -9 then _ else jf w y (n + m)) = _
    rw [ih, if_neg h]
theorem px_wrongInRow {S : bd_T} {w : bw} {y : Nat → Nat} {t : Nat} (hw : wX S w) (hf : wF w) (hl : lX S w) (hy : ∀ i, i < w 0 0 → y i < 300 ∧ bd_A S 0 i = nI (y i)) (ht : t < w 0 0) : f_X9_wrongInRow (nI t) S = some (jr w y t, S) := by
  have h66 := hf.1.1
  have hb := hy t ht
  unfold f_X9_wrongInRow jr
  rw [pz_at (k := 0) (show t < 6 by omega) (by decide), pz_b2, hb.2, px_speaking hw hf hl ht hb.1, pz_b2]
  by_cases c : spk w t (y t) = 0
  · have e14 : bd_A S 14 t = nI (w 4 t) - 1 := (hw.2.2.2.2.2.2.2.1 t ht).2.2.2.1
    have h4 := (hf.2.2.2.1 t ht).2.2.2.1
    rw [if_pos ((spk_z hf t (y t)).mpr c), if_pos c, pz_at (k := 14) (show t < 6 by omega) (by decide), pz_b2, e14]
    by_cases d : w 4 t = 0
    · rw [if_neg (show ¬ (0 : Int32) ≤ nI (w 4 t) - 1 by rw [d]; decide), if_pos d]
    · obtain ⟨f1, f2⟩ := par_pos d (by omega)
      have ho := hy (w 4 t - 1) (by omega)
      obtain ⟨x, z, lo, hi, g1, g2, g3, g4, g5, g6, g7, g8, g9⟩ := px_lohi hw hf ht d (fl := 1) (by omega) ho.1
      have g1 : f_X7_lowest (nI t) (nI (y (w 4 t - 1))) 1 S = some (x, S) := g1
      have g2 : f_X7_highest (nI t) (nI (y (w 4 t - 1))) 1 S = some (z, S) := g2
      have g9 := g9 (y t) hb.1
      rw [if_pos (show 1 = 1 from rfl)] at g9
      rw [if_pos f2, f1, pz_at (k := 0) (show w 4 t - 1 < 6 by omega) (by decide), pz_b2, ho.2, g1, pz_b2, if_neg d]
      have l1 : (nI (y t) < x) ↔ ((y t : Int) < lo) := by rw [Int32.lt_iff_toInt_lt, nI_toInt (by omega), g3]
      have l2 : (z < nI (y t)) ↔ (hi < (y t : Int)) := by rw [Int32.lt_iff_toInt_lt, nI_toInt (by omega), g4]
      by_cases k1 : (y t : Int) < lo
      · rw [if_pos (l1.mpr k1), if_neg (fun q => by have := g9.mpr q; omega)]
      · rw [if_neg (fun q => k1 (l1.mp q)), g2, pz_b2]
        by_cases k2 : hi < (y t : Int)
        · rw [if_pos (l2.mpr k2), if_neg (fun q => by have := g9.mpr q; omega)]
        · rw [if_neg (fun q => k2 (l2.mp q)), if_pos (g9.mp (by omega))]
  · rw [if_neg (fun q => c ((spk_z hf t (y t)).mp q)), if_neg c]
    have e : f_J6_numberOfTrailingZeros_0f7a4 (nI (spk w t (y t))) S = some (nI (tzN (Qk w t (y t)) (w 0 6)), S) := px_ntz (P := Qk w t (y t)) S hf.1.2.2.2.2 c
    rw [e, pz_b2]
theorem tz100 {n : Nat} (h : n ≤ 10) : ¬ (100 : Int32) + nI n = -9 := by
  have : ∀ n, n < 11 → ¬ (100 : Int32) + nI n = -9 := by decide +kernel
  exact this n (by omega)
theorem neg300 : ∀ n, n < 300 → (-(nI n)).toInt = -(n : Int) := by decide +kernel
theorem pm_isJoined {M : bd_T} {w : bw} {y : Nat → Nat} {t : Nat} (hw : wM M w) (hf : wF w) (hy : ∀ i, i < w 0 0 → y i < 300 ∧ bd_A M 17 i = nI (y i)) (ht : t < w 0 0) (d : w 4 t ≠ 0) : f_X10_isJoined (nI t) M = some (if rlw w t (y t) (y (w 4 t - 1)) = true then 1 else 0, M) := by
  have h66 := hf.1.1
  have hb := hy t ht
  obtain ⟨a1, a2, a3, h4, h5, h6⟩ := hf.2.2.2.1 t ht
  obtain ⟨b1, b2, b3, b4, b5⟩ := hw.2.2.2.2.2.2.1 t ht
  obtain ⟨b5, b6⟩ := b5 d
  have e12 : bd_A M 12 t = nI (w 4 t) - 1 := b4
  have e13 : bd_A M 13 t = nI (w 5 t) := b5
  have e14 : bd_A M 14 t = nI (w 6 t) := b6
  obtain ⟨f1, f2⟩ := par_pos d (by omega)
  have ho := hy (w 4 t - 1) (by omega)
  have s := ti_nsub (a := y t) (b := y (w 4 t - 1)) (by omega) (by omega)
  have n6 : (nI (w 6 t)).toInt = (w 6 t : Int) := nI_toInt (by omega)
  have m6 := neg300 (w 6 t) (by omega)
  unfold f_X10_isJoined rlw
  rw [pz_ga (show t < 6 by omega) (by decide), pz_some, pz_ga (show t < 6 by omega) (by decide), pz_some, e12, f1, pz_ga (show w 4 t - 1 < 6 by omega) (by decide), pz_some, pz_b1, pz_ga (show t < 6 by omega) (by decide), pz_some, pz_ga (show t < 6 by omega) (by decide), pz_some, pz_some, pz_some, hb.2, ho.2, e13, e14]
  by_cases k0 : w 5 t = 0
  · rw [if_pos (show nI (w 5 t) = (0 : Int32) by rw [k0]; rfl), if_pos k0]
    have l : (nI (y t) - nI (y (w 4 t - 1)) = nI (w 6 t)) ↔ y t = y (w 4 t - 1) + w 6 t := by
      rw [← Int32.toInt_inj, s, n6]; omega
    by_cases q : y t = y (w 4 t - 1) + w 6 t
    · rw [if_pos (l.mpr q), decide_eq_true q, if_pos rfl]
    · rw [if_neg (fun z => q (l.mp z)), decide_eq_false q, if_neg (by decide)]
  · rw [if_neg (show ¬ nI (w 5 t) = (0 : Int32) from fun z => k0 ((nI_eq (b := 0) (by omega) (by omega)).mp z)), if_neg k0]
    by_cases k1 : w 5 t = 1
    · rw [if_pos (show nI (w 5 t) = (1 : Int32) by rw [k1]; rfl), if_pos k1]
      have l : (nI (y t) - nI (y (w 4 t - 1)) < nI (w 6 t)) ↔ ¬ (y (w 4 t - 1) + w 6 t ≤ y t) := by
        rw [Int32.lt_iff_toInt_lt, s, n6]; omega
      by_cases q : y (w 4 t - 1) + w 6 t ≤ y t
      · rw [if_neg (fun z => l.mp z q), decide_eq_true q, if_pos rfl]
      · rw [if_pos (l.mpr q), decide_eq_false q, if_neg (by decide)]
    · rw [if_neg (show ¬ nI (w 5 t) = (1 : Int32) from fun z => k1 ((nI_eq (b := 1) (by omega) (by omega)).mp z)), if_neg k1]
      by_cases k2 : w 5 t = 2
      · rw [if_pos (show nI (w 5 t) = (2 : Int32) by rw [k2]; rfl), if_pos k2]
        have l : (-(nI (w 6 t)) < nI (y t) - nI (y (w 4 t - 1))) ↔ ¬ (y t + w 6 t ≤ y (w 4 t - 1)) := by
          rw [Int32.lt_iff_toInt_lt, s, m6]; omega
        by_cases q : y t + w 6 t ≤ y (w 4 t - 1)
        · rw [if_neg (fun z => l.mp z q), decide_eq_true q, if_pos rfl]
        · rw [if_pos (l.mpr q), decide_eq_false q, if_neg (by decide)]
      · rw [if_neg (show ¬ nI (w 5 t) = (2 : Int32) from fun z => k2 ((nI_eq (b := 2) (by omega) (by omega)).mp z)), if_neg k2]
        have l1 : (nI (w 6 t) < nI (y t) - nI (y (w 4 t - 1))) ↔ ¬ (y t ≤ y (w 4 t - 1) + w 6 t) := by
          rw [Int32.lt_iff_toInt_lt, s, n6]; omega
        have l2 : (nI (y t) - nI (y (w 4 t - 1)) < -(nI (w 6 t))) ↔ ¬ (y (w 4 t - 1) ≤ y t + w 6 t) := by
          rw [Int32.lt_iff_toInt_lt, s, m6]; omega
        by_cases q1 : y t ≤ y (w 4 t - 1) + w 6 t
        · rw [if_neg (fun z => l1.mp z q1)]
          by_cases q2 : y (w 4 t - 1) ≤ y t + w 6 t
          · rw [if_neg (fun z => l2.mp z q2), decide_eq_true (show _ ∧ _ from ⟨q1, q2⟩), if_pos rfl]
          · rw [if_pos (l2.mpr q2), decide_eq_false (fun z => q2 z.2), if_neg (by decide)]
        · rw [if_pos (l1.mpr q1), decide_eq_false (fun z => q1 z.1), if_neg (by decide)]
theorem pm_wrong {M : bd_T} {w : bw} {y : Nat → Nat} {t : Nat} (hw : wM M w) (hf : wF w) (hl : lM M w) (hy : ∀ i, i < w 0 0 → y i < 300 ∧ bd_A M 17 i = nI (y i)) (ht : t < w 0 0) : ∃ r, bd_lp bd_K (fun q => fb_X10_judge_52 (nI t) q.1 q.2) ((0 : Int32), M) = some r ∧ ((spk w t (y t) = 0 ∧ r = .inr M) ∨ (spk w t (y t) ≠ 0 ∧ r = .inl (100 + nI (tzN (Qk w t (y t)) (w 0 6)), M))) := by
  have h66 := hf.1.1
  have h10 := hf.1.2.2.2.2
  have hb := hy t ht
  have i8 : bd_I M 8 = nI (w 0 6) := hw.2.2.2.2.1
  refine pz_loop (F := fun q => fb_X10_judge_52 (nI t) q.1 q.2) (fun i s => s = (nI i, M) ∧ ∀ j, j < i → Qk w t (y t) j = false) (fun r => (spk w t (y t) = 0 ∧ r = .inr M) ∨ (spk w t (y t) ≠ 0 ∧ r = .inl (100 + nI (tzN (Qk w t (y t)) (w 0 6)), M))) (w 0 6) (fun i s hi hs => ?_) (fun s hs => ?_) ⟨rfl, fun j hj => by omega⟩ bd_K (by rw [pz_K]; omega)
  · obtain ⟨rfl, q⟩ := hs
    dsimp only
    obtain ⟨b1, b2, b3, b4, b5⟩ := hw.2.2.2.2.2.2.2 i hi
    obtain ⟨a1, a2, a3, a4, a5⟩ := hf.2.2.2.2 i hi
    have e7 : bd_A M 7 i = nI (w 9 i) := b1
    have e11 : bd_A M 11 i = nI (w 13 i) := b5
    have e20 := hl.2 i (y t) hi hb.1
    have go : Qk w t (y t) i = false → (∃ s', (some (.inl (nI i + 1, M)) : Option ((Int32 × bd_T) ⊕ ((Int32 × bd_T) ⊕ bd_T))) = some (.inl s') ∧ s' = (nI (i + 1), M) ∧ ∀ j, j < i + 1 → Qk w t (y t) j = false) := fun c => ⟨_, rfl, by rw [nI_1], fun j hj => by
      by_cases z : j = i
      · rw [z]; exact c
      · exact q j (by omega)⟩
    unfold fb_X10_judge_52
    rw [i8, if_neg (nI_ge hi (by omega)), pz_ga (show i < 10 by omega) (by decide), pz_some, e7]
    by_cases c : w 9 i = t
    · rw [if_pos (by rw [c]), pz_ga (show i < 10 by omega) (by decide), pz_some, e11]
      by_cases d : w 13 i = 1
      · rw [if_neg (show ¬ nI (w 13 i) = (0 : Int32) by rw [d]; decide)]
        exact Or.inl (go (by unfold Qk; rw [decide_eq_true d]; simp))
      · rw [if_pos (show nI (w 13 i) = (0 : Int32) by rw [show w 13 i = 0 by omega]; rfl), pz_ga (show t < 6 by omega) (by decide), pz_some, hb.2, show (300 : Int32) * nI i = nI (300 * i) from pk_mul 300 i, nI_add, pz_ga (show 300 * i + y t < 3000 by omega) (by decide), pz_some, e20]
        by_cases f : lets w i (y t) = true
        · rw [if_pos f, if_neg (show ¬ (1 : Int32) = 0 by decide)]
          exact Or.inl (go (by unfold Qk; rw [f]; simp))
        · rw [if_neg f, if_pos (show (0 : Int32) = 0 from rfl)]
          have qi : Qk w t (y t) i = true := by
            unfold Qk
            rw [decide_eq_true c, decide_eq_false d, show lets w i (y t) = false by simpa using f]; rfl
          refine Or.inr ⟨_, rfl, Or.inr ⟨fun z => ?_, by rw [tz_of hi qi q]⟩⟩
          have := bsum_zero.mp (show bsum (Qk w t (y t)) (w 0 6) = 0 from z) i hi
          rw [qi] at this; cases this
    · rw [if_neg (fun z => c ((nI_eq (by omega) (by omega)).mp z))]
      exact Or.inl (go (by unfold Qk; rw [decide_eq_false c]; simp))
  · obtain ⟨rfl, q⟩ := hs
    dsimp only
    unfold fb_X10_judge_52
    rw [i8, if_pos (Int32.le_refl _)]
    exact ⟨_, rfl, Or.inl ⟨bsum_zero.mpr q, rfl⟩⟩
theorem RpR_ys {S M : bd_T} (h : RpR S M) : ∃ (m : Nat) (y : Nat → Nat), m ≤ 6 ∧ bd_I S 1 = nI m ∧ bd_I M 10 = nI m ∧ ∀ i, i < m → y i < 300 ∧ bd_A S 0 i = nI (y i) ∧ bd_A M 17 i = nI (y i) := by
  obtain ⟨n, h1, h2, h3, h4⟩ := h
  refine ⟨n, fun i => (bd_A S 0 i).toInt.toNat, h1, h2, h3, fun i hi => ?_⟩
  obtain ⟨y, y1, y2, y3⟩ := h4 i hi
  have e : (bd_A S 0 i).toInt.toNat = y := by rw [y2, nI_toInt (by omega)]; rfl
  show (bd_A S 0 i).toInt.toNat < 300 ∧ _ = nI ((bd_A S 0 i).toInt.toNat) ∧ _ = nI ((bd_A S 0 i).toInt.toNat)
  rw [e]
  exact ⟨y1, y2, y3⟩
theorem r_judge : rel_judge RR := by
  intro S M h
  obtain ⟨⟨p1, p2, p3, p4⟩, w, hf, hX, hM, hc, hm, hpre⟩ := id h
  obtain ⟨m, y, m6, m1, m2, m3⟩ := RpR_ys p2
  have h66 := hf.1.1
  unfold f_X9_judge f_X10_judge
  have k0 := kp_pI S 1 0
  have j0 := kp_pI M 10 0
  have hX0 : wX (bd_pI S 1 0) w := wX_kp k0 (by decide) (by decide) hX
  have hM0 : wM (bd_pI M 10 0) w := wM_kp j0 (by decide) (by decide) hM
  have pR : ∀ S' M', bd_I S' 1 = 0 → bd_I M' 10 = 0 → RpR S' M' := fun S' M' a b => ⟨0, Nat.zero_le _, a, b, fun i hi => by omega⟩
  rw [pz_b1, pz_b1, pz_si, pz_si, m1, m2, show bd_I (bd_pI S 1 0) 17 = nI (w 0 0) from hX0.2.2.2.1, show bd_I (bd_pI M 10 0) 2 = nI (w 0 0) from hM0.2.2.2.1]
  have hend : ∀ r : Int32, ∃ (r' : Int32) (S' M' : bd_T), (some (r, bd_pI S 1 0) : Option (Int32 × bd_T)) = some (r', S') ∧ (some (r, bd_pI M 10 0) : Option (Int32 × bd_T)) = some (r', M') ∧ RR S' M' := fun r => ⟨r, _, _, rfl, rfl, ⟨RpT_kp k0 j0 (by decide) p1, pR _ _ rfl rfl, RpF_kp k0 j0 (by decide) p3, RpP_kp k0 j0 (by decide) p4⟩, w, hf, hX0, hM0, cX'_kp k0 (by decide) hc, cM'_kp j0 (by decide) hm, preC_kp k0 (by decide) hpre⟩
  rcases Nat.lt_trichotomy m (w 0 0) with c | c | c
  · rw [if_neg (show ¬ nI (w 0 0) ≤ nI m from nI_ge c (by omega)), if_neg (show ¬ nI m = nI (w 0 0) from fun z => by have := (nI_eq (by omega) (by omega)).mp z; omega), if_neg (show ¬ nI (w 0 0) ≤ nI m from nI_ge c (by omega))]
    exact hend 1000
  · subst c
    have le := nI_le (Nat.le_refl (w 0 0)) (show w 0 0 < 2 ^ 31 by omega)
    rw [if_pos le, if_pos le, if_pos (show nI (w 0 0) = nI (w 0 0) from rfl)]
    obtain ⟨S1, e1, l1, k1⟩ := px_learn hX0 hf (cX'_kp k0 (by decide) hc)
    have hX1 := wX_kp k1 (by decide) (by decide) hX0
    have K1 : kp S S1 [1, 15] [4, 9] [] := (k0.mono (by decide) (by decide) (by decide)).trans (k1.mono (by decide) (by decide) (by decide))
    obtain ⟨M1, g1, n1, j1⟩ := pm_finds hM0 hf (cM'_kp j0 (by decide) hm)
    have hM1 := wM_kp j1 (by decide) (by decide) hM0
    have J1 : kp M M1 [7, 10] [20] [] := (j0.mono (by decide) (by decide) (by decide)).trans (j1.mono (by decide) (by decide) (by decide))
    have yX : ∀ i, i < w 0 0 → y i < 300 ∧ bd_A S1 0 i = nI (y i) := fun i hi => by
      rw [K1.2.1 0 (by decide)]; exact ⟨(m3 i hi).1, (m3 i hi).2.1⟩
    have yM : ∀ i, i < w 0 0 → y i < 300 ∧ bd_A M1 17 i = nI (y i) := fun i hi => by
      rw [J1.2.1 17 (by decide)]; exact ⟨(m3 i hi).1, (m3 i hi).2.2⟩
    have ex : ∀ i, i < w 0 0 → jf w y i = -9 → jr w y i ≠ -9 → jf w y (w 0 0) = jr w y i := fun i hi a b => by
      have e : jf w y (i + 1) = jr w y i := by
        show (if jf w y i = -9 then _ else _) = _
        rw [if_pos a]
      have := jf_stay (w := w) (y := y) (n := i + 1) (by rw [e]; exact b) (w 0 0 - (i + 1))
      rw [show i + 1 + (w 0 0 - (i + 1)) = w 0 0 by omega, e] at this
      exact this
    have nx : ∀ i, jf w y i = -9 → jr w y i = -9 → jf w y (i + 1) = -9 := fun i a b => by
      show (if jf w y i = -9 then _ else _) = _
      rw [if_pos a]; exact b
    obtain ⟨rX, e2, q2⟩ := pz_loop (F := fun q => fb_X9_judge_59 q.1 q.2) (fun i s => s = (nI i, S1) ∧ jf w y i = -9) (fun r => (r = .inr S1 ∧ jf w y (w 0 0) = -9) ∨ r = .inl (jf w y (w 0 0), S1)) (w 0 0) (fun i s hi hs => by
      obtain ⟨rfl, q⟩ := hs
      dsimp only
      unfold fb_X9_judge_59
      rw [show bd_I S1 17 = nI (w 0 0) from hX1.2.2.2.1, if_neg (nI_ge hi (by omega)), px_wrongInRow hX1 hf l1 yX hi, pz_b2]
      by_cases d : jr w y i = -9
      · rw [if_pos d]
        exact Or.inl ⟨_, rfl, by rw [nI_1], nx i q d⟩
      · rw [if_neg d]
        exact Or.inr ⟨_, rfl, Or.inr (by rw [ex i hi q d])⟩) (fun s hs => by
      obtain ⟨rfl, q⟩ := hs
      dsimp only
      unfold fb_X9_judge_59
      rw [show bd_I S1 17 = nI (w 0 0) from hX1.2.2.2.1, if_pos (Int32.le_refl _)]
      exact ⟨_, rfl, Or.inl ⟨rfl, q⟩⟩) (s0 := ((0 : Int32), S1)) ⟨rfl, rfl⟩ bd_K (by rw [pz_K]; omega)
    obtain ⟨rM, g2, s2⟩ := pz_loop (F := fun q => fb_X10_judge_42 q.1 q.2) (fun i s => s = (nI i, M1) ∧ jf w y i = -9) (fun r => (r = .inr M1 ∧ jf w y (w 0 0) = -9) ∨ r = .inl (jf w y (w 0 0), M1)) (w 0 0) (fun i s hi hs => by
      obtain ⟨rfl, q⟩ := hs
      dsimp only
      obtain ⟨r, er, hr⟩ := pm_wrong hM1 hf n1 yM hi
      unfold fb_X10_judge_42
      rw [show bd_I M1 2 = nI (w 0 0) from hM1.2.2.2.1, if_neg (nI_ge hi (by omega)), er, pz_some]
      rcases hr with ⟨c, rfl⟩ | ⟨c, rfl⟩
      · have h4 := (hf.2.2.2.1 i hi).2.2.2.1
        have e12 : bd_A M1 12 i = nI (w 4 i) - 1 := (hM1.2.2.2.2.2.2.1 i hi).2.2.2.1
        have ej : jr w y i = (if w 4 i = 0 then -9 else if rlw w i (y i) (y (w 4 i - 1)) = true then -9 else nI i) := if_pos c
        simp only [Sum.elim_inr]
        rw [pz_ga (show i < 6 by omega) (by decide), pz_some, e12]
        by_cases d : w 4 i = 0
        · rw [if_pos (show nI (w 4 i) - 1 < 0 by rw [d]; decide)]
          rw [if_pos d] at ej
          exact Or.inl ⟨_, rfl, by rw [nI_1], nx i q ej⟩
        · rw [if_neg (Int32.not_lt.mpr (par_pos d (by omega)).2), pm_isJoined hM1 hf yM hi d, pz_b2]
          rw [if_neg d] at ej
          by_cases f : rlw w i (y i) (y (w 4 i - 1)) = true
          · rw [if_pos f] at ej
            rw [if_pos f, if_neg (show ¬ (1 : Int32) = 0 by decide)]
            exact Or.inl ⟨_, rfl, by rw [nI_1], nx i q ej⟩
          · rw [if_neg f] at ej
            rw [if_neg f, if_pos (show (0 : Int32) = 0 from rfl)]
            exact Or.inr ⟨_, rfl, Or.inr (by rw [ex i hi q (by rw [ej]; exact nI_ne9 (by omega)), ej])⟩
      · have ej : jr w y i = 100 + nI (tzN (Qk w i (y i)) (w 0 6)) := if_neg c
        simp only [Sum.elim_inl]
        refine Or.inr ⟨_, rfl, Or.inr ?_⟩
        rw [ex i hi q (by rw [ej]; exact tz100 (Nat.le_trans (tz_spec _ _).1 hf.1.2.2.2.2)), ej]) (fun s hs => by
      obtain ⟨rfl, q⟩ := hs
      dsimp only
      unfold fb_X10_judge_42
      rw [show bd_I M1 2 = nI (w 0 0) from hM1.2.2.2.1, if_pos (Int32.le_refl _)]
      exact ⟨_, rfl, Or.inl ⟨rfl, q⟩⟩) (s0 := ((0 : Int32), M1)) ⟨rfl, rfl⟩ bd_K (by rw [pz_K]; omega)
    have hfin : RR S1 M1 := ⟨⟨RpT_kp K1 J1 (by decide) p1, pR _ _ (by rw [k1.1 1 (by decide)]; rfl) (by rw [j1.1 10 (by decide)]; rfl), RpF_kp K1 J1 (by decide) p3, RpP_kp K1 J1 (by decide) p4⟩, w, hf, hX1, hM1, cX'_lX l1, Or.inr n1, preC_kp K1 (by decide) hpre⟩
    rw [e1, pz_b2, g1, pz_b2, e2, g2, pz_some, pz_some]
    refine ⟨jf w y (w 0 0), S1, M1, ?_, ?_, hfin⟩
    · rcases q2 with ⟨rfl, q⟩ | rfl
      · rw [q]; rfl
      · rfl
    · rcases s2 with ⟨rfl, q⟩ | rfl
      · rw [q]; rfl
      · rfl
  · have le := nI_le (Nat.le_of_lt c) (show m < 2 ^ 31 by omega)
    rw [if_pos le, if_neg (show ¬ nI m ≤ nI (w 0 0) from nI_ge c (by omega)), if_neg (show ¬ nI m = nI (w 0 0) from fun z => by have := (nI_eq (by omega) (by omega)).mp z; omega), if_pos le]
    exact hend 1001
