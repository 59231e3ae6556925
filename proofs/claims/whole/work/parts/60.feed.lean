/-! feed: the bytes of both -/
def byN (x : Int64) (i : Nat) : Nat := (x.toBitVec.extractLsb' (8 * i) 8).toNat
theorem byN_lt (x : Int64) (i : Nat) : byN x i < 256 := (x.toBitVec.extractLsb' (8 * i) 8).isLt
theorem m255 : ∀ j, j < 32 → (255#32).getLsbD j = decide (j < 8) := by decide +kernel
theorem m255L : ∀ j, j < 64 → (255#64).getLsbD j = decide (j < 8) := by decide +kernel
theorem byN_bit (x : Int64) (i j : Nat) (hj : j < 32) : (BitVec.ofNat 32 (byN x i)).getLsbD j = (decide (j < 8) && x.toBitVec.getLsbD (8 * i + j)) := by
  unfold byN
  rw [BitVec.getLsbD_ofNat, BitVec.testBit_toNat, BitVec.getLsbD_extractLsb', decide_eq_true hj, Bool.true_and]
theorem by_X {x : Int64} {i : Nat} (hi : i < 8) : (((x.toUInt64 >>> (((8 : Int32) * nI i).toInt64.toUInt64 &&& Int64.toUInt64 63)).toInt64).toInt32) &&& (255 : Int32) = nI (byN x i) := by
  have key : ∀ i, i < 8 → ((((8 : Int32) * nI i).toInt64.toUInt64 &&& Int64.toUInt64 63).toBitVec % 64).toNat = 8 * i := by decide +kernel
  have hs := key i hi
  apply Int32.toBitVec_inj.mp
  apply BitVec.eq_of_getLsbD_eq
  intro j hj
  rw [nI_bv, byN_bit x i j hj, Int32.toBitVec_and, BitVec.getLsbD_and, Int64.toBitVec_toInt32, BitVec.getLsbD_signExtend, UInt64.toBitVec_toInt64, UInt64.toBitVec_shiftRight, BitVec.ushiftRight_eq', hs, Int64.toBitVec_toUInt64, decide_eq_true hj, if_pos (by omega), BitVec.getLsbD_ushiftRight, Bool.true_and, show (255 : Int32).toBitVec = 255#32 from rfl, m255 j hj, Bool.and_comm]
theorem by_M {x : Int64} {i : Nat} (hi : i < 8) : ((x >>> (((8 : Int32) * nI i).toInt64 &&& 63)) &&& (255 : Int64)).toInt32 = nI (byN x i) := by
  have key : ∀ i, i < 8 → ((((8 : Int32) * nI i).toInt64 &&& 63).toBitVec.smod 64).toNat = 8 * i := by decide +kernel
  have hs := key i hi
  apply Int32.toBitVec_inj.mp
  apply BitVec.eq_of_getLsbD_eq
  intro j hj
  rw [nI_bv, byN_bit x i j hj, Int64.toBitVec_toInt32, BitVec.getLsbD_signExtend, Int64.toBitVec_and, BitVec.getLsbD_and, Int64.toBitVec_shiftRight, BitVec.sshiftRight_eq', hs, BitVec.getLsbD_sshiftRight, decide_eq_true hj, Bool.true_and, if_pos (by omega), show (255 : Int64).toBitVec = 255#64 from rfl, m255L j (by omega)]
  by_cases c : j < 8
  · rw [if_pos (by omega), decide_eq_false (show ¬ 64 ≤ j by omega), decide_eq_true c]; simp
  · rw [decide_eq_false c]; simp
theorem px_take {S : bd_T} {m n : Nat} {x : Int64} (h10 : bd_I S 10 = nI m) (hn : n ≤ 8) (hmn : m + n ≤ 20) : ∃ S', f_X6_take (nI n) x S = some (nI (m + n), S') ∧ kp S S' [10] [8] [] ∧ bd_I S' 10 = nI (m + n) ∧ ∀ j, j < m + n → bd_A S' 8 j = if j < m then bd_A S 8 j else nI (byN x (j - m)) := by
  obtain ⟨r, e, k1, k2, k3⟩ := pz_loop (F := fun q => fb_X6_take_3 (nI n) x q.1 q.2) (fun i s => s.1 = nI i ∧ kp S s.2 [10] [8] [] ∧ bd_I s.2 10 = nI (m + i) ∧ ∀ j, j < m + i → bd_A s.2 8 j = if j < m then bd_A S 8 j else nI (byN x (j - m))) (fun r => kp S r [10] [8] [] ∧ bd_I r 10 = nI (m + n) ∧ ∀ j, j < m + n → bd_A r 8 j = if j < m then bd_A S 8 j else nI (byN x (j - m))) n (fun i s hi hs => by
      obtain ⟨q1, q2, q3, q4⟩ := hs
      obtain ⟨s1, s2⟩ := s
      dsimp only at q1 q2 q3 q4 ⊢
      subst q1
      left
      unfold fb_X6_take_3
      rw [if_neg (nI_ge hi (by omega)), by_X (show i < 8 by omega), q3, pz_lay (k := 8) (show m + i < 20 by omega) (by decide), pz_b2, pz_si, pz_IA, q3, nI_1, nI_1]
      refine ⟨_, rfl, rfl, q2.trans (((kp_pA _ _ _ _).mono (by decide) (by decide) (by decide)).trans ((kp_pI _ _ _).mono (by decide) (by decide) (by decide))), rfl, fun j hj => ?_⟩
      show upd (bd_A s2 8) (m + i) _ j = _
      rw [pz_up]
      by_cases z : j = m + i
      · rw [if_pos z, if_neg (by omega), show j - m = i by omega]
      · rw [if_neg z]; exact q4 j (by omega)) (fun s hs => by
      obtain ⟨q1, q2, q3, q4⟩ := hs
      obtain ⟨s1, s2⟩ := s
      dsimp only at q1 q2 q3 q4 ⊢
      subst q1
      unfold fb_X6_take_3
      rw [if_pos (Int32.le_refl _)]
      exact ⟨_, rfl, q2, q3, q4⟩) (s0 := ((0 : Int32), S)) ⟨rfl, kp.rfl', h10, fun j hj => by rw [if_pos (by omega)]⟩ bd_K (by rw [pz_K]; omega)
  unfold f_X6_take
  rw [e, pz_some]
  dsimp only
  rw [k2]
  exact ⟨r, rfl, k1, k2, k3⟩
theorem pm_take {M : bd_T} {m n : Nat} {x : Int64} (h0 : bd_I M 0 = nI m) (hn : n ≤ 8) (hmn : m + n ≤ 20) : ∃ M', bd_lp bd_K (fun q => fb_X10_feed_44 (nI n) x q.1 q.2) ((0 : Int32), M) = some M' ∧ kp M M' [0] [1] [] ∧ bd_I M' 0 = nI (m + n) ∧ ∀ j, j < m + n → bd_A M' 1 j = if j < m then bd_A M 1 j else nI (byN x (j - m)) :=
  pz_loop (F := fun q => fb_X10_feed_44 (nI n) x q.1 q.2) (fun i s => s.1 = nI i ∧ kp M s.2 [0] [1] [] ∧ bd_I s.2 0 = nI (m + i) ∧ ∀ j, j < m + i → bd_A s.2 1 j = if j < m then bd_A M 1 j else nI (byN x (j - m))) (fun r => kp M r [0] [1] [] ∧ bd_I r 0 = nI (m + n) ∧ ∀ j, j < m + n → bd_A r 1 j = if j < m then bd_A M 1 j else nI (byN x (j - m))) n (fun i s hi hs => by
      obtain ⟨q1, q2, q3, q4⟩ := hs
      obtain ⟨s1, s2⟩ := s
      dsimp only at q1 q2 q3 q4 ⊢
      subst q1
      left
      unfold fb_X10_feed_44
      rw [if_neg (nI_ge hi (by omega)), by_M (show i < 8 by omega), q3, pz_sa (show m + i < 20 by omega) (by decide), pz_some, pz_si, pz_IA, q3, nI_1, nI_1]
      refine ⟨_, rfl, rfl, q2.trans (((kp_pA _ _ _ _).mono (by decide) (by decide) (by decide)).trans ((kp_pI _ _ _).mono (by decide) (by decide) (by decide))), rfl, fun j hj => ?_⟩
      show upd (bd_A s2 1) (m + i) _ j = _
      rw [pz_up]
      by_cases z : j = m + i
      · rw [if_pos z, if_neg (by omega), show j - m = i by omega]
      · rw [if_neg z]; exact q4 j (by omega)) (fun s hs => by
      obtain ⟨q1, q2, q3, q4⟩ := hs
      obtain ⟨s1, s2⟩ := s
      dsimp only at q1 q2 q3 q4 ⊢
      subst q1
      unfold fb_X10_feed_44
      rw [if_pos (Int32.le_refl _)]
      exact ⟨_, rfl, q2, q3, q4⟩) (s0 := ((0 : Int32), M)) ⟨rfl, kp.rfl', h0, fun j hj => by rw [if_pos (by omega)]⟩ bd_K (by rw [pz_K]; omega)
theorem r_feed : rel_feed RR := by
  intro x y S M h
  unfold f_X9_feed f_X10_feed f_X10_out
  obtain ⟨⟨⟨m, m1, m2, m3, m4⟩, p2, p3, p4⟩, w, h1, h2, h3, h4, h5, h6⟩ := id h
  rcases pz_num x with c | ⟨n, hn, rfl⟩
  · have c1 : ¬ (1 : Int32) ≤ x := fun z => Int32.not_lt.mpr (Int32.le_trans (show (0 : Int32) ≤ 1 by decide) z) c
    rw [if_neg c1, if_neg c1, pz_b2, if_neg (show ¬ (-4 : Int32) = 0 by decide), if_neg (show ¬ (-4 : Int32) = 0 by decide)]
    exact RR_no' h (n := 3) (x := -4) rfl (by omega)
  · have l1 : ((1 : Int32) ≤ nI n) ↔ 1 ≤ n := nI_leI (a := 1) (by omega) hn
    have l8 : ((8 : Int32) < nI n) ↔ 8 < n := nI_ltI (a := 8) (by omega) hn
    have l8' : (nI n ≤ (8 : Int32)) ↔ n ≤ 8 := nI_leI (b := 8) hn (by omega)
    by_cases c : 1 ≤ n
    · rw [if_pos (l1.mpr c), if_pos (l1.mpr c)]
      by_cases d : n ≤ 8
      · have l20 : (nI (m + n) ≤ (20 : Int32)) ↔ m + n ≤ 20 := nI_leI (b := 20) (by omega) (by omega)
        rw [if_neg (show ¬ (8 : Int32) < nI n from fun z => by have := l8.mp z; omega), if_pos (l8'.mpr d), pz_b2, if_pos (show (0 : Int32) = 0 from rfl), m2, m3, nI_add]
        by_cases e : m + n ≤ 20
        · rw [if_pos (l20.mpr e), if_pos (l20.mpr e), if_pos (show (0 : Int32) = 0 from rfl)]
          obtain ⟨S', f1, k1, k2, k3⟩ := px_take (x := y) m2 d e
          obtain ⟨M', g1, j1, j2, j3⟩ := pm_take (x := y) m3 d e
          rw [f1, pz_b2, g1, pz_some]
          dsimp only
          rw [j2]
          refine ⟨_, S', M', rfl, rfl, ⟨⟨m + n, e, k2, j2, fun i hi => ?_⟩, RpR_kp k1 j1 (by decide) p2, RpF_kp k1 j1 (by decide) p3, RpP_kp k1 j1 (by decide) p4⟩, w, h1, wX_kp k1 (by decide) (by decide) h2, wM_kp j1 (by decide) (by decide) h3, cX'_kp k1 (by decide) h4, cM'_kp j1 (by decide) h5, preC_kp k1 (by decide) h6⟩
          rw [k3 i hi, j3 i hi]
          by_cases z : i < m
          · rw [if_pos z, if_pos z]; exact m4 i z
          · rw [if_neg z, if_neg z]; exact ⟨_, byN_lt _ _, rfl, rfl⟩
        · rw [if_neg (fun z => e (l20.mp z)), if_neg (fun z => e (l20.mp z))]
          exact RR_no' h (n := 5) (x := -6) rfl (by omega)
      · rw [if_pos (l8.mpr (by omega)), if_neg (fun z => d (l8'.mp z)), pz_b2, if_neg (show ¬ (-6 : Int32) = 0 by decide), if_neg (show ¬ (-6 : Int32) = 0 by decide)]
        exact RR_no' h (n := 5) (x := -6) rfl (by omega)
    · have c1 : ¬ (1 : Int32) ≤ nI n := fun z => c (l1.mp z)
      rw [if_neg c1, if_neg c1, pz_b2, if_neg (show ¬ (-4 : Int32) = 0 by decide), if_neg (show ¬ (-4 : Int32) = 0 by decide)]
      exact RR_no' h (n := 3) (x := -4) rfl (by omega)
