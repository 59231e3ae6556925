theorem bsum_or (P Q : Nat → Bool) (n : Nat) : bsum P n ||| bsum Q n = bsum (fun k => P k || Q k) n := by
  apply Nat.eq_of_testBit_eq
  intro i
  rw [Nat.testBit_or, bsum_bit, bsum_bit, bsum_bit, Bool.and_or_distrib_left]
theorem bsum_single {k n : Nat} (h : k < n) : bsum (fun j => decide (j = k)) n = 2 ^ k := by
  apply Nat.eq_of_testBit_eq
  intro i
  rw [bsum_bit, Nat.testBit_two_pow]
  by_cases z : i = k
  · subst z; simp [h]
  · rw [decide_eq_false z, Bool.and_false, decide_eq_false (fun q => z q.symm)]
theorem bsum_inj {P Q : Nat → Bool} {n : Nat} (h : bsum P n = bsum Q n) {k : Nat} (hk : k < n) : P k = Q k := by
  have a := bsum_bit P n k
  have b := bsum_bit Q n k
  rw [h, b] at a
  simpa [hk] using a.symm
theorem px_mark {S : bd_T} {w : bw} (hw : wX S w) (hf : wF w) {k : Nat} (hk : k < w 0 6) {v : Nat} (hv : v = 0 ∨ v = 1) : f_X4_mark (nI k) (nI v) S = some (if w 13 k = v then 0 else 1, bd_pI S 19 (nI (wdb (wst w 13 k v) (w 0 6)))) := by
  have h10 := hf.1.2.2.2.2
  have i19 : bd_I S 19 = nI (wdb w (w 0 6)) := hw.2.2.2.2.2.1
  have hk1 := (hf.2.2.2.2 k hk).2.2.2.2
  have n13 : ∀ i, wst w 13 k v 13 i = if i = k then v else w 13 i := fun i => by
    show (if 13 = 13 ∧ i = k then v else w 13 i) = _
    simp
  have hb : ∀ u, wdb u (w 0 6) < 2 ^ 31 := fun u => Nat.lt_of_lt_of_le (bsum_lt _ _) (Nat.pow_le_pow_right (by omega) (by omega))
  have hq : (nI (wdb (wst w 13 k v) (w 0 6)) = nI (wdb w (w 0 6))) ↔ w 13 k = v := by
    rw [nI_eq (hb _) (hb _)]
    constructor
    · intro e
      have e2 := bsum_inj e hk
      rw [decide_eq_decide, n13, if_pos rfl] at e2
      rcases hv with rfl | rfl <;> omega
    · intro e
      exact bsum_congr (fun j hj => by
        show decide (wst w 13 k v 13 j = 1) = decide (w 13 j = 1)
        rw [n13]
        by_cases z : j = k
        · rw [if_pos z, z, e]
        · rw [if_neg z])
  unfold f_X4_mark
  rw [pz_b1, pz_b1, nI_shl (by omega), i19]
  rcases hv with rfl | rfl
  · have e : nI (wdb w (w 0 6)) &&& (nI (2 ^ k) ^^^ (-1)) = nI (wdb (wst w 13 k 0) (w 0 6)) := by
      rw [← bsum_single hk]
      unfold wdb
      rw [nI_andnot (by omega)]
      refine congrArg nI (bsum_congr (fun j hj => ?_))
      rw [n13]
      by_cases z : j = k
      · rw [if_pos z, decide_eq_true z]; simp
      · rw [if_neg z, decide_eq_false z]; simp
    rw [if_pos (show nI 0 = (0 : Int32) from rfl), e, pz_si, pz_II, if_pos rfl]
    by_cases c : w 13 k = 0
    · rw [if_pos (hq.mpr c), if_pos c]
    · rw [if_neg (fun z => c (hq.mp z)), if_neg c]
  · have e : nI (wdb w (w 0 6)) ||| nI (2 ^ k) = nI (wdb (wst w 13 k 1) (w 0 6)) := by
      rw [← bsum_single hk, nI_or]
      unfold wdb
      rw [bsum_or]
      refine congrArg nI (bsum_congr (fun j hj => ?_))
      rw [n13]
      by_cases z : j = k
      · rw [if_pos z, decide_eq_true z]; simp
      · rw [if_neg z, decide_eq_false z]; simp
    rw [if_neg (show ¬ nI 1 = (0 : Int32) by decide), e, pz_si, pz_II, if_pos rfl]
    by_cases c : w 13 k = 1
    · rw [if_pos (hq.mpr c), if_pos c]
    · rw [if_neg (fun z => c (hq.mp z)), if_neg c]
theorem RR_doubt {S M M' : bd_T} {w : bw} (hp : RRp S M) (hw : Rw w S M) {k v : Nat} (hk : k < w 0 6) (hv : v ≤ 1) (J : kp M M' [] [11] []) (hj : ∀ i, i < w 0 6 → bd_A M' 11 i = if i = k then nI v else bd_A M 11 i) : RR (bd_pI S 19 (nI (wdb (wst w 13 k v) (w 0 6)))) M' := by
  obtain ⟨hf, hX, hM, hc, hmm, hpre⟩ := id hw
  obtain ⟨p1, p2, p3, p4⟩ := hp
  have K := kp_pI S 19 (nI (wdb (wst w 13 k v) (w 0 6)))
  have n13 : ∀ i, wst w 13 k v 13 i = if i = k then v else w 13 i := fun i => by
    show (if 13 = 13 ∧ i = k then v else w 13 i) = _
    simp
  have hs : sameL w (wst w 13 k v) := ⟨fun i _ _ => rfl, fun k _ => ⟨rfl, rfl, rfl, rfl, rfl, rfl, rfl⟩⟩
  have gi : ∀ j, eMI M' j = eMI M j := fun j => J.1 _ (by simp)
  have ga : ∀ c, c < 12 → eMA M' c = eMA M c := fun c hc => J.2.1 _ (by
    rcases (show c = 0 ∨ c = 1 ∨ c = 2 ∨ c = 3 ∨ c = 4 ∨ c = 5 ∨ c = 6 ∨ c = 7 ∨ c = 8 ∨ c = 9 ∨ c = 10 ∨ c = 11 by omega) with rfl | rfl | rfl | rfl | rfl | rfl | rfl | rfl | rfl | rfl | rfl | rfl <;> decide)
  refine ⟨⟨RpT_kp K J (by decide) p1, RpR_kp K J (by decide) p2, RpF_kp K J (by decide) p3, RpP_kp K J (by decide) p4⟩, wst w 13 k v, ⟨hf.1, hf.2.1, hf.2.2.1, hf.2.2.2.1, fun i hi => ?_⟩, ⟨hX.1, hX.2.1, hX.2.2.1, hX.2.2.2.1, hX.2.2.2.2.1, rfl, hX.2.2.2.2.2.2⟩, ?_, cX'_w hs (Nat.le_refl _) (cX'_kp K (by decide) hc), cM'_w hs rfl (cM'_kp J (by decide) hmm), preC_kp K (by decide) hpre⟩
  · obtain ⟨a1, a2, a3, a4, a5⟩ := hf.2.2.2.2 i hi
    refine ⟨a1, a2, a3, a4, ?_⟩
    rw [n13]
    split
    · exact hv
    · exact a5
  · unfold wM wMg at hM ⊢
    rw [gi, gi, gi, gi, gi, gi, ga 0 (by decide), ga 1 (by decide), ga 2 (by decide), ga 3 (by decide), ga 4 (by decide), ga 5 (by decide), ga 6 (by decide), ga 7 (by decide), ga 8 (by decide), ga 9 (by decide), ga 10 (by decide), ga 11 (by decide)]
    refine ⟨hM.1, hM.2.1, hM.2.2.1, hM.2.2.2.1, hM.2.2.2.2.1, hM.2.2.2.2.2.1, hM.2.2.2.2.2.2.1, fun i hi => ?_⟩
    obtain ⟨a1, a2, a3, a4, a5⟩ := hM.2.2.2.2.2.2.2 i hi
    refine ⟨a1, a2, a3, a4, ?_⟩
    have x1 : eMA M' 12 i = _ := hj i hi
    rw [x1, n13]
    by_cases z : i = k
    · rw [if_pos z, if_pos z]
    · rw [if_neg z, if_neg z]; exact a5
theorem r_doubt : rel_doubt RR := by
  intro x y hy S M h
  unfold f_X9_doubt f_X10_doubt f_X10_isIn
  obtain ⟨hp, w, hw⟩ := id h
  obtain ⟨hf, hX, hM, hc, hmm, hpre⟩ := id hw
  have h10 := hf.1.2.2.2.2
  have i18 : bd_I S 18 = nI (w 0 6) := hX.2.2.2.2.1
  have i8 : bd_I M 8 = nI (w 0 6) := hM.2.2.2.2.1
  rw [i18, i8]
  rcases pz_num x with d | ⟨k, hk, rfl⟩
  · rw [if_pos d, if_pos d, pz_b2, if_pos (show (0 : Int32) = 0 from rfl)]
    exact RR_no' h (n := 0) (x := -1) rfl (by omega)
  · rw [if_neg (npos0 hk), if_neg (npos0 hk)]
    by_cases c : k < w 0 6
    · have c' : ¬ nI (w 0 6) - 1 < nI k := by
        obtain ⟨m, hm⟩ : ∃ m, w 0 6 = m + 1 := ⟨w 0 6 - 1, by omega⟩
        rw [hm, nI_pred]
        exact nI_nlt (by omega) (by omega)
      rw [if_pos (nI_lt c (by omega)), if_neg c', pz_b2, if_neg (show ¬ (1 : Int32) = 0 by decide), pz_ga (show k < 10 by omega) (by decide), pz_some, show bd_A M 11 k = nI (w 13 k) from (hM.2.2.2.2.2.2.2 k c).2.2.2.2]
      have hk1 := (hf.2.2.2.2 k c).2.2.2.2
      have kk : ∀ i, i < w 0 6 → bd_A M 11 i = if i = k then nI (w 13 k) else bd_A M 11 i := fun i hi => by
        by_cases z : i = k
        · rw [if_pos z, z]; exact (hM.2.2.2.2.2.2.2 k c).2.2.2.2
        · rw [if_neg z]
      rcases hy with rfl | rfl
      · have f1 : f_X4_mark (nI k) 0 S = _ := px_mark hX hf c (v := 0) (Or.inl rfl)
        rw [f1, pz_b2]
        by_cases z : w 13 k = 0
        · rw [if_pos z, if_pos (show (0 : Int32) = 0 from rfl), if_neg (show ¬ nI (w 13 k) = (1 : Int32) by rw [z]; decide), if_pos (show (0 : Int32) = 0 from rfl)]
          exact ⟨_, _, M, rfl, rfl, RR_doubt hp hw c (by omega) kp.rfl' (by rw [z] at kk; exact kk)⟩
        · have z1 : w 13 k = 1 := by omega
          rw [if_neg z, if_neg (show ¬ (1 : Int32) = 0 by decide), if_pos (show nI (w 13 k) = (1 : Int32) by rw [z1]; rfl), if_neg (show ¬ (1 : Int32) = 0 by decide), if_pos (show (0 : Int32) = 0 from rfl), pz_sa (show k < 10 by omega) (by decide), pz_some]
          exact ⟨_, _, _, rfl, rfl, RR_doubt hp hw c (by omega) (kp_pA _ _ _ _) (fun i _ => rfl)⟩
      · have f1 : f_X4_mark (nI k) 1 S = _ := px_mark hX hf c (v := 1) (Or.inr rfl)
        rw [f1, pz_b2]
        by_cases z : w 13 k = 1
        · rw [if_pos z, if_pos (show (0 : Int32) = 0 from rfl), if_pos (show nI (w 13 k) = (1 : Int32) by rw [z]; rfl), if_pos (show (1 : Int32) = 1 from rfl)]
          exact ⟨_, _, M, rfl, rfl, RR_doubt hp hw c (by omega) kp.rfl' (by rw [z] at kk; exact kk)⟩
        · have z1 : w 13 k = 0 := by omega
          rw [if_neg z, if_neg (show ¬ (1 : Int32) = 0 by decide), if_neg (show ¬ nI (w 13 k) = (1 : Int32) by rw [z1]; decide), if_neg (show ¬ (0 : Int32) = 1 by decide), if_neg (show ¬ (1 : Int32) = 0 by decide), pz_sa (show k < 10 by omega) (by decide), pz_some]
          exact ⟨_, _, _, rfl, rfl, RR_doubt hp hw c (by omega) (kp_pA _ _ _ _) (fun i _ => rfl)⟩
    · have c' : nI (w 0 6) - 1 < nI k := by
        by_cases z : w 0 6 = 0
        · rw [z]
          exact Int32.lt_of_lt_of_le (show nI 0 - 1 < (0 : Int32) by decide) (pos0 hk)
        · obtain ⟨m, hm⟩ : ∃ m, w 0 6 = m + 1 := ⟨w 0 6 - 1, by omega⟩
          rw [hm, nI_pred]
          exact nI_lt (by omega) hk
      rw [if_neg (show ¬ nI k < nI (w 0 6) from nI_nlt (by omega) hk), if_pos c', pz_b2, if_pos (show (0 : Int32) = 0 from rfl)]
      exact RR_no' h (n := 0) (x := -1) rfl (by omega)
