/-! alone, can, may -/
def cnt (P : Nat → Bool) : Nat → Nat
  | 0 => 0
  | n + 1 => cnt P n + if P n = true then 1 else 0
theorem cnt_y {P : Nat → Bool} {i : Nat} (h : P i = true) : nI (cnt P i) + 1 = nI (cnt P (i + 1)) := by
  rw [nI_1]; show _ = nI (cnt P i + if P i = true then 1 else 0); rw [if_pos h]
theorem cnt_n {P : Nat → Bool} {i : Nat} (h : ¬ P i = true) : nI (cnt P i) = nI (cnt P (i + 1)) := by
  show _ = nI (cnt P i + if P i = true then 1 else 0); rw [if_neg h, Nat.add_zero]
theorem I0 (x : Int32) : x + 0 = x := Int32.add_zero x
theorem lp_alone {S : bd_T} {w : bw} (hw : wX S w) (hf : wF w) (hl : lX S w) {t : Nat} (ht : t < w 0 0) : bd_lp bd_K (fun q => fb_X9_alone_29 (nI t) q.1 q.2.1 q.2.2) ((0 : Int32), (0 : Int32), S) = some (nI (cnt (g0 w t) 300), S) := by
  refine pz_for (fun i => (nI (cnt (g0 w t) i), nI i, S)) 300 _ (fun i hi => ?_) ?_ bd_K (by rw [pz_K]; omega)
  · dsimp only
    unfold fb_X9_alone_29
    rw [if_neg (n300 hi), px_speaking hw hf hl ht hi, pz_b2, nI_1 i]
    by_cases c : spk w t i = 0
    · rw [if_pos ((spk_z hf t i).mpr c), cnt_y (P := g0 w t) (decide_eq_true c)]
    · rw [if_neg (fun z => c ((spk_z hf t i).mp z)), ← cnt_n (P := g0 w t) (by unfold g0; simpa using c)]
  · dsimp only
    unfold fb_X9_alone_29
    rw [if_pos y300]
theorem lpm_alone {M : bd_T} {w : bw} (hw : wM M w) (hf : wF w) (hl : lM M w) (hfr : frM M w (fun _ => 0) (fun _ => 299) 0) {t : Nat} (ht : t < w 0 0) : bd_lp bd_K (fun q => fb_X10_alone_26 (nI t) q.1 q.2.1 q.2.2) ((0 : Int32), (0 : Int32), M) = some (nI (cnt (g0 w t) 300), M) := by
  refine pz_for (fun i => (nI (cnt (g0 w t) i), nI i, M)) 300 _ (fun i hi => ?_) ?_ bd_K (by rw [pz_K]; omega)
  · dsimp only
    unfold fb_X10_alone_26
    rw [if_neg (n300 hi), pm_canOf hw hf hl hfr ht hi, pz_b2, nI_1 i, gd_g0 hf, decide_eq_true (show (0 : Nat) ≤ i ∧ i ≤ 299 by omega), Bool.true_and]
    by_cases c : g0 w t i = true
    · rw [if_pos c, if_neg (by decide), pz_b1, cnt_y c]
    · rw [if_neg c, if_pos rfl, pz_b1, I0, ← cnt_n c]
  · dsimp only
    unfold fb_X10_alone_26
    rw [if_pos y300]
theorem r_alone : rel_alone RR := by
  intro x S M h
  unfold f_X9_alone f_X10_alone
  rcases RR_isThing h x with ⟨e1, e2⟩ | ⟨w, t, hw, ht, rfl, e1, e2⟩
  · rw [e1, e2, pz_b2, pz_b2, if_pos rfl, if_pos rfl]
    obtain ⟨S', M', f1, f2, hr⟩ := RR_no h (n := 0) (x := -1) rfl (by omega)
    rw [f1, f2, pz_b2, pz_b2]
    exact ⟨_, S', M', rfl, rfl, hr⟩
  · obtain ⟨hf, hX, hM, hc, hm, hpre⟩ := id hw
    obtain ⟨S1, a1, l1, k1⟩ := px_learn hX hf hc
    obtain ⟨M1, g1, m1, j1⟩ := pm_finds hM hf hm
    obtain ⟨M2, g2, m2, j2⟩ := pm_frees (M := M1) hf
    rw [e1, e2, pz_b2, pz_b2, if_neg (by decide), if_neg (by decide), a1, pz_b2, lp_alone (wX_kp k1 (by decide) (by decide) hX) hf l1 ht, pz_some, g1, pz_b2, g2, pz_b2, lpm_alone (wM_kp j2 (by decide) (by decide) (wM_kp j1 (by decide) (by decide) hM)) hf (lM_kp j2 (by decide) m1) m2 ht, pz_some]
    exact ⟨_, S1, M2, rfl, rfl, RR_calc h.1 hw (k1.mono (by decide) (by decide) (by decide)) ((j1.mono (by decide) (by decide) (by decide)).trans (j2.mono (by decide) (by decide) (by decide))) (cX'_lX l1) (Or.inr (lM_kp j2 (by decide) m1)) (preC_kp k1 (by decide) hpre)⟩
theorem r_can : rel_can RR := by
  intro x y S M h
  unfold f_X9_can f_X10_can
  rcases RR_isThing h x with ⟨e1, e2⟩ | ⟨w, t, hw, ht, rfl, e1, e2⟩
  · rw [e1, e2, pz_b2, pz_b2, if_pos rfl, if_pos rfl]
    obtain ⟨S', M', f1, f2, hr⟩ := RR_no h (n := 0) (x := -1) rfl (by omega)
    rw [f1, f2, pz_b2, pz_b2]
    exact ⟨_, S', M', rfl, rfl, hr⟩
  · rw [e1, e2, pz_b2, pz_b2, if_neg (by decide), if_neg (by decide)]
    rcases RR_minute y S M with ⟨z, n, hn, hz, f1, f2⟩ | ⟨b, hb, rfl, f1, f2⟩
    · rw [f1, f2, pz_b2, pz_b2]
      obtain ⟨S', M', f3, f4, hr⟩ := RR_no h hz hn
      have z1 : ¬ 0 ≤ z := by
        subst hz
        exact (by decide : ∀ n, n < 6 → ¬ 0 ≤ -(nI (n + 1))) n hn
      have z2 : ¬ z = 0 := fun e => z1 (by rw [e]; decide)
      rw [if_neg z1, if_neg z2, f3, f4, pz_b2, pz_b2]
      exact ⟨_, S', M', rfl, rfl, hr⟩
    · obtain ⟨hf, hX, hM, hc, hm, hpre⟩ := id hw
      obtain ⟨S1, a1, l1, k1⟩ := px_learn hX hf hc
      obtain ⟨M1, g1, m1, j1⟩ := pm_finds hM hf hm
      obtain ⟨M2, g2, m2, j2⟩ := pm_frees (M := M1) hf
      rw [f1, f2, pz_b2, pz_b2, if_pos (by decide), if_pos rfl, a1, pz_b2, px_speaking (wX_kp k1 (by decide) (by decide) hX) hf l1 ht hb, pz_b2, g1, pz_b2, g2, pz_b2, pm_canOf (wM_kp j2 (by decide) (by decide) (wM_kp j1 (by decide) (by decide) hM)) hf (lM_kp j2 (by decide) m1) m2 ht hb, pz_b2, gd_g0 hf, decide_eq_true (show (0 : Nat) ≤ b ∧ b ≤ 299 by omega), Bool.true_and]
      have R := RR_calc h.1 hw (k1.mono (by decide) (by decide) (by decide)) ((j1.mono (by decide) (by decide) (by decide)).trans (j2.mono (by decide) (by decide) (by decide))) (cX'_lX l1) (Or.inr (lM_kp j2 (by decide) m1)) (preC_kp k1 (by decide) hpre)
      by_cases c : spk w t b = 0
      · have c2 : g0 w t b = true := decide_eq_true c
        rw [if_pos ((spk_z hf t b).mpr c), if_pos c2, if_neg (by decide)]
        exact ⟨_, S1, M2, rfl, rfl, R⟩
      · have c2 : ¬ g0 w t b = true := by unfold g0; simpa using c
        rw [if_neg (fun z => c ((spk_z hf t b).mp z)), if_neg c2, if_pos rfl]
        exact ⟨_, S1, M2, rfl, rfl, R⟩
/-- MINUTES that a WAY has -/
def mP (w : bw) (t b : Nat) : Bool := decide (0 < ZwC w (wg (g0 w)) t b)
theorem mP_le {w : bw} (hf : wF w) (t b : Nat) : (lN (ZwC w (wg (g0 w)) t b) ≤ (0 : Int64)) ↔ ¬ mP w t b = true := by
  have hz := ZwC_le hf (g0 w) t b
  unfold mP
  rw [decide_eq_true_eq, ← Int64.not_lt]
  exact not_congr (pk_lLT (a := 0) (by omega) (by omega))
theorem lp_may {S : bd_T} {w : bw} (hf : wF w) {t : Nat} (ht : t < w 0 0) (hr : ∀ b, b < 300 → bd_J S 0 (300 * t + b) = lN (ZwC w (wg (g0 w)) t b)) : bd_lp bd_K (fun q => fb_X9_may_34 (nI t) q.1 q.2.1 q.2.2) ((0 : Int32), (0 : Int32), S) = some (nI (cnt (mP w t) 300), S) := by
  have h66 := hf.1.1
  refine pz_for (fun i => (nI (cnt (mP w t) i), nI i, S)) 300 _ (fun i hi => ?_) ?_ bd_K (by rw [pz_K]; omega)
  · dsimp only
    unfold fb_X9_may_34
    rw [if_neg (n300 hi), px_value (by omega) hi, pz_b2, hr i hi, nI_1 i]
    by_cases c : mP w t i = true
    · rw [if_neg (fun z => (mP_le hf t i).mp z c), cnt_y c]
    · rw [if_pos ((mP_le hf t i).mpr c), ← cnt_n c]
  · dsimp only
    unfold fb_X9_may_34
    rw [if_pos y300]
theorem lpm_may {M : bd_T} {w : bw} {t : Nat} (hr : ∀ b, b < 300 → bd_A M 21 b = if 0 < ZwC w (wg (g0 w)) t b then 1 else 0) : bd_lp bd_K (fun q => fb_X10_may_23 q.1 q.2.1 q.2.2) ((0 : Int32), (0 : Int32), M) = some (nI (cnt (mP w t) 300), M) := by
  refine pz_for (fun i => (nI (cnt (mP w t) i), nI i, M)) 300 _ (fun i hi => ?_) ?_ bd_K (by rw [pz_K]; omega)
  · dsimp only
    unfold fb_X10_may_23
    rw [if_neg (n300 hi), pz_ga hi (by decide), pz_some, hr i hi, nI_1 i]
    by_cases c : 0 < ZwC w (wg (g0 w)) t i
    · rw [if_pos c, if_neg (by decide), pz_b1, cnt_y (P := mP w t) (decide_eq_true c)]
    · rw [if_neg c, if_pos rfl, pz_b1, I0, ← cnt_n (P := mP w t) (by unfold mP; simpa using c)]
  · dsimp only
    unfold fb_X10_may_23
    rw [if_pos y300]
/-- both reckon the MINUTES of a THING -/
theorem both_may {S M : bd_T} (h : RR S M) {w : bw} (hw : Rw w S M) {t : Nat} (ht : t < w 0 0) : ∃ S1 S2 M1, f_X0_learn S = some ((), S1) ∧ f_X9_countWaysOf (nI t) S1 = some ((), S2) ∧ f_X10_findMay (nI t) M = some ((), M1) ∧ (∀ b, b < 300 → bd_J S2 0 (300 * t + b) = lN (ZwC w (wg (g0 w)) t b)) ∧ (∀ b, b < 300 → bd_A M1 21 b = if 0 < ZwC w (wg (g0 w)) t b then 1 else 0) ∧ RR S2 M1 ∧ Rw w S2 M1 ∧ lX S2 w ∧ lM M1 w := by
  obtain ⟨hf, hX, hM, hc, hm, hpre⟩ := id hw
  obtain ⟨S1, a1, l1, k1⟩ := px_learn hX hf hc
  obtain ⟨S2, a2, r2, p2, k2⟩ := px_countWaysOf (wX_kp k1 (by decide) (by decide) hX) hf l1 (preC_kp k1 (by decide) hpre) ht
  obtain ⟨M1, g1, m1, j1, r1⟩ := pm_findMay hM hf hm ht
  have K := (k1.mono (yi := [15, 16]) (ya := [4, 9, 10]) (yj := [0, 1, 2]) (by decide) (by decide) (by decide)).trans (k2.mono (by decide) (by decide) (by decide))
  have J := j1.mono (yi := [7, 9]) (ya := [15, 16, 18, 20, 21]) (yj := [0, 1]) (by decide) (by decide) (by decide)
  exact ⟨S1, S2, M1, a1, a2, g1, r2, r1, RR_calc h.1 hw K J (cX'_kp k2 (by decide) (cX'_lX l1)) (Or.inr m1) p2, ⟨hf, wX_kp K (by decide) (by decide) hX, wM_kp J (by decide) (by decide) hM, cX'_kp k2 (by decide) (cX'_lX l1), Or.inr m1, p2⟩, lX_kp k2 (by decide) l1, m1⟩
theorem r_may : rel_may RR := by
  intro x S M h
  unfold f_X9_may f_X10_may
  rcases RR_isThing h x with ⟨e1, e2⟩ | ⟨w, t, hw, ht, rfl, e1, e2⟩
  · rw [e1, e2, pz_b2, pz_b2, if_pos rfl, if_pos rfl]
    obtain ⟨S', M', f1, f2, hr⟩ := RR_no h (n := 0) (x := -1) rfl (by omega)
    rw [f1, f2, pz_b2, pz_b2]
    exact ⟨_, S', M', rfl, rfl, hr⟩
  · obtain ⟨S1, S2, M1, a1, a2, g1, r2, r1, hR, -, -, -⟩ := both_may h hw ht
    rw [e1, e2, pz_b2, pz_b2, if_neg (by decide), if_neg (by decide), a1, pz_b2, a2, pz_b2, lp_may hw.1 ht r2, pz_some, g1, pz_b2, lpm_may r1, pz_some]
    exact ⟨_, S2, M1, rfl, rfl, hR⟩
