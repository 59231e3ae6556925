def chY (W A : Nat) (p3 : Int32) : Int64 := if W = 0 then p3.toInt64 else if p3 = 0 then lN (W / Nat.gcd A W) else lN (A / Nat.gcd A W)
theorem ch_fin {W A : Nat} (hA : A < 2 ^ 50) (h : W ≤ A) {p3 : Int32} (hp : p3 = 0 ∨ p3 = 1) (S : bd_T) : (if lN (Nat.gcd A W) = (0 : Int64) then some ((p3.toInt64), S) else (if p3 = 0 then (bd_ldiv (lN W) (lN (Nat.gcd A W))).bind (fun (z17 : Int64) => some (z17, S)) else (bd_ldiv (lN A) (lN (Nat.gcd A W))).bind (fun (z18 : Int64) => some (z18, S)))) = some (chY W A p3, S) := by
  rcases Nat.eq_zero_or_pos A with a | a
  · have w0 : W = 0 := by omega
    subst a; subst w0
    rw [if_pos (show lN (Nat.gcd 0 0) = (0 : Int64) from rfl)]
    rfl
  · have g1 : Nat.gcd A W ≤ A := Nat.le_of_dvd a (Nat.gcd_dvd_left A W)
    have g0 : 0 < Nat.gcd A W := Nat.gcd_pos_of_pos_left W a
    rw [if_neg (fun z => by have := (lz (by omega)).mp z; omega)]
    unfold chY
    by_cases c : p3 = 0
    · rw [if_pos c, ldiv_N (by omega) (by omega) g0, pz_some]
      by_cases d : W = 0
      · rw [if_pos d, d, c, Nat.zero_div]; rfl
      · rw [if_neg d, if_pos c]
    · rw [if_neg c, ldiv_N (by omega) (by omega) g0, pz_some]
      by_cases d : W = 0
      · rw [if_pos d, d, Nat.gcd_zero_right, Nat.div_self a, hp.resolve_left c]; rfl
      · rw [if_neg d, if_neg c]
theorem chm_fin {W A : Nat} (hA : A < 2 ^ 50) (h : W ≤ A) (hW : ¬ W = 0) {p3 : Int32} (M : bd_T) : (if p3 = 0 then bd_b2 (f_X10_divisor (lN W) (lN A) M) (fun (r19 : Int64) (S20 : bd_T) => (bd_ldiv (lN W) r19).bind (fun (z21 : Int64) => some (z21, S20))) else bd_b2 (f_X10_divisor (lN W) (lN A) M) (fun (r22 : Int64) (S23 : bd_T) => (bd_ldiv (lN A) r22).bind (fun (z24 : Int64) => some (z24, S23)))) = some (chY W A p3, M) := by
  have a : 0 < A := by omega
  have g1 : Nat.gcd A W ≤ A := Nat.le_of_dvd a (Nat.gcd_dvd_left A W)
  have g0 : 0 < Nat.gcd A W := Nat.gcd_pos_of_pos_left W a
  unfold chY
  rw [if_neg hW, pm_gcd (by omega) hA, pz_b2, pz_b2, Nat.gcd_comm W A]
  by_cases c : p3 = 0
  · rw [if_pos c, if_pos c, ldiv_N (by omega) (by omega) g0, pz_some]
  · rw [if_neg c, if_neg c, ldiv_N hA (by omega) g0, pz_some]
theorem refuse_neg {z : Int32} {n : Nat} (hn : n < 6) (hz : z = -(nI (n + 1))) : ¬ 0 ≤ z ∧ ¬ z = 0 := by
  have z1 : ¬ 0 ≤ z := by
    subst hz
    exact (by decide : ∀ n, n < 6 → ¬ 0 ≤ -(nI (n + 1))) n hn
  exact ⟨z1, fun e => z1 (by rw [e]; decide)⟩
theorem if01 {α : Type} {p3 : Int32} (hp : p3 = 0 ∨ p3 = 1) (X Y : α) : (if p3 = 0 then X else if p3 = 1 then X else Y) = X := by
  by_cases c : p3 = 0
  · rw [if_pos c]
  · rw [if_neg c, if_pos (hp.resolve_left c)]
theorem r_chance : rel_chance RR := by
  intro x m p3 S M h
  unfold f_X9_chance f_X10_chance
  rcases RR_isThing h x with ⟨e1, e2⟩ | ⟨w, t, hw, ht, rfl, e1, e2⟩
  · rw [e1, e2, pz_b2, pz_b2, if_pos rfl, if_pos rfl]
    obtain ⟨S', M', f1, f2, hr⟩ := RR_no h (n := 0) (x := -1) rfl (by omega)
    rw [f1, f2, pz_b2, pz_b2]
    exact ⟨_, S', M', rfl, rfl, hr⟩
  · rw [e1, e2, pz_b2, pz_b2, if_neg (show ¬ (1 : Int32) = 0 by decide), if_neg (show ¬ (1 : Int32) = 0 by decide)]
    rcases pm_isIn p3 M with ⟨hp, e3⟩ | ⟨hp, e3⟩
    · rw [e3, pz_b2, if_neg (show ¬ (1 : Int32) = 0 by decide), if01 hp]
      rcases RR_minute m S M with ⟨z, n, hn, hz, f1, f2⟩ | ⟨b, hb, rfl, f1, f2⟩
      · obtain ⟨z1, z2⟩ := refuse_neg hn hz
        obtain ⟨S', M', f3, f4, hr⟩ := RR_no h hz hn
        rw [f1, f2, pz_b2, pz_b2, if_neg z1, if_neg z2, f3, f4, pz_b2, pz_b2]
        exact ⟨_, S', M', rfl, rfl, hr⟩
      · obtain ⟨hf, hX, hM, hc, hm, hpre⟩ := id hw
        have h66 := hf.1.1
        obtain ⟨S1, a1, l1, k1⟩ := px_learn hX hf hc
        obtain ⟨S2, a2, r2, p2, k2⟩ := px_countWaysOf (wX_kp k1 (by decide) (by decide) hX) hf l1 (preC_kp k1 (by decide) hpre) ht
        obtain ⟨S3, a3, p3', k3⟩ := together1_C (v := t) (by omega) p2 (f := ZwC w (wg (g0 w)) t) r2
        have hWA : ZwC w (wg (g0 w)) t b ≤ Ways w (g0 w) := by rw [ways_at ht]; exact sN_ge hb
        have hA : Ways w (g0 w) < 2 ^ 50 := Nat.lt_of_le_of_lt (Ways_le hf _) (by decide)
        have a3 : f_X2_together (nI t) S2 = some (lN (Ways w (g0 w)), S3) := by rw [a3]; exact pz_sl (ways_at ht _).symm
        have K := (k1.mono (yi := [15, 16]) (ya := [4, 9, 10]) (yj := [0, 1, 2]) (by decide) (by decide) (by decide)).trans ((k2.mono (by decide) (by decide) (by decide)).trans (k3.mono (by decide) (by decide) (by decide)))
        obtain ⟨M1, g1, m1, j1⟩ := pm_finds hM hf hm
        have hM1 := wM_kp j1 (by decide) (by decide) hM
        obtain ⟨M2, g2, j2⟩ := pm_waysWith hM1 hf m1 ht hb
        have m2 := lM_kp j2 (by decide) m1
        have hM2 := wM_kp j2 (by decide) (by decide) hM1
        have core : ∃ M3, (if lN (ZwC w (wg (g0 w)) t b) = (0 : Int64) then some ((p3.toInt64), M2) else bd_b2 (f_X10_frees M2) (fun (r15 : Unit) (S16 : bd_T) => bd_b2 (f_X10_waysOf S16) (fun (r17 : Int64) (S18 : bd_T) => (if p3 = 0 then bd_b2 (f_X10_divisor (lN (ZwC w (wg (g0 w)) t b)) r17 S18) (fun (r19 : Int64) (S20 : bd_T) => (bd_ldiv (lN (ZwC w (wg (g0 w)) t b)) r19).bind (fun (z21 : Int64) => some (z21, S20))) else bd_b2 (f_X10_divisor (lN (ZwC w (wg (g0 w)) t b)) r17 S18) (fun (r22 : Int64) (S23 : bd_T) => (bd_ldiv r17 r22).bind (fun (z24 : Int64) => some (z24, S23))))))) = some (chY (ZwC w (wg (g0 w)) t b) (Ways w (g0 w)) p3, M3) ∧ kp M2 M3 [9] [15, 16] [0, 1] := by
          by_cases c : ZwC w (wg (g0 w)) t b = 0
          · rw [if_pos ((lz (by omega)).mpr c)]
            exact ⟨M2, by unfold chY; rw [if_pos c], kp.rfl'⟩
          · rw [if_neg (fun z => c ((lz (by omega)).mp z))]
            obtain ⟨M4, g4, m4, j4⟩ := pm_frees (M := M2) hf
            obtain ⟨M5, g5, j5⟩ := pm_waysOf (wM_kp j4 (by decide) (by decide) hM2) hf (lM_kp j4 (by decide) m2) m4
            rw [g4, pz_b2, g5, pz_b2, Ways_free hf]
            exact ⟨M5, chm_fin hA hWA c M5, (j4.mono (by decide) (by decide) (by decide)).trans (j5.mono (by decide) (by decide) (by decide))⟩
        obtain ⟨M3, g3, j3⟩ := core
        have J := (j1.mono (yi := [7, 9]) (ya := [15, 16, 18, 20, 21]) (yj := [0, 1]) (by decide) (by decide) (by decide)).trans ((j2.mono (by decide) (by decide) (by decide)).trans (j3.mono (by decide) (by decide) (by decide)))
        have hR := RR_calc h.1 hw K J (cX'_kp k3 (by decide) (cX'_kp k2 (by decide) (cX'_lX l1))) (Or.inr (lM_kp j3 (by decide) m2)) p3'
        rw [f1, f2, pz_b2, pz_b2, if_pos (show (0 : Int32) ≤ 0 by decide), if_pos (show (0 : Int32) = 0 from rfl), a1, pz_b2, a2, pz_b2, px_value (by omega) hb, r2 b hb, pz_b2, a3, pz_b2, px_gcd hA hWA, pz_b2, g1, pz_b2, g2, pz_b2, g3, ch_fin hA hWA hp]
        exact ⟨_, S3, M3, rfl, rfl, hR⟩
    · rw [e3, pz_b2, if_pos (show (0 : Int32) = 0 from rfl), if_neg hp.1, if_neg hp.2]
      obtain ⟨S', M', f1, f2, hr⟩ := RR_no h (n := 1) (x := -2) rfl (by omega)
      rw [f1, f2, pz_b2, pz_b2]
      exact ⟨_, S', M', rfl, rfl, hr⟩
