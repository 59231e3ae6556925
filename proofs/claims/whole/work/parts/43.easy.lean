theorem Ways_free {w : bw} (hf : wF w) : Ways w (gd w (fun _ => 0) (fun _ => 299) 0) = Ways w (g0 w) := Ways_congr (fun t b _ hb => by
  rw [gd_g0 hf, decide_eq_true (show (0 : Nat) ≤ b ∧ b ≤ 299 by omega), Bool.true_and])
theorem Ways_none (w : bw) : Ways w (gS w (fun _ => false)) = Ways w (g0 w) := rfl
theorem pm_waysWith {M : bd_T} {w : bw} (hw : wM M w) (hf : wF w) (hl : lM M w) {t b : Nat} (ht : t < w 0 0) (hb : b < 300) : ∃ M', f_X10_waysWith (nI t) (nI b) M = some (lN (ZwC w (wg (g0 w)) t b), M') ∧ kp M M' [9] [15, 16] [0, 1] := by
  have h66 := hf.1.1
  unfold f_X10_waysWith
  obtain ⟨M1, e1, f1, k1⟩ := pm_frees (M := M) hf
  rw [e1, pz_b2, pz_sa (show t < 6 by omega) (by decide), pz_some, pz_sa (show t < 6 by omega) (by decide), pz_some]
  have k2 : kp M (bd_pA (bd_pA M1 15 t (nI b)) 16 t (nI b)) [9] [15, 16] [0, 1] := (k1.mono (by decide) (by decide) (by decide)).trans (((kp_pA _ _ _ _).mono (by decide) (by decide) (by decide)).trans ((kp_pA _ _ _ _).mono (by decide) (by decide) (by decide)))
  have f2 : frM (bd_pA (bd_pA M1 15 t (nI b)) 16 t (nI b)) w (fup (fun _ => 0) t b) (fup (fun _ => 299) t b) 0 := ⟨fun i hi => by
    obtain ⟨a1, a2, a3, a4⟩ := f1.1 i hi
    refine ⟨?_, ?_, ?_, ?_⟩
    · show upd (bd_A M1 15) t _ i = _
      rw [pz_up]; unfold fup
      split
      · rfl
      · exact a1
    · show upd (bd_A M1 16) t _ i = _
      rw [pz_up]; unfold fup
      split
      · rfl
      · exact a2
    · unfold fup; split <;> omega
    · unfold fup; split <;> omega, f1.2.1, by omega⟩
  obtain ⟨M2, e2, k3⟩ := pm_waysOf (wM_kp k2 (by decide) (by decide) hw) hf (lM_kp k2 (by decide) hl) f2
  rw [e2, pz_b2]
  refine ⟨M2, pz_sl ?_, k2.trans (k3.mono (by decide) (by decide) (by decide))⟩
  rw [← ways_one ht hb]
  refine Ways_congr (fun i x hi hx => ?_)
  rw [gd_g0 hf, Bool.and_comm]
  unfold at1 fup
  congr 1
  by_cases z : i = t
  · subst z
    simp only [if_true, ne_eq, not_true, decide_false, Bool.false_or]
    rw [decide_eq_decide]; omega
  · rw [if_neg z, if_neg z]; simp [z]; omega
theorem pm_findMay {M : bd_T} {w : bw} (hw : wM M w) (hf : wF w) (hc : cM' M w) {t : Nat} (ht : t < w 0 0) : ∃ M', f_X10_findMay (nI t) M = some ((), M') ∧ lM M' w ∧ kp M M' [7, 9] [15, 16, 20, 21] [0, 1] ∧ ∀ b, b < 300 → bd_A M' 21 b = if 0 < ZwC w (wg (g0 w)) t b then 1 else 0 := by
  unfold f_X10_findMay
  obtain ⟨M1, e1, l1, k1⟩ := pm_finds hw hf hc
  have hw1 := wM_kp k1 (by decide) (by decide) hw
  rw [e1, pz_b2]
  obtain ⟨r, e, h⟩ := pz_loop (F := fun q => fb_X10_findMay_6 (nI t) q.1 q.2) (fun i s => s.1 = nI i ∧ kp M1 s.2 [9] [15, 16, 21] [0, 1] ∧ ∀ b, b < i → bd_A s.2 21 b = if 0 < ZwC w (wg (g0 w)) t b then 1 else 0) (fun r => kp M1 r [9] [15, 16, 21] [0, 1] ∧ ∀ b, b < 300 → bd_A r 21 b = if 0 < ZwC w (wg (g0 w)) t b then 1 else 0) 300 (fun i s hi hs => by
      obtain ⟨q1, q2, q3⟩ := hs
      obtain ⟨s1, s2⟩ := s
      dsimp only at q1 q2 q3 ⊢
      subst q1
      left
      obtain ⟨M', e', k'⟩ := pm_waysWith (wM_kp q2 (by decide) (by decide) hw1) hf (lM_kp q2 (by decide) l1) ht hi
      have hz := ZwC_le hf (g0 w) t i
      have hle : (lN (ZwC w (wg (g0 w)) t i) ≤ (0 : Int64)) ↔ ¬ 0 < ZwC w (wg (g0 w)) t i := by
        rw [← Int64.not_lt]
        exact not_congr (pk_lLT (a := 0) (by omega) (by omega))
      have fin : ∀ v : Int32, v = (if 0 < ZwC w (wg (g0 w)) t i then 1 else 0) → ∃ s', (some (.inl (nI i + 1, bd_pA M' 21 i v)) : Option ((Int32 × bd_T) ⊕ bd_T)) = some (.inl s') ∧ s'.1 = nI (i + 1) ∧ kp M1 s'.2 [9] [15, 16, 21] [0, 1] ∧ ∀ b, b < i + 1 → bd_A s'.2 21 b = if 0 < ZwC w (wg (g0 w)) t b then 1 else 0 := fun v hv => by
        refine ⟨_, rfl, nI_1 i, q2.trans ((k'.mono (by decide) (by decide) (by decide)).trans ((kp_pA _ _ _ _).mono (by decide) (by decide) (by decide))), fun b hb => ?_⟩
        show upd (bd_A M' 21) i v b = _
        rw [pz_up]
        by_cases z : b = i
        · subst z; rw [if_pos rfl]; exact hv
        · rw [if_neg z, k'.2.1 21 (by decide)]; exact q3 b (by omega)
      unfold fb_X10_findMay_6
      rw [if_neg (n300 hi), e', pz_b2]
      by_cases c : 0 < ZwC w (wg (g0 w)) t i
      · rw [if_neg (fun z => hle.mp z c), pz_sa hi (by decide), pz_some]
        exact fin _ (by rw [if_pos c]; rfl)
      · rw [if_pos (hle.mpr c), pz_sa hi (by decide), pz_some]
        exact fin _ (by rw [if_neg c]; rfl)) (fun s hs => by
      obtain ⟨q1, q2, q3⟩ := hs
      obtain ⟨s1, s2⟩ := s
      dsimp only at q1 q2 q3 ⊢
      subst q1
      unfold fb_X10_findMay_6
      rw [if_pos y300]
      exact ⟨_, rfl, q2, q3⟩) (s0 := ((0 : Int32), M1)) ⟨rfl, kp.rfl', fun b hb => by omega⟩ bd_K (by rw [pz_K]; omega)
  rw [e, pz_some]
  exact ⟨r, rfl, lM_kp h.1 (by decide) l1, (k1.mono (by decide) (by decide) (by decide)).trans (h.1.mono (by decide) (by decide) (by decide)), h.2⟩
/-! ways -/
theorem r_ways : rel_ways RR := by
  intro S M h
  obtain ⟨hp, w, hw⟩ := h
  obtain ⟨hf, hX, hM, hc, hm, hpre⟩ := id hw
  unfold f_X9_ways f_X10_ways
  obtain ⟨S1, e1, l1, k1⟩ := px_learn hX hf hc
  obtain ⟨S2, e2, p2, k2⟩ := px_waysWithout (wX_kp k1 (by decide) (by decide) hX) hf l1 (preC_kp k1 (by decide) hpre) (x1 := -1) (P := fun _ => false) (fun t ht => ⟨fun z => by
    have : ¬ nI t < (0 : Int32) := nI_nlt (b := 0) (Nat.zero_le t) (by have := hf.1.1; omega)
    exact absurd (z ▸ (by decide : (-1 : Int32) < 0)) this, fun z => by cases z⟩)
  obtain ⟨M1, g1, m1, j1⟩ := pm_finds hM hf hm
  obtain ⟨M2, g2, m2, j2⟩ := pm_frees (M := M1) hf
  obtain ⟨M3, g3, j3⟩ := pm_waysOf (wM_kp j2 (by decide) (by decide) (wM_kp j1 (by decide) (by decide) hM)) hf (lM_kp j2 (by decide) m1) m2
  rw [e1, pz_b2, e2, pz_b2, g1, pz_b2, g2, pz_b2, g3, pz_b2, Ways_free hf, Ways_none]
  exact ⟨_, S2, M3, rfl, rfl, RR_calc hp hw ((k1.mono (by decide) (by decide) (by decide)).trans (k2.mono (by decide) (by decide) (by decide))) ((j1.mono (by decide) (by decide) (by decide)).trans ((j2.mono (by decide) (by decide) (by decide)).trans (j3.mono (by decide) (by decide) (by decide)))) (cX'_kp k2 (by decide) (cX'_lX l1)) (Or.inr (lM_kp j3 (by decide) (lM_kp j2 (by decide) m1))) p2⟩
