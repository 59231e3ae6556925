/-! opened -/
def wv (w : bw) (p q r : Nat) : bw := wst (wst (wst w 0 2 p) 0 3 q) 0 4 r
theorem wv_self (w : bw) : wv w (w 0 2) (w 0 3) (w 0 4) = w := by
  funext a j
  show (if a = 0 ∧ j = 4 then w 0 4 else if a = 0 ∧ j = 3 then w 0 3 else if a = 0 ∧ j = 2 then w 0 2 else w a j) = w a j
  by_cases c : a = 0 ∧ j = 4
  · rw [if_pos c, c.1, c.2]
  · rw [if_neg c]
    by_cases c : a = 0 ∧ j = 3
    · rw [if_pos c, c.1, c.2]
    · rw [if_neg c]
      by_cases c : a = 0 ∧ j = 2
      · rw [if_pos c, c.1, c.2]
      · rw [if_neg c]
def wC (w : bw) (i : Nat) : bw := wv w 1 (w 7 i) (w 8 i)
theorem wC_F {w : bw} (hf : wF w) {i : Nat} (hi : i < w 0 5) : wF (wC w i) := ⟨⟨hf.1.1, hf.1.2.1, Nat.le_refl 1, hf.1.2.2.2⟩, fun _ => hf.2.2.1 i hi, hf.2.2⟩
def op (w : bw) : Nat → Int32
  | 0 => -9
  | n + 1 => if op w n = -9 then (if 0 < Ways (wC w n) (g0 (wC w n)) then nI n else -9) else op w n
theorem op_stay {w : bw} {n : Nat} (h : op w n ≠ -9) (m : Nat) : op w (n + m) = op w n := by
  induction m with
  | zero => rfl
  | succ m ih =>
    show (if op w (n + m) = -9 then _ else op w (n + m)) = _
    rw [ih, if_neg h]
theorem ways_le0 {w : bw} (hf : wF w) (g : Nat → Nat → Bool) : (lN (Ways w g) ≤ (0 : Int64)) ↔ ¬ 0 < Ways w g := by
  have hz := Ways_le hf g
  rw [← Int64.not_lt]
  exact not_congr (pk_lLT (a := 0) (by omega) (by omega))
theorem no_thing {w : bw} (hf : wF w) : ∀ t, t < w 0 0 → (nI t = (-1 : Int32) ↔ (fun _ => false : Nat → Bool) t = true) := fun t ht => ⟨fun z => by
    have : ¬ nI t < (0 : Int32) := nI_nlt (b := 0) (Nat.zero_le t) (by have := hf.1.1; omega)
    exact absurd (z ▸ (by decide : (-1 : Int32) < 0)) this, fun z => by cases z⟩
def oX (S : bd_T) (w : bw) (S' : bd_T) : Prop := kp S S' [3, 4, 15, 16] [4, 9, 10] [0, 1] ∧ preC S' ∧ ∃ p q r, wF (wv w p q r) ∧ wX S' (wv w p q r) ∧ cX' S' (wv w p q r)
def oM (M : bd_T) (w : bw) (M' : bd_T) : Prop := kp M M' [4, 5, 7, 9] [15, 16, 20] [0, 1] ∧ ∃ p q r, wF (wv w p q r) ∧ wM M' (wv w p q r)
theorem px_opened {S : bd_T} {w : bw} (hX : wX S w) (hf : wF w) (hc : cX' S w) (hp : preC S) (z1 z2 : Int32) : ∃ r, bd_lp bd_K (fun q => fb_X9_opened_22 z1 z2 q.1 q.2.1 q.2.2) ((-9 : Int32), (0 : Int32), S) = some r ∧ r.1 = op w (w 0 5) ∧ oX S w r.2 := by
  have h54 := hf.1.2.2.2.1
  have h10 := hf.1.2.2.2.2
  refine pz_loop (F := fun q => fb_X9_opened_22 z1 z2 q.1 q.2.1 q.2.2) (fun i s => s.1 = op w i ∧ s.2.1 = nI i ∧ oX S w s.2.2) (fun r => r.1 = op w (w 0 5) ∧ oX S w r.2) (w 0 5) (fun i s hi hs => ?_) (fun s hs => ?_) ⟨rfl, rfl, kp.rfl', hp, w 0 2, w 0 3, w 0 4, by rw [wv_self]; exact hf, by rw [wv_self]; exact hX, by rw [wv_self]; exact hc⟩ bd_K (by rw [pz_K]; omega)
  · obtain ⟨q1, q2, q3⟩ := hs
    obtain ⟨s1, s2, s3⟩ := s
    dsimp only at q1 q2 q3 ⊢
    subst q1 q2
    obtain ⟨kS, hp', p, q, r, uF, uX, uC⟩ := id q3
    have i5 : bd_I s3 5 = nI (w 0 5) := by rw [kS.1 5 (by decide)]; exact hX.2.2.1
    have r2 : bd_A s3 2 i = nI (w 7 i) := by rw [kS.2.1 2 (by decide)]; exact (hX.2.2.2.2.2.2.1 i hi).1
    have r3 : bd_A s3 3 i = nI (w 8 i) := by rw [kS.2.1 3 (by decide)]; exact (hX.2.2.2.2.2.2.1 i hi).2
    unfold fb_X9_opened_22
    rw [i5, if_neg (nI_ge hi (by omega))]
    by_cases c : op w i = -9
    · left
      have vF := wC_F hf hi
      rw [if_pos c, pz_at (k := 2) (show i < 4 by omega) (by decide), pz_b2, pz_at (k := 3) (show i < 4 by omega) (by decide), pz_b2, r2, r3]
      unfold f_X8_open
      rw [pz_si, pz_si, pz_b2]
      have K : kp s3 (bd_pI (bd_pI s3 3 (nI (w 7 i))) 4 (nI (w 8 i))) [3, 4] [] [] := ((kp_pI _ _ _).mono (by decide) (by decide) (by decide)).trans ((kp_pI _ _ _).mono (by decide) (by decide) (by decide))
      obtain ⟨S4, f1, f2, f3, K2⟩ := px_forget (S := bd_pI (bd_pI s3 3 (nI (w 7 i))) 4 (nI (w 8 i))) (cX'_kp K (by decide) uC) uF.1.2.2.2.2
      have vX3 : wX (bd_pI (bd_pI s3 3 (nI (w 7 i))) 4 (nI (w 8 i))) (wC w i) := ⟨uX.1, Or.inr ⟨rfl, rfl, rfl⟩, uX.2.2⟩
      have vX4 := wX_kp K2 (by decide) (by decide) vX3
      obtain ⟨S5, g1, l5, K5⟩ := px_learn vX4 vF (cX'_new f2 f3)
      have vX5 := wX_kp K5 (by decide) (by decide) vX4
      have p5 : preC S5 := preC_kp K5 (by decide) (preC_kp K2 (by decide) (preC_kp K (by decide) hp'))
      obtain ⟨S6, g2, p6, K6⟩ := px_waysWithout vX5 vF l5 p5 (x1 := -1) (P := fun _ => false) (no_thing vF)
      have vX6 := wX_kp K6 (by decide) (by decide) vX5
      have vC6 := cX'_kp K6 (by decide) (cX'_lX l5)
      have o6 : oX S w S6 := ⟨kS.trans ((K.mono (by decide) (by decide) (by decide)).trans ((K2.mono (by decide) (by decide) (by decide)).trans ((K5.mono (by decide) (by decide) (by decide)).trans (K6.mono (by decide) (by decide) (by decide))))), p6, 1, w 7 i, w 8 i, vF, vX6, vC6⟩
      rw [f1, pz_b2, g1, pz_b2, g2, pz_b2, Ways_none, nI_1]
      have e : op w (i + 1) = if 0 < Ways (wC w i) (g0 (wC w i)) then nI i else -9 := if_pos c
      by_cases d : 0 < Ways (wC w i) (g0 (wC w i))
      · rw [if_pos d] at e
        rw [if_neg (fun z => (ways_le0 vF _).mp z d)]
        exact ⟨_, rfl, e.symm, rfl, o6⟩
      · rw [if_neg d] at e
        rw [if_pos ((ways_le0 vF _).mpr d)]
        exact ⟨_, rfl, e.symm, rfl, o6⟩
    · right
      rw [if_neg c]
      refine ⟨_, rfl, ?_, q3⟩
      have := op_stay c (w 0 5 - i)
      rw [show i + (w 0 5 - i) = w 0 5 by omega] at this
      exact this.symm
  · obtain ⟨q1, q2, q3⟩ := hs
    obtain ⟨s1, s2, s3⟩ := s
    dsimp only at q1 q2 q3 ⊢
    subst q1 q2
    have i5 : bd_I s3 5 = nI (w 0 5) := by rw [q3.1.1 5 (by decide)]; exact hX.2.2.1
    unfold fb_X9_opened_22
    rw [i5, if_pos (Int32.le_refl _)]
    exact ⟨_, rfl, rfl, q3⟩
theorem pm_opened {M : bd_T} {w : bw} (hM : wM M w) (hf : wF w) (z1 z2 : Int32) : ∃ r, bd_lp bd_K (fun q => fb_X10_opened_16 z1 z2 q.1 q.2.1 q.2.2) ((-9 : Int32), (0 : Int32), M) = some r ∧ r.1 = op w (w 0 5) ∧ oM M w r.2 := by
  have h54 := hf.1.2.2.2.1
  have h10 := hf.1.2.2.2.2
  refine pz_loop (F := fun q => fb_X10_opened_16 z1 z2 q.1 q.2.1 q.2.2) (fun i s => s.1 = op w i ∧ s.2.1 = nI i ∧ oM M w s.2.2) (fun r => r.1 = op w (w 0 5) ∧ oM M w r.2) (w 0 5) (fun i s hi hs => ?_) (fun s hs => ?_) ⟨rfl, rfl, kp.rfl', w 0 2, w 0 3, w 0 4, by rw [wv_self]; exact hf, by rw [wv_self]; exact hM⟩ bd_K (by rw [pz_K]; omega)
  · obtain ⟨q1, q2, q3⟩ := hs
    obtain ⟨s1, s2, s3⟩ := s
    dsimp only at q1 q2 q3 ⊢
    subst q1 q2
    obtain ⟨kS, p, q, r, uF, uM⟩ := id q3
    have i6 : bd_I s3 6 = nI (w 0 5) := by rw [kS.1 6 (by decide)]; exact hM.2.2.1
    have r5 : bd_A s3 5 i = nI (w 7 i) := by rw [kS.2.1 5 (by decide)]; exact (hM.2.2.2.2.2.1 i hi).1
    have r6 : bd_A s3 6 i = nI (w 8 i) := by rw [kS.2.1 6 (by decide)]; exact (hM.2.2.2.2.2.1 i hi).2
    unfold fb_X10_opened_16
    rw [i6, if_neg (nI_ge hi (by omega))]
    by_cases c : op w i = -9
    · left
      have vF := wC_F hf hi
      rw [if_pos c, pz_ga (show i < 4 by omega) (by decide), pz_some, pz_si, r5, pz_ga (show i < 4 by omega) (by decide), pz_some, pz_AI, r6, pz_si, pz_si]
      have K : kp s3 (bd_pI (bd_pI (bd_pI s3 4 (nI (w 7 i))) 5 (nI (w 8 i))) 7 1) [4, 5, 7] [] [] := ((kp_pI _ _ _).mono (by decide) (by decide) (by decide)).trans (((kp_pI _ _ _).mono (by decide) (by decide) (by decide)).trans ((kp_pI _ _ _).mono (by decide) (by decide) (by decide)))
      have vM3 : wM (bd_pI (bd_pI (bd_pI s3 4 (nI (w 7 i))) 5 (nI (w 8 i))) 7 1) (wC w i) := ⟨uM.1, Or.inr ⟨rfl, rfl, rfl⟩, uM.2.2⟩
      obtain ⟨M4, g1, n1, K4⟩ := pm_finds vM3 vF (Or.inl rfl)
      have vM4 := wM_kp K4 (by decide) (by decide) vM3
      obtain ⟨M5, g2, n2, K5⟩ := pm_frees (M := M4) vF
      have vM5 := wM_kp K5 (by decide) (by decide) vM4
      obtain ⟨M6, g3, K6⟩ := pm_waysOf vM5 vF (lM_kp K5 (by decide) n1) n2
      have vM6 := wM_kp K6 (by decide) (by decide) vM5
      have o6 : oM M w M6 := ⟨kS.trans ((K.mono (by decide) (by decide) (by decide)).trans ((K4.mono (by decide) (by decide) (by decide)).trans ((K5.mono (by decide) (by decide) (by decide)).trans (K6.mono (by decide) (by decide) (by decide))))), 1, w 7 i, w 8 i, vF, vM6⟩
      rw [g1, pz_b2, g2, pz_b2, g3, pz_b2, Ways_free vF, nI_1]
      have e : op w (i + 1) = if 0 < Ways (wC w i) (g0 (wC w i)) then nI i else -9 := if_pos c
      by_cases d : 0 < Ways (wC w i) (g0 (wC w i))
      · rw [if_pos d] at e
        rw [if_neg (fun z => (ways_le0 vF _).mp z d)]
        exact ⟨_, rfl, e.symm, rfl, o6⟩
      · rw [if_neg d] at e
        rw [if_pos ((ways_le0 vF _).mpr d)]
        exact ⟨_, rfl, by rw [e]; exact c, rfl, o6⟩
    · right
      rw [if_neg c]
      refine ⟨_, rfl, ?_, q3⟩
      have := op_stay c (w 0 5 - i)
      rw [show i + (w 0 5 - i) = w 0 5 by omega] at this
      exact this.symm
  · obtain ⟨q1, q2, q3⟩ := hs
    obtain ⟨s1, s2, s3⟩ := s
    dsimp only at q1 q2 q3 ⊢
    subst q1 q2
    have i6 : bd_I s3 6 = nI (w 0 5) := by rw [q3.1.1 6 (by decide)]; exact hM.2.2.1
    unfold fb_X10_opened_16
    rw [i6, if_pos (Int32.le_refl _)]
    exact ⟨_, rfl, rfl, q3⟩
theorem r_opened : rel_opened RR := by
  intro S M h
  unfold f_X9_opened f_X10_opened
  obtain ⟨⟨p1, p2, p3, p4⟩, w, hf, hX, hM, hc, hm, hpre⟩ := id h
  obtain ⟨⟨x, S1⟩, e1, rx, kS, hp1, a, b, c, uF, uX, uC⟩ := px_opened hX hf hc hpre (bd_I S 3) (bd_I S 4)
  obtain ⟨⟨y, M1⟩, g1, ry, kM, a', b', c', vF, vM⟩ := pm_opened hM hf (bd_I M 4) (bd_I M 5)
  dsimp only at rx kS hp1 uX uC ry kM vM
  rw [pz_b1, pz_b1, e1, pz_some, pz_b1, pz_b1, g1, pz_some]
  dsimp only
  unfold f_X8_open
  rw [pz_si, pz_si, pz_b2, pz_si, pz_si, pz_si]
  have K : kp S1 (bd_pI (bd_pI S1 3 (bd_I S 3)) 4 (bd_I S 4)) [3, 4] [] [] := ((kp_pI _ _ _).mono (by decide) (by decide) (by decide)).trans ((kp_pI _ _ _).mono (by decide) (by decide) (by decide))
  have J : kp M1 (bd_pI (bd_pI (bd_pI M1 4 (bd_I M 4)) 5 (bd_I M 5)) 7 1) [4, 5, 7] [] [] := ((kp_pI _ _ _).mono (by decide) (by decide) (by decide)).trans (((kp_pI _ _ _).mono (by decide) (by decide) (by decide)).trans ((kp_pI _ _ _).mono (by decide) (by decide) (by decide)))
  obtain ⟨S4, f1, f2, f3, K2⟩ := px_forget (S := bd_pI (bd_pI S1 3 (bd_I S 3)) 4 (bd_I S 4)) (cX'_kp K (by decide) uC) uF.1.2.2.2.2
  have wX3 : wX (bd_pI (bd_pI S1 3 (bd_I S 3)) 4 (bd_I S 4)) w := ⟨uX.1, hX.2.1, uX.2.2⟩
  have wM3 : wM (bd_pI (bd_pI (bd_pI M1 4 (bd_I M 4)) 5 (bd_I M 5)) 7 1) w := ⟨vM.1, hM.2.1, vM.2.2⟩
  rw [f1, pz_b2]
  have KK : kp S S4 [3, 4, 15, 16] [4, 9, 10] [0, 1] := kS.trans ((K.mono (by decide) (by decide) (by decide)).trans (K2.mono (by decide) (by decide) (by decide)))
  have JJ : kp M (bd_pI (bd_pI (bd_pI M1 4 (bd_I M 4)) 5 (bd_I M 5)) 7 1) [4, 5, 7, 9] [15, 16, 20] [0, 1] := kM.trans (J.mono (by decide) (by decide) (by decide))
  refine ⟨x, S4, _, rfl, by rw [ry, rx], ⟨RpT_kp KK JJ (by decide) p1, RpR_kp KK JJ (by decide) p2, RpF_kp KK JJ (by decide) p3, RpP_kp KK JJ (by decide) p4⟩, w, hf, wX_kp K2 (by decide) (by decide) wX3, wM3, cX'_new f2 f3, Or.inl rfl, preC_kp K2 (by decide) (preC_kp K (by decide) hp1)⟩
