/-! hangs -/
def hV (w : bw) (t : Nat) : Nat := Ways w (gS w (fun j => decide (j = t)))
def hg (w : bw) : Nat → Nat × Int32
  | 0 => (Ways w (g0 w), -9)
  | i + 1 => if (hg w i).1 < hV w i then (hV w i, nI i) else hg w i
theorem hg_le {w : bw} (hf : wF w) (i : Nat) : (hg w i).1 ≤ 729000000000000 := by
  induction i with
  | zero => exact Ways_le hf _
  | succ i ih =>
    unfold hg
    split
    · exact Ways_le hf _
    · exact ih
def hlo (w : bw) (t : Nat) : Nat := bsum (fun k => decide (w 9 k = t)) (w 0 6)
theorem gd_hang {w : bw} (hf : wF w) {t : Nat} (s b : Nat) (hb : b < 300) : gd w (fun _ => 0) (fun _ => 299) (hlo w t) s b = gS w (fun j => decide (j = t)) s b := by
  have e0 := gd_g0 hf (fr := fun _ => 0) (tt := fun _ => 299) s b
  unfold gd at e0 ⊢
  unfold gS
  rw [decide_eq_true (show (0 : Nat) ≤ b ∧ b ≤ 299 by omega), Bool.true_and] at e0 ⊢
  rw [Bool.true_and] at e0
  have hb2 : ∀ k, k < w 0 6 → (hlo w t).testBit k = decide (w 9 k = t) := fun k hk => by
    unfold hlo; rw [bsum_bit]; simp [hk]
  show _ = (decide (s = t) || decide (spk w s b = 0))
  by_cases z : s = t
  · rw [decide_eq_true z, Bool.true_or]
    refine decide_eq_true (fun k hk h1 h2 h3 => ?_)
    rw [hb2 k hk, h1, decide_eq_true z] at h3
    cases h3
  · rw [decide_eq_false z, Bool.false_or]
    show _ = g0 w s b
    rw [← e0, decide_eq_decide]
    refine forall_congr' (fun k => forall_congr' (fun hk => forall_congr' (fun h1 => forall_congr' (fun h2 => ?_))))
    rw [hb2 k hk, h1, decide_eq_false z, Nat.zero_testBit]
theorem px_hangs {S : bd_T} {w : bw} (hw : wX S w) (hf : wF w) (hl : lX S w) (hp : preC S) : ∃ r, bd_lp bd_K (fun q => fb_X9_hangs_23 q.1 q.2.1 q.2.2.1 q.2.2.2) (lN (Ways w (g0 w)), (-9 : Int32), (0 : Int32), S) = some r ∧ r.1 = (hg w (w 0 0)).2 ∧ preC r.2 ∧ kp S r.2 [16] [10] [0, 1] := by
  have h66 := hf.1.1
  refine pz_loop (F := fun q => fb_X9_hangs_23 q.1 q.2.1 q.2.2.1 q.2.2.2) (fun i s => ∃ S', s = (lN (hg w i).1, (hg w i).2, nI i, S') ∧ preC S' ∧ kp S S' [16] [10] [0, 1]) (fun r => r.1 = (hg w (w 0 0)).2 ∧ preC r.2 ∧ kp S r.2 [16] [10] [0, 1]) (w 0 0) (fun i s hi hs => ?_) (fun s hs => ?_) ⟨S, rfl, hp, kp.rfl'⟩ bd_K (by rw [pz_K]; omega)
  · obtain ⟨S', rfl, q1, q2⟩ := hs
    dsimp only
    have hw2 := wX_kp q2 (by decide) (by decide) hw
    obtain ⟨S2, e2, p2, k2⟩ := px_waysWithout hw2 hf (lX_kp q2 (by decide) hl) q1 (x1 := nI i) (P := fun j => decide (j = i)) (fun t ht => by
      rw [decide_eq_true_eq]; exact nI_eq (by omega) (by omega))
    have hv := Ways_le hf (gS w (fun j => decide (j = i)))
    have hm := hg_le hf i
    left
    unfold fb_X9_hangs_23
    rw [show bd_I S' 17 = nI (w 0 0) from hw2.2.2.2.1, if_neg (nI_ge hi (by omega)), e2, pz_b2, nI_1 i]
    have e : hg w (i + 1) = if (hg w i).1 < hV w i then (hV w i, nI i) else hg w i := rfl
    by_cases c : (hg w i).1 < hV w i
    · rw [if_pos c] at e
      rw [if_neg (by rw [pk_lLE (by omega) (by omega)]; exact Nat.not_le.mpr c)]
      exact ⟨_, rfl, S2, by rw [e]; rfl, p2, q2.trans k2⟩
    · rw [if_neg c] at e
      rw [if_pos (by rw [pk_lLE (by omega) (by omega)]; exact Nat.not_lt.mp c)]
      exact ⟨_, rfl, S2, by rw [e], p2, q2.trans k2⟩
  · obtain ⟨S', rfl, q1, q2⟩ := hs
    dsimp only
    have hw2 := wX_kp q2 (by decide) (by decide) hw
    unfold fb_X9_hangs_23
    rw [show bd_I S' 17 = nI (w 0 0) from hw2.2.2.2.1, if_pos (Int32.le_refl _)]
    exact ⟨_, rfl, rfl, q1, q2⟩
theorem pm_hlo {M : bd_T} {w : bw} (hw : wM M w) (hf : wF w) (x1 : Int64) (x3 : Int32) {t : Nat} (ht : t < w 0 0) (h9 : bd_I M 9 = 0) : ∃ r, bd_lp bd_K (fun q => fb_X10_hangs_36 x1 x3 (nI t) q.1 q.2) ((0 : Int32), M) = some r ∧ bd_I r 9 = nI (hlo w t) ∧ kp M r [9] [] [] := by
  have h66 := hf.1.1
  have h10 := hf.1.2.2.2.2
  refine pz_loop (F := fun q => fb_X10_hangs_36 x1 x3 (nI t) q.1 q.2) (fun i s => s.1 = nI i ∧ kp M s.2 [9] [] [] ∧ bd_I s.2 9 = nI (bsum (fun k => decide (w 9 k = t)) i)) (fun r => bd_I r 9 = nI (hlo w t) ∧ kp M r [9] [] []) (w 0 6) (fun i s hi hs => ?_) (fun s hs => ?_) ⟨rfl, kp.rfl', h9⟩ bd_K (by rw [pz_K]; omega)
  · obtain ⟨q1, q2, q3⟩ := hs
    obtain ⟨s1, s2⟩ := s
    dsimp only at q1 q2 q3 ⊢
    subst q1
    have hw2 := wM_kp q2 (by decide) (by decide) hw
    left
    have e7 : bd_A s2 7 i = nI (w 9 i) := (hw2.2.2.2.2.2.2.2 i hi).1
    have h9k := (hf.2.2.2.2 i hi).1
    unfold fb_X10_hangs_36
    rw [show bd_I s2 8 = nI (w 0 6) from hw2.2.2.2.2.1, if_neg (nI_ge hi (by omega)), pz_ga (show i < 10 by omega) (by decide), pz_some, e7, q3, nI_1 i]
    have e : bsum (fun k => decide (w 9 k = t)) (i + 1) = bsum (fun k => decide (w 9 k = t)) i + if decide (w 9 i = t) = true then 2 ^ i else 0 := rfl
    by_cases c : w 9 i = t
    · rw [if_pos (by rw [c]), nI_shl (by omega), nI_or_pow (bsum_lt _ _), pz_si]
      rw [if_pos (decide_eq_true c)] at e
      exact ⟨_, rfl, rfl, q2.trans (kp_pI _ _ _), by rw [e]; rfl⟩
    · rw [if_neg (fun z => c ((nI_eq (by omega) (by omega)).mp z)), Int32.or_zero, pz_si]
      rw [if_neg (by simpa using c), Nat.add_zero] at e
      exact ⟨_, rfl, rfl, q2.trans (kp_pI _ _ _), by rw [e]; rfl⟩
  · obtain ⟨q1, q2, q3⟩ := hs
    obtain ⟨s1, s2⟩ := s
    dsimp only at q1 q2 q3 ⊢
    subst q1
    have hw2 := wM_kp q2 (by decide) (by decide) hw
    unfold fb_X10_hangs_36
    rw [show bd_I s2 8 = nI (w 0 6) from hw2.2.2.2.2.1, if_pos (Int32.le_refl _)]
    exact ⟨_, rfl, q3, q2⟩
theorem r_hangs : rel_hangs RR := by
  intro S M h
  obtain ⟨hp, w, hw⟩ := h
  obtain ⟨hf, hX, hM, hc, hm, hpre⟩ := id hw
  have h66 := hf.1.1
  unfold f_X9_hangs f_X10_hangs
  obtain ⟨S1, e1, l1, k1⟩ := px_learn hX hf hc
  have hX1 := wX_kp k1 (by decide) (by decide) hX
  obtain ⟨S2, e2, p2, k2⟩ := px_waysWithout hX1 hf l1 (preC_kp k1 (by decide) hpre) (x1 := -1) (P := fun _ => false) (fun t ht => ⟨fun z => by
    have : ¬ nI t < (0 : Int32) := nI_nlt (b := 0) (Nat.zero_le t) (by omega)
    exact absurd (z ▸ (by decide : (-1 : Int32) < 0)) this, fun z => by cases z⟩)
  have hX2 := wX_kp k2 (by decide) (by decide) hX1
  obtain ⟨⟨r, S3⟩, e3, er, p3, k3⟩ := px_hangs hX2 hf (lX_kp k2 (by decide) l1) p2
  dsimp only at er p3 k3
  obtain ⟨M1, g1, m1, j1⟩ := pm_finds hM hf hm
  have hM1 := wM_kp j1 (by decide) (by decide) hM
  obtain ⟨M2, g2, m2, j2⟩ := pm_frees (M := M1) hf
  have hM2 := wM_kp j2 (by decide) (by decide) hM1
  have n2 := lM_kp j2 (by decide) m1
  obtain ⟨M3, g3, j3⟩ := pm_waysOf hM2 hf n2 m2
  have hM3 := wM_kp j3 (by decide) (by decide) hM2
  have n3 := lM_kp j3 (by decide) n2
  have fr3 : ∀ t, t < w 0 0 → bd_A M3 15 t = nI 0 ∧ bd_A M3 16 t = nI 299 := fun t ht => by
    rw [j3.2.1 15 (by decide), j3.2.1 16 (by decide)]
    exact ⟨(m2.1 t ht).1, (m2.1 t ht).2.1⟩
  obtain ⟨⟨y, M4⟩, g4, gr, j4⟩ : ∃ r, bd_lp bd_K (fun q => fb_X10_hangs_19 q.1 q.2.1 q.2.2.1 q.2.2.2) (lN (Ways w (g0 w)), (-9 : Int32), (0 : Int32), M3) = some r ∧ r.1 = (hg w (w 0 0)).2 ∧ kp M3 r.2 [9] [] [0, 1] := by
    refine pz_loop (F := fun q => fb_X10_hangs_19 q.1 q.2.1 q.2.2.1 q.2.2.2) (fun i s => ∃ M', s = (lN (hg w i).1, (hg w i).2, nI i, M') ∧ kp M3 M' [9] [] [0, 1]) (fun r => r.1 = (hg w (w 0 0)).2 ∧ kp M3 r.2 [9] [] [0, 1]) (w 0 0) (fun i s hi hs => ?_) (fun s hs => ?_) ⟨M3, rfl, kp.rfl'⟩ bd_K (by rw [pz_K]; omega)
    · obtain ⟨M', rfl, q2⟩ := hs
      dsimp only
      have hw2 := wM_kp q2 (by decide) (by decide) hM3
      left
      unfold fb_X10_hangs_19
      have k0 : kp M3 (bd_pI M' 9 0) [9] [] [0, 1] := q2.trans ((kp_pI _ _ _).mono (by decide) (by decide) (by decide))
      obtain ⟨M5, e5, h5, k5⟩ := pm_hlo (M := bd_pI M' 9 0) (wM_kp k0 (by decide) (by decide) hM3) hf (lN (hg w i).1) (hg w i).2 hi rfl
      have k6 := k0.trans (k5.mono (by decide) (by decide) (by decide))
      have hlt : hlo w i < 1024 := Nat.lt_of_lt_of_le (bsum_lt _ _) (Nat.le_trans (Nat.pow_le_pow_right (by omega) hf.1.2.2.2.2) (by decide))
      obtain ⟨M6, e6, k7⟩ := pm_waysOf (wM_kp k6 (by decide) (by decide) hM3) hf (lM_kp k6 (by decide) n3) (fr := fun _ => 0) (tt := fun _ => 299) (lo := hlo w i) ⟨fun t ht => by
        rw [k6.2.1 15 (by decide), k6.2.1 16 (by decide)]
        exact ⟨(fr3 t ht).1, (fr3 t ht).2, by show 0 ≤ 300; omega, by show 299 ≤ 300; omega⟩, h5, hlt⟩
      have eV : Ways w (gd w (fun _ => 0) (fun _ => 299) (hlo w i)) = hV w i := Ways_congr (fun s b _ hb => gd_hang hf s b hb)
      have hv : hV w i ≤ 729000000000000 := Ways_le hf _
      have hmm := hg_le hf i
      rw [show bd_I M' 2 = nI (w 0 0) from hw2.2.2.2.1, if_neg (nI_ge hi (by omega)), pz_si, e5, pz_some]
      have e : hg w (i + 1) = if (hg w i).1 < hV w i then (hV w i, nI i) else hg w i := rfl
      dsimp only
      rw [e6, pz_b2, eV, nI_1 i]
      by_cases c : (hg w i).1 < hV w i
      · rw [if_pos c] at e
        rw [if_pos (by rw [pk_lLT (by omega) (by omega)]; exact c)]
        exact ⟨_, rfl, M6, by rw [e], k6.trans (k7.mono (by decide) (by decide) (by decide))⟩
      · rw [if_neg c] at e
        rw [if_neg (by rw [pk_lLT (by omega) (by omega)]; exact c)]
        exact ⟨_, rfl, M6, by rw [e], k6.trans (k7.mono (by decide) (by decide) (by decide))⟩
    · obtain ⟨M', rfl, q2⟩ := hs
      dsimp only
      have hw2 := wM_kp q2 (by decide) (by decide) hM3
      unfold fb_X10_hangs_19
      rw [show bd_I M' 2 = nI (w 0 0) from hw2.2.2.2.1, if_pos (Int32.le_refl _)]
      exact ⟨_, rfl, rfl, q2⟩
  dsimp only at gr j4
  rw [e1, pz_b2, e2, pz_b2, Ways_none, e3, pz_some, g1, pz_b2, g2, pz_b2, g3, pz_b2, Ways_free hf, g4, pz_some]
  refine ⟨r, S3, M4, rfl, ?_, RR_calc hp hw ((k1.mono (by decide) (by decide) (by decide)).trans ((k2.mono (by decide) (by decide) (by decide)).trans (k3.mono (by decide) (by decide) (by decide)))) ((j1.mono (by decide) (by decide) (by decide)).trans ((j2.mono (by decide) (by decide) (by decide)).trans ((j3.mono (by decide) (by decide) (by decide)).trans (j4.mono (by decide) (by decide) (by decide))))) (cX'_kp k3 (by decide) (cX'_kp k2 (by decide) (cX'_lX l1))) (Or.inr (lM_kp j4 (by decide) n3)) p3⟩
  dsimp only
  rw [er, gr]
