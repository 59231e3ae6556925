/-! hangs -/
def hV (w : bw) (t : Nat) : Nat := Ways w (gS w (fun j => decide (j = t)))
def hg (w : bw) : Nat → Nat × Int32
  | 0 => (Ways w (g0 w), -9)
  | i + 1 => if (hg w i).1 < hV w i then (hV w i, nI i) else hg w i
theorem hg_le {w : bw} (hf : wF w) (i : Nat) : (hg w i).1 ≤ 729000000000000 := by
  induction i with
  | zero => exact Ways_le hf _
  | succ i ih =>
    unfold hg
    split
    · exact Ways_le hf _
    · exact ih
def hlo (w : bw) (t : Nat) : Nat := bsum (fun k => decide (w 9 k = t)) (w 0 6)
theorem gd_hang {w : bw} (hf : wF w) {t : Nat} (s b : Nat) (hb : b < 300) : gd w (fun _ => 0) (fun _ => 299) (hlo w t) s b = gS w (fun j => decide (j = t)) s b := by
  have e0 := gd_g0 hf (fr := fun _ => 0) (tt := fun _ => 299) s b
  unfold gd at e0 ⊢
  unfold gS
  rw [decide_eq_true (show (0 : Nat) ≤ b ∧ b ≤ 299 by omega), Bool.true_and] at e0 ⊢
  rw [Bool.true_and] at e0
  have hb2 : ∀ k, k < w 0 6 → (hlo w t).testBit k = decide (w 9 k = t) := fun k hk => by
    unfold hlo; rw [bsum_bit]; simp [hk]
  by_cases z : s = t
  · rw [decide_eq_true z, Bool.true_or]
    refine decide_eq_true (fun k hk h1 h2 h3 => ?_)
    rw [hb2 k hk, h1, decide_eq_true z] at h3
    cases h3
  · rw [decide_eq_false z, Bool.false_or]
    show _ = g0 w s b
    rw [← e0, decide_eq_decide]
    refine forall_congr' (fun k => forall_congr' (fun hk => forall_congr' (fun h1 => forall_congr' (fun h2 => ?_))))
    rw [hb2 k hk, h1, decide_eq_false z, Nat.zero_testBit]
theorem px_hangs {S : bd_T} {w : bw} (hw : wX S w) (hf : wF w) (hl : lX S w) (hp : preC S) : ∃ r, bd_lp bd_K (fun q => fb_X9_hangs_23 q.1 q.2.1 q.2.2.1 q.2.2.2) (lN (Ways w (g0 w)), (-9 : Int32), (0 : Int32), S) = some r ∧ r.1 = (hg w (w 0 0)).2 ∧ preC r.2 ∧ kp S r.2 [16] [10] [0, 1] := by
  have h66 := hf.1.1
  refine pz_loop (F := fun q => fb_X9_hangs_23 q.1 q.2.1 q.2.2.1 q.2.2.2) (fun i s => ∃ S', s = (lN (hg w i).1, (hg w i).2, nI i, S') ∧ preC S' ∧ kp S S' [16] [10] [0, 1]) (fun r => r.1 = (hg w (w 0 0)).2 ∧ preC r.2 ∧ kp S r.2 [16] [10] [0, 1]) (w 0 0) (fun i s hi hs => ?_) (fun s hs => ?_) ⟨S, rfl, hp, kp.rfl'⟩ bd_K (by rw [pz_K]; omega)
  · obtain ⟨S', rfl, q1, q2⟩ := hs
    dsimp only
    have hw2 := wX_kp q2 (by decide) (by decide) hw
    obtain ⟨S2, e2, p2, k2⟩ := px_waysWithout hw2 hf (lX_kp q2 (by decide) hl) q1 (x1 := nI i) (P := fun j => decide (j = i)) (fun t ht => by
      rw [decide_eq_true_eq]; exact nI_eq (by omega) (by omega))
    have hv := Ways_le hf (gS w (fun j => decide (j = i)))
    have hm := hg_le hf i
    left
    unfold fb_X9_hangs_23
    rw [show bd_I S' 17 = nI (w 0 0) from hw2.2.2.2.1, if_neg (nI_ge hi (by omega)), e2, pz_b2, nI_1 i]
    have e : hg w (i + 1) = if (hg w i).1 < hV w i then (hV w i, nI i) else hg w i := rfl
    by_cases c : (hg w i).1 < hV w i
    · rw [if_pos c] at e
      rw [if_neg (by rw [pk_lLE (by omega) (by omega)]; exact Nat.not_le.mpr c)]
      exact ⟨_, rfl, S2, by rw [e]; rfl, p2, q2.trans k2⟩
    · rw [if_neg c] at e
      rw [if_pos (by rw [pk_lLE (by omega) (by omega)]; exact Nat.not_lt.mp c)]
      exact ⟨_, rfl, S2, by rw [e], p2, q2.trans k2⟩
  · obtain ⟨S', rfl, q1, q2⟩ := hs
    dsimp only
    have hw2 := wX_kp q2 (by decide) (by decide) hw
    unfold fb_X9_hangs_23
    rw [show bd_I S' 17 = nI (w 0 0) from hw2.2.2.2.1, if_pos (Int32.le_refl _)]
    exact ⟨_, rfl, rfl, q1, q2⟩
theorem pm_hlo {M : bd_T} {w : bw} (hw : wM M w) (hf : wF w) (x1 : Int64) (x3 : Int32) {t : Nat} (ht : t < w 0 0) (h9 : bd_I M 9 = 0) : ∃ r, bd_lp bd_K (fun q => fb_X10_hangs_36 x1 x3 (nI t) q.1 q.2) ((0 : Int32), M) = some r ∧ bd_I r 9 = nI (hlo w t) ∧ kp M r [9] [] [] := by
  have h66 := hf.1.1
  have h10 := hf.1.2.2.2.2
  refine pz_loop (F := fun q => fb_X10_hangs_36 x1 x3 (nI t) q.1 q.2) (fun i s => s.1 = nI i ∧ kp M s.2 [9] [] [] ∧ bd_I s.2 9 = nI (bsum (fun k => decide (w 9 k = t)) i)) (fun r => bd_I r 9 = nI (hlo w t) ∧ kp M r [9] [] []) (w 0 6) (fun i s hi hs => ?_) (fun s hs => ?_) ⟨rfl, kp.rfl', h9⟩ bd_K (by rw [pz_K]; omega)
  · obtain ⟨q1, q2, q3⟩ := hs
    obtain ⟨s1, s2⟩ := s
    dsimp only at q1 q2 q3 ⊢
    subst q1
    have hw2 := wM_kp q2 (by decide) (by decide) hw
    left
    have e7 : bd_A s2 7 i = nI (w 9 i) := (hw2.2.2.2.2.2.2.2 i hi).1
    have h9k := (hf.2.2.2.2 i hi).1
    unfold fb_X10_hangs_36
    rw [show bd_I s2 8 = nI (w 0 6) from hw2.2.2.2.2.1, if_neg (nI_ge hi (by omega)), pz_ga (show i < 10 by omega) (by decide), pz_some, e7, q3, nI_1 i]
    have e : bsum (fun k => decide (w 9 k = t)) (i + 1) = bsum (fun k => decide (w 9 k = t)) i + if decide (w 9 i = t) = true then 2 ^ i else 0 := rfl
    by_cases c : w 9 i = t
    · rw [if_pos (by rw [c]), nI_shl (by omega), nI_or_pow (bsum_lt _ _), pz_si]
      rw [if_pos (decide_eq_true c)] at e
      exact ⟨_, rfl, rfl, q2.trans (kp_pI _ _ _), by rw [e]; rfl⟩
    · rw [if_neg (fun z => c ((nI_eq (by omega) (by omega)).mp z)), Int32.or_zero, pz_si]
      rw [if_neg (by simpa using c), Nat.add_zero] at e
      exact ⟨_, rfl, rfl, q2.trans (kp_pI _ _ _), by rw [e]; rfl⟩
  · obtain ⟨q1, q2, q3⟩ := hs
    obtain ⟨s1, s2⟩ := s
    dsimp only at q1 q2 q3 ⊢
    subst q1
    have hw2 := wM_kp q2 (by decide) (by decide) hw
    unfold fb_X10_hangs_36
    rw [show bd_I s2 8 = nI (w 0 6) from hw2.2.2.2.2.1, if_pos (Int32.le_refl _)]
    exact ⟨_, rfl, q3, q2⟩
