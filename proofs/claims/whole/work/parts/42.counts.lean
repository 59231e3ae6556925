/-! the class fills in its counts; the reference frees and asks -/
theorem spk_lt {w : bw} (hf : wF w) (t b : Nat) : spk w t b < 1024 := by
  have h := hf.1.2.2.2.2
  exact Nat.lt_of_lt_of_le (bsum_lt _ _) (Nat.le_trans (Nat.pow_le_pow_right (by omega) h) (by decide))
theorem spk_z {w : bw} (hf : wF w) (t b : Nat) : (nI (spk w t b) = (0 : Int32)) ↔ spk w t b = 0 := nI_eq (b := 0) (by have := spk_lt hf t b; omega) (by omega)
def gS (w : bw) (P : Nat → Bool) (t b : Nat) : Bool := P t || decide (spk w t b = 0)
def g0 (w : bw) (t b : Nat) : Bool := decide (spk w t b = 0)
theorem setC_row {S : bd_T} {w : bw} (hw : wX S w) (hf : wF w) (hl : lX S w) {t : Nat} (ht : t < w 0 0) {x1 : Int32} {P : Nat → Bool} (hx : nI t = x1 ↔ P t = true) : ∃ S', bd_lp bd_K (fun q => fb_X9_setCounts_18 x1 (nI t) q.1 q.2) ((0 : Int32), S) = some S' ∧ kp S S' [] [] [0] ∧ (∀ b, b < 300 → bd_J S' 0 (300 * t + b) = lN (wg (gS w P) t b)) ∧ ∀ j, j < 300 * t → bd_J S' 0 j = bd_J S 0 j := by
  have h66 := hf.1.1
  obtain ⟨r, e, h⟩ := pz_loop (F := fun q => fb_X9_setCounts_18 x1 (nI t) q.1 q.2) (fun i s => s.1 = nI i ∧ kp S s.2 [] [] [0] ∧ (∀ b, b < i → bd_J s.2 0 (300 * t + b) = lN (wg (gS w P) t b)) ∧ ∀ j, j < 300 * t → bd_J s.2 0 j = bd_J S 0 j) (fun r => kp S r [] [] [0] ∧ (∀ b, b < 300 → bd_J r 0 (300 * t + b) = lN (wg (gS w P) t b)) ∧ ∀ j, j < 300 * t → bd_J r 0 j = bd_J S 0 j) 300 (fun i s hi hs => by
      obtain ⟨q1, q2, q3, q4⟩ := hs
      obtain ⟨s1, s2⟩ := s
      dsimp only at q1 q2 q3 q4 ⊢
      subst q1
      left
      have hw2 := wX_kp q2 (by decide) (by decide) hw
      have hl2 := lX_kp q2 (by decide) hl
      have fin : ∀ v : Int64, v = lN (wg (gS w P) t i) → ∃ s', (some (.inl (nI i + 1, bd_pJ s2 0 (300 * t + i) v)) : Option ((Int32 × bd_T) ⊕ bd_T)) = some (.inl s') ∧ s'.1 = nI (i + 1) ∧ kp S s'.2 [] [] [0] ∧ (∀ b, b < i + 1 → bd_J s'.2 0 (300 * t + b) = lN (wg (gS w P) t b)) ∧ ∀ j, j < 300 * t → bd_J s'.2 0 j = bd_J S 0 j := fun v hv => by
        refine ⟨_, rfl, nI_1 i, q2.trans (kp_pJ _ _ _ _), fun b hb => ?_, fun j hj => ?_⟩
        · show vp_updL (bd_J s2 0) (300 * t + i) v (300 * t + b) = _
          rw [pz_upL]
          by_cases z : b = i
          · subst z; rw [if_pos rfl]; exact hv
          · rw [if_neg (by omega)]; exact q3 b (by omega)
        · show vp_updL (bd_J s2 0) (300 * t + i) v j = _
          rw [pz_upL, if_neg (by omega)]; exact q4 j hj
      unfold fb_X9_setCounts_18
      rw [if_neg (n300 hi)]
      by_cases c : P t = true
      · rw [if_pos (hx.mpr c), px_set (by omega) hi, pz_b2]
        exact fin _ (by unfold wg gS; rw [c]; rfl)
      · rw [if_neg (fun z => c (hx.mp z)), px_speaking hw2 hf hl2 ht hi, pz_b2]
        have c' : P t = false := by simpa using c
        by_cases d : spk w t i = 0
        · rw [if_pos ((spk_z hf t i).mpr d), px_set (by omega) hi, pz_b2]
          exact fin _ (by unfold wg gS; rw [c', d]; rfl)
        · rw [if_neg (fun z => d ((spk_z hf t i).mp z)), px_set (by omega) hi, pz_b2]
          exact fin _ (by unfold wg gS; rw [c', decide_eq_false d]; rfl)) (fun s hs => by
      obtain ⟨q1, q2, q3, q4⟩ := hs
      obtain ⟨s1, s2⟩ := s
      dsimp only at q1 q2 q3 q4 ⊢
      subst q1
      unfold fb_X9_setCounts_18
      rw [if_pos y300]
      exact ⟨_, rfl, q2, q3, q4⟩) (s0 := ((0 : Int32), S)) ⟨rfl, kp.rfl', fun b hb => by omega, fun j hj => rfl⟩ bd_K (by rw [pz_K]; omega)
  exact ⟨r, e, h⟩
theorem px_setCounts {S : bd_T} {w : bw} (hw : wX S w) (hf : wF w) (hl : lX S w) {x1 : Int32} {P : Nat → Bool} (hx : ∀ t, t < w 0 0 → (nI t = x1 ↔ P t = true)) : ∃ S', f_X9_setCounts x1 S = some ((), S') ∧ rwC S' w (wg (gS w P)) ∧ kp S S' [] [] [0] := by
  have h66 := hf.1.1
  unfold f_X9_setCounts
  obtain ⟨r, e, h⟩ := pz_loop (F := fun q => fb_X9_setCounts_2 x1 q.1 q.2) (fun i s => s.1 = nI i ∧ kp S s.2 [] [] [0] ∧ ∀ t b, t < i → b < 300 → bd_J s.2 0 (300 * t + b) = lN (wg (gS w P) t b)) (fun r => rwC r w (wg (gS w P)) ∧ kp S r [] [] [0]) (w 0 0) (fun i s hi hs => by
      obtain ⟨q1, q2, q3⟩ := hs
      obtain ⟨s1, s2⟩ := s
      dsimp only at q1 q2 q3 ⊢
      subst q1
      left
      have hw2 := wX_kp q2 (by decide) (by decide) hw
      have hl2 := lX_kp q2 (by decide) hl
      have e1 : bd_I s2 17 = nI (w 0 0) := hw2.2.2.2.1
      unfold fb_X9_setCounts_2
      obtain ⟨S', e', k', r', b'⟩ := setC_row hw2 hf hl2 hi (hx i hi)
      rw [e1, if_neg (nI_ge hi (by omega)), e', pz_some, nI_1]
      refine ⟨_, rfl, rfl, q2.trans k', fun t b ht hb => ?_⟩
      by_cases z : t = i
      · subst z; exact r' b hb
      · rw [b' _ (by omega)]; exact q3 t b (by omega) hb) (fun s hs => by
      obtain ⟨q1, q2, q3⟩ := hs
      obtain ⟨s1, s2⟩ := s
      dsimp only at q1 q2 q3 ⊢
      subst q1
      have hw2 := wX_kp q2 (by decide) (by decide) hw
      have e1 : bd_I s2 17 = nI (w 0 0) := hw2.2.2.2.1
      unfold fb_X9_setCounts_2
      rw [e1, if_pos (Int32.le_refl _)]
      exact ⟨_, rfl, q3, q2⟩) (s0 := ((0 : Int32), S)) ⟨rfl, kp.rfl', fun t b ht => by omega⟩ bd_K (by rw [pz_K]; omega)
  rw [e, pz_some]
  exact ⟨r, rfl, h.1, h.2⟩
theorem together1_C {S : bd_T} {f : Nat → Nat} {v : Nat} (hv : v < 6) (hp : preC S) (hr : ∀ b, b < 300 → bd_J S 0 (300 * v + b) = vC (f b)) : ∃ S', f_X2_together (nI v) S = some (vC (sg adC 0 f 300), S') ∧ preC S' ∧ kp S S' [] [] [1] := by
  obtain ⟨S1, e1, l1, p1, k1⟩ := load_C (t := v) (f := f) (by omega) hp hr
  unfold f_X2_together
  rw [e1, pz_b2, show (0 : Int32) = nI 0 from rfl, show (299 : Int32) = nI 299 from rfl, over_C l1 (by omega) (by omega), pz_b2, rngall_C]
  exact ⟨S1, rfl, p1, k1⟩
theorem together1_L {S : bd_T} {f : Nat → Option Nat} {v : Nat} (hv : v < 6) (hp : preL S) (hr : ∀ b, b < 300 → bd_J S 0 (300 * v + b) = vL (f b)) : ∃ S', f_X2_together_b1 (nI v) S = some (vL (sg adL none f 300), S') ∧ preL S' ∧ kp S S' [] [] [2] := by
  obtain ⟨S1, e1, l1, p1, k1⟩ := load_L (t := v) (f := f) (by omega) hp hr
  unfold f_X2_together_b1
  rw [e1, pz_b2, show (0 : Int32) = nI 0 from rfl, show (299 : Int32) = nI 299 from rfl, over_L l1 (by omega) (by omega), pz_b2, rngall_L]
  exact ⟨S1, rfl, p1, k1⟩
theorem px_waysWithout {S : bd_T} {w : bw} (hw : wX S w) (hf : wF w) (hl : lX S w) (hp : preC S) {x1 : Int32} {P : Nat → Bool} (hx : ∀ t, t < w 0 0 → (nI t = x1 ↔ P t = true)) : ∃ S', f_X9_waysWithout x1 S = some (lN (Ways w (gS w P)), S') ∧ preC S' ∧ kp S S' [16] [10] [0, 1] := by
  have h66 := hf.1.1
  have e1 : bd_I S 17 = nI (w 0 0) := hw.2.2.2.1
  unfold f_X9_waysWithout
  rw [e1]
  by_cases c : w 0 0 = 0
  · rw [c, if_pos (show nI 0 = (0 : Int32) from rfl)]
    refine ⟨S, ?_, hp, kp.rfl'⟩
    have : Ways w (gS w P) = 1 := by
      unfold Ways eN PhN Phi
      rw [c]; rfl
    rw [this]; rfl
  · rw [if_neg (show ¬ nI (w 0 0) = (0 : Int32) from fun z => c ((nI_eq (b := 0) (by omega) (by omega)).mp z))]
    obtain ⟨S1, e1, r1, k1⟩ := px_setCounts hw hf hl hx
    have hw1 := wX_kp k1 (by decide) (by decide) hw
    obtain ⟨S2, e2, r2, p2, k2⟩ := px_gather_C hw1 hf (g := 0) (by omega) (preC_kp k1 (by decide) hp) r1
    have hw2 := wX_kp k2 (by decide) (by decide) hw1
    have e2 : f_X2_gather 0 S1 = some ((), S2) := e2
    obtain ⟨S3, e3, p3, k3⟩ := together1_C (v := 0) (by omega) p2 (f := ZwC w (wg (gS w P)) 0) r2
    have e3 : f_X2_together 0 S2 = _ := e3
    rw [e1, pz_b2, e2, pz_b2, e3, pz_b2]
    refine ⟨S3, ?_, p3, (k1.mono (by decide) (by decide) (by decide)).trans ((k2.mono (by decide) (by decide) (by decide)).trans (k3.mono (by decide) (by decide) (by decide)))⟩
    exact pz_sl (ways_at (by omega) _).symm
theorem px_countWaysOf {S : bd_T} {w : bw} (hw : wX S w) (hf : wF w) (hl : lX S w) (hp : preC S) {t : Nat} (ht : t < w 0 0) : ∃ S', f_X9_countWaysOf (nI t) S = some ((), S') ∧ (∀ b, b < 300 → bd_J S' 0 (300 * t + b) = lN (ZwC w (wg (g0 w)) t b)) ∧ preC S' ∧ kp S S' [16] [10] [0, 1] := by
  have h66 := hf.1.1
  unfold f_X9_countWaysOf
  obtain ⟨S1, e1, r1, k1⟩ := px_setCounts hw hf hl (x1 := -1) (P := fun _ => false) (fun t ht => ⟨fun z => by
    have : ¬ nI t < (0 : Int32) := nI_nlt (b := 0) (Nat.zero_le t) (by omega)
    exact absurd (z ▸ (by decide : (-1 : Int32) < 0)) this, fun z => by cases z⟩)
  have hw1 := wX_kp k1 (by decide) (by decide) hw
  obtain ⟨S2, e2, r2, p2, k2⟩ := px_gather_C hw1 hf ht (preC_kp k1 (by decide) hp) r1
  rw [e1, pz_b2, e2, pz_b2]
  exact ⟨S2, rfl, r2, p2, (k1.mono (by decide) (by decide) (by decide)).trans (k2.mono (by decide) (by decide) (by decide))⟩
/-! the reference -/
theorem gd_g0 {w : bw} (hf : wF w) {fr tt : Nat → Nat} (t b : Nat) : gd w fr tt 0 t b = (decide (fr t ≤ b ∧ b ≤ tt t) && g0 w t b) := by
  have : (decide (∀ k, k < w 0 6 → w 9 k = t → w 13 k = 0 → (0 : Nat).testBit k = false → lets w k b = true)) = g0 w t b := by
    unfold g0
    rw [decide_eq_decide]
    unfold spk
    rw [bsum_zero]
    constructor
    · intro h k hk
      by_cases c1 : w 9 k = t
      · by_cases c2 : w 13 k = 1
        · simp [c2]
        · have c0 := (hf.2.2.2.2 k hk).2.2.2.2
          rw [h k hk c1 (by omega) (Nat.zero_testBit k)]; simp
      · simp [c1]
    · intro h k hk c1 c2 _
      have := h k hk
      simpa [c1, c2] using this
  unfold gd
  rw [this]
theorem pm_frees {M : bd_T} {w : bw} (hf : wF w) : ∃ M', f_X10_frees M = some ((), M') ∧ frM M' w (fun _ => 0) (fun _ => 299) 0 ∧ kp M M' [9] [15, 16] [] := by
  have h66 := hf.1.1
  unfold f_X10_frees
  rw [pz_si]
  obtain ⟨r, e, h⟩ := pz_loop (F := fun q => fb_X10_frees_7 q.1 q.2) (fun i s => s.1 = nI i ∧ kp M s.2 [9] [15, 16] [] ∧ bd_I s.2 9 = 0 ∧ ∀ j, j < i → bd_A s.2 15 j = nI 0 ∧ bd_A s.2 16 j = nI 299) (fun r => kp M r [9] [15, 16] [] ∧ bd_I r 9 = 0 ∧ ∀ j, j < 6 → bd_A r 15 j = nI 0 ∧ bd_A r 16 j = nI 299) 6 (fun i s hi hs => by
      obtain ⟨q1, q2, q3, q4⟩ := hs
      obtain ⟨s1, s2⟩ := s
      dsimp only at q1 q2 q3 q4 ⊢
      subst q1
      left
      unfold fb_X10_frees_7
      rw [if_neg (show ¬ (6 : Int32) ≤ nI i from nI_ge (b := 6) hi (by omega)), pz_sa (show i < 6 from hi) (by decide), pz_some, pz_sa (show i < 6 from hi) (by decide), pz_some, nI_1]
      refine ⟨_, rfl, rfl, q2.trans (((kp_pA _ _ _ _).mono (by decide) (by decide) (by decide)).trans ((kp_pA _ _ _ _).mono (by decide) (by decide) (by decide))), q3, fun j hj => ⟨?_, ?_⟩⟩
      · show upd (bd_A s2 15) i _ j = _
        rw [pz_up]
        by_cases z : j = i
        · rw [if_pos z]; rfl
        · rw [if_neg z]; exact (q4 j (by omega)).1
      · show upd (bd_A s2 16) i _ j = _
        rw [pz_up]
        by_cases z : j = i
        · rw [if_pos z]; rfl
        · rw [if_neg z]; exact (q4 j (by omega)).2) (fun s hs => by
      obtain ⟨q1, q2, q3, q4⟩ := hs
      obtain ⟨s1, s2⟩ := s
      dsimp only at q1 q2 q3 q4 ⊢
      subst q1
      unfold fb_X10_frees_7
      rw [if_pos (show (6 : Int32) ≤ nI 6 from Int32.le_refl _)]
      exact ⟨_, rfl, q2, q3, q4⟩) (s0 := ((0 : Int32), bd_pI M 9 0)) ⟨rfl, (kp_pI _ _ _).mono (by decide) (by decide) (by decide), rfl, fun j hj => by omega⟩ bd_K (by rw [pz_K]; omega)
  rw [e, pz_some]
  exact ⟨r, rfl, ⟨fun t ht => ⟨(h.2.2 t (by omega)).1, (h.2.2 t (by omega)).2, show 0 ≤ 300 by omega, show 299 ≤ 300 by omega⟩, h.2.1, by omega⟩, h.1⟩
