/-! doubts -/
theorem nI_and {a b : Nat} : nI a &&& nI b = nI (a &&& b) := by
  apply Int32.toBitVec_inj.mp
  rw [Int32.toBitVec_and, nI_bv, nI_bv, nI_bv]
  exact (BitVec.ofNat_and).symm
def pc (d : Nat) : Nat := bcnt (fun k => d.testBit k) 10
theorem pc_le (d : Nat) : pc d ≤ 10 := bcnt_le _ _
theorem bit_at {d i : Nat} (hd : d < 1024) (hi : i < 31) : (nI d >>> (nI i &&& 31)) &&& (1 : Int32) = nI (if d.testBit i = true then 1 else 0) := by
  have key : ∀ i, i < 31 → ((nI i &&& 31).toBitVec.smod 32).toNat = i := by decide +kernel
  rw [pk_shrN (by omega) _ i (key i hi), pk_andN (Nat.lt_of_le_of_lt (Nat.div_le_self _ _) (by omega)) 1 (by decide)]
  refine congrArg nI ?_
  rw [Nat.testBit_eq_decide_div_mod_eq]
  by_cases c : d / 2 ^ i % 2 = 1
  · rw [decide_eq_true c, if_pos rfl]; exact c
  · rw [decide_eq_false c, if_neg (by decide)]; omega
theorem pm_bits {d : Nat} (S : bd_T) (hd : d < 1024) : f_X10_bits (nI d) S = some (nI (pc d), S) := by
  have e := pz_for (F := fun q : Int32 × Int32 × bd_T => fb_X10_bits_4 (nI d) q.1 q.2.1 q.2.2) (fun i => (nI (bcnt (fun k => d.testBit k) i), nI i, S)) 31 (nI (bcnt (fun k => d.testBit k) 31), S) (fun i hi => by
    dsimp only
    unfold fb_X10_bits_4
    rw [if_neg (show ¬ (31 : Int32) ≤ nI i from nI_ge (b := 31) hi (by omega)), pz_b1, bit_at hd hi, nI_add, nI_1]
    rfl) (by
    dsimp only
    unfold fb_X10_bits_4
    rw [if_pos (show (31 : Int32) ≤ nI 31 from Int32.le_refl _)]) bd_K (by rw [pz_K]; omega)
  unfold f_X10_bits
  have e : bd_lp bd_K (fun q => fb_X10_bits_4 (nI d) q.1 q.2.1 q.2.2) ((0 : Int32), (0 : Int32), S) = _ := e
  rw [e, pz_some]
  dsimp only
  unfold pc
  rw [bcnt_ext (P := fun k => d.testBit k) (n := 10) (m := 31) (by omega) (fun k hk => Nat.testBit_lt_two_pow (Nat.lt_of_lt_of_le (show d < 2 ^ 10 from hd) (Nat.pow_le_pow_right (by omega) hk)))]
def cst (w : bw) (t b : Nat) : Nat := bcnt (Qk w t b) (w 0 6) * 1024 + spk w t b
theorem px_costOf {w : bw} (hf : wF w) (t b : Nat) (S : bd_T) : f_X9_costOf (nI (spk w t b)) S = some (lN (cst w t b), S) := by
  have h10 := hf.1.2.2.2.2
  have e : f_J6_bitCount_0f7a4 (nI (spk w t b)) S = some (nI (bcnt (Qk w t b) (w 0 6)), S) := px_bitCount (P := Qk w t b) h10
  have l1 := bcnt_le (Qk w t b) (w 0 6)
  have l2 := spk_lt hf t b
  unfold f_X9_costOf
  rw [e, pz_b2, nI_l (by omega), nI_l (by omega), show lN (bcnt (Qk w t b) (w 0 6)) * (1024 : Int64) = lN (bcnt (Qk w t b) (w 0 6) * 1024) from lN_mul _ 1024, lN_add]
  rfl
def wD (w : bw) : Nat → Nat → Option Nat := wk (fun _ _ => true) (cst w)
theorem cst_lt {w : bw} (hf : wF w) (t b : Nat) : cst w t b < 20000 := by
  have h10 := hf.1.2.2.2.2
  have l1 := bcnt_le (Qk w t b) (w 0 6)
  have l2 := spk_lt hf t b
  unfold cst; omega
theorem setD_row {S : bd_T} {w : bw} (hw : wX S w) (hf : wF w) (hl : lX S w) {t : Nat} (ht : t < w 0 0) : ∃ S', bd_lp bd_K (fun q => fb_X9_doubts_44 (nI t) q.1 q.2) ((0 : Int32), S) = some S' ∧ kp S S' [] [] [0] ∧ (∀ b, b < 300 → bd_J S' 0 (300 * t + b) = vL (wD w t b)) ∧ ∀ j, j < 300 * t → bd_J S' 0 j = bd_J S 0 j := by
  have h66 := hf.1.1
  refine pz_loop (F := fun q => fb_X9_doubts_44 (nI t) q.1 q.2) (fun i s => s.1 = nI i ∧ kp S s.2 [] [] [0] ∧ (∀ b, b < i → bd_J s.2 0 (300 * t + b) = vL (wD w t b)) ∧ ∀ j, j < 300 * t → bd_J s.2 0 j = bd_J S 0 j) (fun r => kp S r [] [] [0] ∧ (∀ b, b < 300 → bd_J r 0 (300 * t + b) = vL (wD w t b)) ∧ ∀ j, j < 300 * t → bd_J r 0 j = bd_J S 0 j) 300 (fun i s hi hs => ?_) (fun s hs => ?_) (s0 := ((0 : Int32), S)) ⟨rfl, kp.rfl', fun b hb => by omega, fun j hj => rfl⟩ bd_K (by rw [pz_K]; omega)
  · obtain ⟨q1, q2, q3, q4⟩ := hs
    obtain ⟨s1, s2⟩ := s
    dsimp only at q1 q2 q3 q4 ⊢
    subst q1
    left
    have hw2 := wX_kp q2 (by decide) (by decide) hw
    have hl2 := lX_kp q2 (by decide) hl
    have hv : lN (cst w t i) = vL (wD w t i) := by
      have := cst_lt hf t i
      have hI : IMP = 1099511627776 := rfl
      show _ = vL (some (cst w t i))
      rw [vL_s (by omega)]
    unfold fb_X9_doubts_44
    rw [if_neg (n300 hi), px_speaking hw2 hf hl2 ht hi, pz_b2, px_costOf hf, pz_b2, px_set (by omega) hi, pz_b2]
    refine ⟨_, rfl, nI_1 i, q2.trans (kp_pJ _ _ _ _), fun b hb => ?_, fun j hj => ?_⟩
    · show vp_updL (bd_J s2 0) (300 * t + i) _ (300 * t + b) = _
      rw [pz_upL]
      by_cases z : b = i
      · subst z; rw [if_pos rfl]; exact hv
      · rw [if_neg (by omega)]; exact q3 b (by omega)
    · show vp_updL (bd_J s2 0) (300 * t + i) _ j = _
      rw [pz_upL, if_neg (by omega)]; exact q4 j hj
  · obtain ⟨q1, q2, q3, q4⟩ := hs
    obtain ⟨s1, s2⟩ := s
    dsimp only at q1 q2 q3 q4 ⊢
    subst q1
    unfold fb_X9_doubts_44
    rw [if_pos y300]
    exact ⟨_, rfl, q2, q3, q4⟩
theorem px_setD {S : bd_T} {w : bw} (hw : wX S w) (hf : wF w) (hl : lX S w) : ∃ S', bd_lp bd_K (fun q => fb_X9_doubts_28 q.1 q.2) ((0 : Int32), S) = some S' ∧ rwL S' w (wD w) ∧ kp S S' [] [] [0] := by
  have h66 := hf.1.1
  refine pz_loop (F := fun q => fb_X9_doubts_28 q.1 q.2) (fun i s => s.1 = nI i ∧ kp S s.2 [] [] [0] ∧ ∀ t b, t < i → b < 300 → bd_J s.2 0 (300 * t + b) = vL (wD w t b)) (fun r => rwL r w (wD w) ∧ kp S r [] [] [0]) (w 0 0) (fun i s hi hs => ?_) (fun s hs => ?_) (s0 := ((0 : Int32), S)) ⟨rfl, kp.rfl', fun t b ht => by omega⟩ bd_K (by rw [pz_K]; omega)
  · obtain ⟨q1, q2, q3⟩ := hs
    obtain ⟨s1, s2⟩ := s
    dsimp only at q1 q2 q3 ⊢
    subst q1
    left
    have hw2 := wX_kp q2 (by decide) (by decide) hw
    have hl2 := lX_kp q2 (by decide) hl
    have e1 : bd_I s2 17 = nI (w 0 0) := hw2.2.2.2.1
    unfold fb_X9_doubts_28
    obtain ⟨S', e', k', r', b'⟩ := setD_row hw2 hf hl2 hi
    rw [e1, if_neg (nI_ge hi (by omega)), e', pz_some, nI_1]
    refine ⟨_, rfl, rfl, q2.trans k', fun t b ht hb => ?_⟩
    by_cases z : t = i
    · subst z; exact r' b hb
    · rw [b' _ (by omega)]; exact q3 t b (by omega) hb
  · obtain ⟨q1, q2, q3⟩ := hs
    obtain ⟨s1, s2⟩ := s
    dsimp only at q1 q2 q3 ⊢
    subst q1
    have hw2 := wX_kp q2 (by decide) (by decide) hw
    have e1 : bd_I s2 17 = nI (w 0 0) := hw2.2.2.2.1
    unfold fb_X9_doubts_28
    rw [e1, if_pos (Int32.le_refl _)]
    exact ⟨_, rfl, q3, q2⟩
/-! sets of LOOKS -/
def Ub (w : bw) (a : Nat → Nat) (k : Nat) : Bool := !lets w k (a (w 9 k)) && !decide (w 13 k = 1)
def US (w : bw) (a : Nat → Nat) : Nat := bsum (Ub w a) (w 0 6)
def key (s : Nat) : Nat := pc s * 1024 + s
theorem cst_sN (P : Nat → Bool) (n : Nat) : bcnt P n * 1024 + bsum P n = sN (fun k => if P k = true then 1024 + 2 ^ k else 0) n := by
  induction n with
  | zero => show 0 * 1024 + 0 = 0; rw [Nat.zero_mul]
  | succ n ih =>
    show (bcnt P n + if P n = true then 1 else 0) * 1024 + (bsum P n + if P n = true then 2 ^ n else 0) = sN (fun k => if P k = true then 1024 + 2 ^ k else 0) n + (if P n = true then 1024 + 2 ^ n else 0)
    rw [← ih, Nat.add_mul]
    by_cases c : P n = true
    · rw [if_pos c, if_pos c, if_pos c, Nat.one_mul]
      exact Nat.add_add_add_comm _ _ _ _
    · rw [if_neg c, if_neg c, if_neg c, Nat.zero_mul, Nat.add_zero, Nat.add_zero, Nat.add_zero]
theorem key_US {w : bw} (hf : wF w) (a : Nat → Nat) : key (US w a) = bcnt (Ub w a) (w 0 6) * 1024 + bsum (Ub w a) (w 0 6) := by
  unfold key pc US
  rw [bcnt_bsum hf.1.2.2.2.2]
theorem cost_US {w : bw} (hf : wF w) (a : Nat → Nat) : sN (fun t => cst w t (a t)) (w 0 0) = key (US w a) := by
  rw [key_US hf, cst_sN]
  have e : ∀ t, cst w t (a t) = sN (fun k => if Qk w t (a t) k = true then 1024 + 2 ^ k else 0) (w 0 6) := fun t => cst_sN (Qk w t (a t)) (w 0 6)
  rw [show (fun t => cst w t (a t)) = (fun t => sN (fun k => if Qk w t (a t) k = true then 1024 + 2 ^ k else 0) (w 0 6)) from funext e]
  refine Eq.trans (sg_swap SRN (fun t k => if Qk w t (a t) k = true then 1024 + 2 ^ k else 0) (w 0 0) (w 0 6)) ?_
  refine sg_congr (fun k hk => ?_)
  have h9 := (hf.2.2.2.2 k hk).1
  have f : (fun t => if Qk w t (a t) k = true then 1024 + 2 ^ k else 0) = (fun t => if t = w 9 k then (if Ub w a k = true then 1024 + 2 ^ k else 0) else 0) := funext (fun t => by
    unfold Qk Ub
    by_cases z : t = w 9 k
    · rw [if_pos z, decide_eq_true z.symm, z, Bool.true_and]
    · rw [if_neg z, decide_eq_false (fun y => z y.symm)]; rfl)
  rw [f]
  exact sN_single (c := fun _ => if Ub w a k = true then 1024 + 2 ^ k else 0) h9
theorem bsum_mono {P Q : Nat → Bool} (n : Nat) (h : ∀ k, k < n → P k = true → Q k = true) : bsum P n ≤ bsum Q n ∧ bcnt P n ≤ bcnt Q n := by
  induction n with
  | zero => exact ⟨Nat.le_refl _, Nat.le_refl _⟩
  | succ n ih =>
    obtain ⟨a, b⟩ := ih (fun k hk => h k (by omega))
    show bsum P n + (if P n = true then 2 ^ n else 0) ≤ bsum Q n + (if Q n = true then 2 ^ n else 0) ∧ bcnt P n + (if P n = true then 1 else 0) ≤ bcnt Q n + (if Q n = true then 1 else 0)
    have hn := h n (by omega)
    by_cases c : P n = true
    · rw [if_pos c, if_pos c, if_pos (hn c), if_pos (hn c)]; omega
    · rw [if_neg c, if_neg c]; omega
theorem bsum_self {s n : Nat} (h : s < 2 ^ n) : bsum (fun k => s.testBit k) n = s := by
  apply Nat.eq_of_testBit_eq
  intro i
  rw [bsum_bit]
  by_cases c : i < n
  · rw [decide_eq_true c, Bool.true_and]
  · rw [decide_eq_false c, Bool.false_and]
    exact (Nat.testBit_lt_two_pow (Nat.lt_of_lt_of_le h (Nat.pow_le_pow_right (by omega) (by omega)))).symm
def Feas (w : bw) (s : Nat) : Prop := ∃ a, Box w a ∧ er w a = true ∧ ∀ k, k < w 0 6 → Ub w a k = true → s.testBit k = true
def alw (w : bw) (s : Nat) : Prop := s &&& wdb w (w 0 6) = 0
theorem key_mono {w : bw} (hf : wF w) {a : Nat → Nat} {s : Nat} (hs : s < 2 ^ (w 0 6)) (h : ∀ k, k < w 0 6 → Ub w a k = true → s.testBit k = true) : key (US w a) ≤ key s := by
  obtain ⟨x, y⟩ := bsum_mono (P := Ub w a) (Q := fun k => s.testBit k) (w 0 6) h
  rw [key_US hf]
  rw [bsum_self hs] at x
  have : pc s = bcnt (fun k => s.testBit k) (w 0 6) := bcnt_ext hf.1.2.2.2.2 (fun k hk => Nat.testBit_lt_two_pow (Nat.lt_of_lt_of_le hs (Nat.pow_le_pow_right (by omega) hk)))
  unfold key
  rw [this]; omega
theorem US_lt (w : bw) (a : Nat → Nat) : US w a < 2 ^ (w 0 6) := bsum_lt _ _
theorem US_alw (w : bw) (a : Nat → Nat) : alw w (US w a) := by
  apply Nat.eq_of_testBit_eq
  intro i
  rw [Nat.testBit_and, Nat.zero_testBit]
  unfold US wdb
  rw [bsum_bit, bsum_bit]
  unfold Ub
  cases decide (w 13 i = 1) <;> simp
theorem US_feas {w : bw} {a : Nat → Nat} (h1 : Box w a) (h2 : er w a = true) : Feas w (US w a) := ⟨a, h1, h2, fun k hk h => by
  unfold US; rw [bsum_bit, decide_eq_true hk, h]; rfl⟩
theorem feas_ways {w : bw} (hf : wF w) (s : Nat) : 0 < Ways w (gd w (fun _ => 0) (fun _ => 299) s) ↔ Feas w s := by
  rw [Ways_pos]
  refine exists_congr (fun a => and_congr_right (fun hb => ?_))
  unfold vd
  rw [Bool.and_eq_true, al_iff]
  constructor
  · rintro ⟨h, he⟩
    refine ⟨he, fun k hk hu => ?_⟩
    have h9 := (hf.2.2.2.2 k hk).1
    have g := h (w 9 k) h9
    unfold gd at g
    rw [Bool.and_eq_true, decide_eq_true_eq, decide_eq_true_eq] at g
    unfold Ub at hu
    rw [Bool.and_eq_true] at hu
    have h13 := (hf.2.2.2.2 k hk).2.2.2.2
    have n13 : w 13 k ≠ 1 := fun z => by rw [decide_eq_true z] at hu; cases hu.2
    by_cases c : s.testBit k = true
    · exact c
    · have := g.2 k hk rfl (by omega) (by simpa using c)
      rw [this] at hu
      cases hu.1
  · rintro ⟨he, h⟩
    refine ⟨fun t ht => ?_, he⟩
    unfold gd
    rw [Bool.and_eq_true, decide_eq_true_eq, decide_eq_true_eq]
    have := Box_lt hb ht
    refine ⟨⟨Nat.zero_le _, show a t ≤ 299 by omega⟩, fun k hk h1 h2 h3 => ?_⟩
    by_cases c : lets w k (a t) = true
    · exact c
    · have hu : Ub w a k = true := by
        unfold Ub
        rw [h1, show lets w k (a t) = false by simpa using c, decide_eq_false (show ¬ w 13 k = 1 by omega)]; rfl
      rw [h k hk hu] at h3; cases h3
theorem key_lt {i s s' : Nat} (h : pc i < pc s) (hi : i < 1024) (h2 : key s ≤ key s') : key i ≤ key s' := by
  have a : (pc i + 1) * 1024 ≤ pc s * 1024 := Nat.mul_le_mul_right 1024 h
  rw [Nat.add_mul, Nat.one_mul] at a
  have b : key i ≤ pc i * 1024 + 1024 := Nat.add_le_add_left (Nat.le_of_lt hi) _
  exact Nat.le_trans b (Nat.le_trans a (Nat.le_trans (Nat.le_add_right _ s) h2))
theorem key_le {i s : Nat} (h : pc s ≤ pc i) (h2 : s ≤ i) : key s ≤ key i := by
  exact Nat.add_le_add (Nat.mul_le_mul_right 1024 h) h2
def Best (w : bw) (i : Nat) (x : Int32) : Prop := (x = -9 ∧ ∀ s, s < i → alw w s → ¬ Feas w s) ∨ ∃ s, s < i ∧ x = nI s ∧ alw w s ∧ Feas w s ∧ ∀ s', s' < i → alw w s' → Feas w s' → key s ≤ key s'
theorem pm_told {M : bd_T} {w : bw} (hw : wM M w) (hf : wF w) : bd_lp bd_K (fun q => fb_X10_doubts_12 q.1 q.2.1 q.2.2) ((0 : Int32), (0 : Int32), M) = some (nI (wdb w (w 0 6)), M) := by
  have h10 := hf.1.2.2.2.2
  have i8 : bd_I M 8 = nI (w 0 6) := hw.2.2.2.2.1
  exact pz_for (F := fun q : Int32 × Int32 × bd_T => fb_X10_doubts_12 q.1 q.2.1 q.2.2) (fun i => (nI (wdb w i), nI i, M)) (w 0 6) (nI (wdb w (w 0 6)), M) (fun i hi => by
    dsimp only
    unfold fb_X10_doubts_12
    have e11 : bd_A M 11 i = nI (w 13 i) := (hw.2.2.2.2.2.2.2 i hi).2.2.2.2
    have h1 := (hf.2.2.2.2 i hi).2.2.2.2
    have ee : wdb w (i + 1) = wdb w i + if decide (w 13 i = 1) = true then 2 ^ i else 0 := rfl
    rw [i8, if_neg (nI_ge hi (by omega)), pz_ga (show i < 10 by omega) (by decide), pz_some, pz_b1, e11, ee, nI_1]
    by_cases c : w 13 i = 1
    · rw [c, show (nI 1 : Int32) <<< (nI i &&& 31) = nI (2 ^ i) from nI_shl (by omega), show nI (wdb w i) ||| nI (2 ^ i) = nI (wdb w i + 2 ^ i) from nI_or_pow (bsum_lt _ _)]; rfl
    · rw [show w 13 i = 0 by omega, show (nI 0 : Int32) <<< (nI i &&& 31) = 0 from Int32.zero_shiftLeft, Int32.or_zero]; rfl) (by
    dsimp only
    unfold fb_X10_doubts_12
    rw [i8, if_pos (Int32.le_refl _)]) bd_K (by rw [pz_K]; omega)
theorem pm_best {M : bd_T} {w : bw} (hw : wM M w) (hf : wF w) (hl : lM M w) (hfr : frM M w (fun _ => 0) (fun _ => 299) 0) : ∃ r, bd_lp bd_K (fun q => fb_X10_doubts_42 (nI (wdb w (w 0 6))) q.1 q.2.1 q.2.2) ((-9 : Int32), (0 : Int32), M) = some r ∧ Best w (2 ^ (w 0 6)) r.1 ∧ kp M r.2 [9] [] [0, 1] := by
  have h10 := hf.1.2.2.2.2
  have hp : 2 ^ (w 0 6) ≤ 1024 := Nat.le_trans (Nat.pow_le_pow_right (by omega) h10) (by decide)
  refine pz_loop (F := fun q => fb_X10_doubts_42 (nI (wdb w (w 0 6))) q.1 q.2.1 q.2.2) (fun i s => Best w i s.1 ∧ s.2.1 = nI i ∧ kp M s.2.2 [9] [] [0, 1]) (fun r => Best w (2 ^ (w 0 6)) r.1 ∧ kp M r.2 [9] [] [0, 1]) (2 ^ (w 0 6)) (fun i s hi hs => ?_) (fun s hs => ?_) (s0 := ((-9 : Int32), (0 : Int32), M)) ⟨Or.inl ⟨rfl, fun s hs => absurd hs (Nat.not_lt_zero _)⟩, rfl, kp.rfl'⟩ bd_K (by rw [pz_K]; omega)
  · obtain ⟨q1, q2, q3⟩ := hs
    obtain ⟨s1, s2, s3⟩ := s
    dsimp only at q1 q2 q3 ⊢
    subst q2
    left
    have hw3 := wM_kp q3 (by decide) (by decide) hw
    have i8 : bd_I s3 8 = nI (w 0 6) := hw3.2.2.2.2.1
    have hd : wdb w (w 0 6) < 1024 := Nat.lt_of_lt_of_le (bsum_lt _ _) hp
    have hand : i &&& wdb w (w 0 6) < 1024 := Nat.lt_of_le_of_lt Nat.and_le_left (by omega)
    have ha : (nI i &&& nI (wdb w (w 0 6)) = (0 : Int32)) ↔ alw w i := by
      rw [nI_and]
      exact nI_eq (b := 0) (by omega) (by omega)
    -- trying a set
    have k9 := kp_pI s3 9 (nI i)
    have K : kp M (bd_pI s3 9 (nI i)) [9] [] [0, 1] := q3.trans (k9.mono (by decide) (by decide) (by decide))
    obtain ⟨M', e, k⟩ := pm_waysOf (wM_kp K (by decide) (by decide) hw) hf (lM_kp K (by decide) hl) (fr := fun _ => 0) (tt := fun _ => 299) (lo := i) ⟨fun t ht => by
      rw [K.2.1 15 (by decide), K.2.1 16 (by decide)]
      exact hfr.1 t ht, rfl, by omega⟩
    have K' : kp M M' [9] [] [0, 1] := K.trans (k.mono (by decide) (by decide) (by decide))
    have le0 := ways_le0 hf (gd w (fun _ => 0) (fun _ => 299) i)
    have fw := feas_ways hf i
    have nof : ∀ x : Int32, ¬ Feas w i → Best w i x → Best w (i + 1) x := fun x n b => by
      rcases b with ⟨b1, b2⟩ | ⟨s, b1, b2, b3, b4, b5⟩
      · refine Or.inl ⟨b1, fun s hs h1 h2 => ?_⟩
        by_cases z : s = i
        · rw [z] at h2; exact n h2
        · exact b2 s (by omega) h1 h2
      · refine Or.inr ⟨s, by omega, b2, b3, b4, fun s' hs h1 h2 => ?_⟩
        by_cases z : s' = i
        · rw [z] at h2; exact absurd h2 n
        · exact b5 s' (by omega) h1 h2
    unfold fb_X10_doubts_42
    rw [i8, nI_shl (by omega), if_neg (nI_ge hi (by omega))]
    by_cases c : alw w i
    · rw [if_pos (ha.mpr c)]
      have try_ : ∀ x : Int32, Best w i x → (Feas w i → Best w (i + 1) (nI i)) → ∃ s', (if lN (Ways w (gd w (fun _ => 0) (fun _ => 299) i)) ≤ (0 : Int64) then (some (.inl (x, nI i + 1, M')) : Option ((Int32 × Int32 × bd_T) ⊕ (Int32 × bd_T))) else some (.inl (nI i, nI i + 1, M'))) = some (.inl s') ∧ Best w (i + 1) s'.1 ∧ s'.2.1 = nI (i + 1) ∧ kp M s'.2.2 [9] [] [0, 1] := fun x b hF => by
        by_cases d : Feas w i
        · rw [if_neg (fun z => (le0.mp z) (fw.mpr d))]
          exact ⟨_, rfl, hF d, nI_1 i, K'⟩
        · rw [if_pos (le0.mpr (fun z => d (fw.mp z)))]
          exact ⟨_, rfl, nof x d b, nI_1 i, K'⟩
      rcases q1 with ⟨rfl, b2⟩ | ⟨s, b1, rfl, b3, b4, b5⟩
      · rw [if_pos (show (-9 : Int32) < 0 by decide), pz_si, e, pz_b2]
        exact try_ (-9) (Or.inl ⟨rfl, b2⟩) (fun d => Or.inr ⟨i, by omega, rfl, c, d, fun s' hs h1 h2 => by
          by_cases z : s' = i
          · rw [z]; exact Nat.le_refl _
          · exact absurd h2 (b2 s' (by omega) h1)⟩)
      · have p1 := pc_le i
        have p2 := pc_le s
        rw [if_neg (show ¬ nI s < (0 : Int32) from npos0 (by omega)), pm_bits s3 (show i < 1024 by omega), pz_b2, pm_bits s3 (show s < 1024 by omega), pz_b2]
        have bs : Best w i (nI s) := Or.inr ⟨s, b1, rfl, b3, b4, b5⟩
        by_cases d : pc i < pc s
        · rw [if_pos (nI_lt d (by omega)), pz_si, e, pz_b2]
          exact try_ (nI s) bs (fun f => Or.inr ⟨i, by omega, rfl, c, f, fun s' hs h1 h2 => by
            by_cases z : s' = i
            · rw [z]; exact Nat.le_refl _
            · exact key_lt d (by omega) (b5 s' (by omega) h1 h2)⟩)
        · rw [if_neg (nI_nlt (by omega) (by omega))]
          refine ⟨_, rfl, Or.inr ⟨s, by omega, rfl, b3, b4, fun s' hs h1 h2 => ?_⟩, nI_1 i, q3⟩
          by_cases z : s' = i
          · rw [z]; exact key_le (Nat.not_lt.mp d) (Nat.le_of_lt b1)
          · exact b5 s' (by omega) h1 h2
    · rw [if_neg (fun z => c (ha.mp z))]
      refine ⟨_, rfl, ?_, nI_1 i, q3⟩
      rcases q1 with ⟨b1, b2⟩ | ⟨s, b1, b2, b3, b4, b5⟩
      · refine Or.inl ⟨b1, fun s hs h1 h2 => ?_⟩
        by_cases z : s = i
        · rw [z] at h1; exact c h1
        · exact b2 s (by omega) h1 h2
      · refine Or.inr ⟨s, by omega, b2, b3, b4, fun s' hs h1 h2 => ?_⟩
        by_cases z : s' = i
        · rw [z] at h1; exact absurd h1 c
        · exact b5 s' (by omega) h1 h2
  · obtain ⟨q1, q2, q3⟩ := hs
    obtain ⟨s1, s2, s3⟩ := s
    dsimp only at q1 q2 q3 ⊢
    subst q2
    have hw3 := wM_kp q3 (by decide) (by decide) hw
    have i8 : bd_I s3 8 = nI (w 0 6) := hw3.2.2.2.2.1
    unfold fb_X10_doubts_42
    rw [i8, nI_shl (by omega), if_pos (Int32.le_refl _)]
    exact ⟨_, rfl, q1, q3⟩
/-- the least cost of all, and the best set -/
def ZD (w : bw) : Option Nat := sg adL none (ZwL w (wD w) 0) 300
theorem ZD_leK {w : bw} (hf : wF w) (h0 : 0 < w 0 0) {K : Nat} : leK K (ZD w) ↔ ∃ a, Box w a ∧ er w a = true ∧ key (US w a) ≤ K := by
  refine (sg_or (Q := leK K) (leK_none K) (leK_tad K) _ 300).trans ?_
  have ve : ∀ a, vd w (fun _ _ => true) a = er w a := fun a => by
    unfold vd
    rw [al_iff.mpr (fun k hk => rfl), Bool.true_and]
  constructor
  · rintro ⟨b, hb, h⟩
    obtain ⟨a, a1, a2, a3, a4⟩ := (Zbox h0 hb).mp h
    rw [ve] at a3
    rw [cost_US hf] at a4
    exact ⟨a, a1, a3, a4⟩
  · rintro ⟨a, a1, a3, a4⟩
    exact ⟨a 0, Box_lt a1 h0, (Zbox h0 (Box_lt a1 h0)).mpr ⟨a, a1, rfl, by rw [ve]; exact a3, by rw [cost_US hf]; exact a4⟩⟩
theorem key_inj {s s' : Nat} (h : s < 1024) (h' : s' < 1024) (e : key s = key s') : s = s' := by
  unfold key at e; omega
theorem key_mod {s : Nat} (h : s < 1024) : key s % 1024 = s := by
  unfold key; omega
theorem best_ZD {w : bw} (hf : wF w) (h0 : 0 < w 0 0) {x : Int32} (hx : Best w (2 ^ (w 0 6)) x) : (ZD w = none ∧ x = -9) ∨ ∃ c, ZD w = some c ∧ c ≤ 20000 ∧ x = nI (c % 1024) := by
  have hp : 2 ^ (w 0 6) ≤ 1024 := Nat.le_trans (Nat.pow_le_pow_right (by omega) hf.1.2.2.2.2) (by decide)
  cases hz : ZD w with
  | none =>
    refine Or.inl ⟨rfl, ?_⟩
    rcases hx with ⟨b1, b2⟩ | ⟨s, b1, b2, b3, ⟨a, a1, a2, a3⟩, b5⟩
    · exact b1
    · have := (ZD_leK hf h0 (K := key (US w a))).mpr ⟨a, a1, a2, Nat.le_refl _⟩
      rw [hz] at this
      exact absurd this (leK_none _)
  | some c =>
    refine Or.inr ⟨c, rfl, ?_⟩
    obtain ⟨a, a1, a2, a3⟩ := (ZD_leK hf h0 (K := c)).mp (by rw [hz]; exact ⟨c, rfl, Nat.le_refl _⟩)
    have up : ∀ a', Box w a' → er w a' = true → c ≤ key (US w a') := fun a' h1 h2 => by
      have := (ZD_leK hf h0 (K := key (US w a'))).mpr ⟨a', h1, h2, Nat.le_refl _⟩
      rw [hz, leK_some] at this
      exact this
    have hc : c = key (US w a) := Nat.le_antisymm (up a a1 a2) a3
    have hu := US_lt w a
    have hk : key (US w a) ≤ 20000 := by
      have := pc_le (US w a)
      unfold key; omega
    refine ⟨by omega, ?_⟩
    rcases hx with ⟨b1, b2⟩ | ⟨s, b1, b2, b3, ⟨a', d1, d2, d3⟩, b5⟩
    · exact absurd (US_feas a1 a2) (b2 _ hu (US_alw w a))
    · have l1 := b5 _ hu (US_alw w a) (US_feas a1 a2)
      have l2 := key_mono hf b1 d3
      have l3 := up a' d1 d2
      have : s = US w a := key_inj (by omega) (by omega) (by omega)
      rw [b2, this, hc, key_mod (by omega)]
theorem r_doubts : rel_doubts RR := by
  intro S M h
  obtain ⟨hp, w, hw⟩ := id h
  obtain ⟨hf, hX, hM, hc, hm, hpre⟩ := id hw
  have h66 := hf.1.1
  unfold f_X9_doubts f_X10_doubts
  obtain ⟨M1, f1, n1, j1⟩ := pm_finds hM hf hm
  have hM1 := wM_kp j1 (by decide) (by decide) hM
  obtain ⟨M2, f2, n2, j2⟩ := pm_frees (M := M1) hf
  have hM2 := wM_kp j2 (by decide) (by decide) hM1
  have m2 := lM_kp j2 (by decide) n1
  obtain ⟨⟨x, M3⟩, f3, hx, j3⟩ := pm_best hM2 hf m2 n2
  dsimp only at hx j3
  have J : kp M M3 [7, 9] [15, 16, 18, 20, 21] [0, 1] := (j1.mono (by decide) (by decide) (by decide)).trans ((j2.mono (by decide) (by decide) (by decide)).trans (j3.mono (by decide) (by decide) (by decide)))
  rw [f1, pz_b2, f2, pz_b2, pm_told hM2 hf, pz_some]
  dsimp only
  rw [f3, pz_some, show bd_I S 17 = nI (w 0 0) from hX.2.2.2.1]
  by_cases c : w 0 0 = 0
  · rw [if_pos (show nI (w 0 0) = (0 : Int32) by rw [c]; rfl)]
    have F0 : Feas w 0 := by
      refine ⟨fun _ => 0, fun i => ⟨fun _ => by omega, fun _ => rfl⟩, ?_, fun k hk => ?_⟩
      · unfold er; rw [c]; rfl
      · have := (hf.2.2.2.2 k hk).1
        omega
    have A0 : alw w 0 := Nat.zero_and _
    have e0 : x = 0 := by
      rcases hx with ⟨b1, b2⟩ | ⟨s, b1, b2, b3, b4, b5⟩
      · exact absurd F0 (b2 0 (Nat.two_pow_pos _) A0)
      · have := b5 0 (Nat.two_pow_pos _) A0 F0
        have k0 : key 0 = 0 := by decide
        rw [k0] at this
        unfold key at this
        rw [b2, show s = 0 by omega]; rfl
    rw [e0]
    exact ⟨0, S, M3, rfl, rfl, RR_calc hp hw kp.rfl' J hc (Or.inr (lM_kp j3 (by decide) m2)) hpre⟩
  · rw [if_neg (show ¬ nI (w 0 0) = (0 : Int32) from fun z => c ((nI_eq (b := 0) (by omega) (by omega)).mp z))]
    have h0 : 0 < w 0 0 := by omega
    obtain ⟨S1, e1, l1, k1⟩ := px_learn hX hf hc
    have hX1 := wX_kp k1 (by decide) (by decide) hX
    obtain ⟨S2, e2, r2, k2⟩ := px_setD hX1 hf l1
    have hX2 := wX_kp k2 (by decide) (by decide) hX1
    obtain ⟨S3, e3, r3, p3, k3⟩ := px_gather_L hX2 hf (g := 0) h0 trivial r2
    have e3 : f_X2_gather_b1 0 S2 = _ := e3
    obtain ⟨S4, e4, p4, k4⟩ := together1_L (v := 0) (by omega) p3 (f := ZwL w (wD w) 0) r3
    have e4 : f_X2_together_b1 0 S3 = some (vL (ZD w), S4) := e4
    rw [e1, pz_b2, e2, pz_some, e3, pz_b2, e4, pz_b2]
    have K : kp S S4 [15, 16] [4, 9, 10] [0, 1, 2] := (k1.mono (by decide) (by decide) (by decide)).trans ((k2.mono (by decide) (by decide) (by decide)).trans ((k3.mono (by decide) (by decide) (by decide)).trans (k4.mono (by decide) (by decide) (by decide))))
    have fin := RR_calc hp hw K J (cX'_kp k4 (by decide) (cX'_kp k3 (by decide) (cX'_kp k2 (by decide) (cX'_lX l1)))) (Or.inr (lM_kp j3 (by decide) m2)) (preC_kp k4 (by decide) (preC_kp k3 (by decide) (preC_kp k2 (by decide) (preC_kp k1 (by decide) hpre))))
    have hI : IMP = 1099511627776 := rfl
    rcases best_ZD hf h0 hx with ⟨z, rfl⟩ | ⟨v, z, hv, rfl⟩
    · rw [z, vL_n, if_neg (show ¬ lN IMP < (1099511627776 : Int64) from Int64.lt_irrefl)]
      exact ⟨_, S4, M3, rfl, rfl, fin⟩
    · rw [z, vL_s (by omega), if_pos (show lN v < (1099511627776 : Int64) from (pk_lLT (b := IMP) (by omega) (by omega)).mpr (by omega)), lN_i, pk_andN (by omega) (m := 1023) 10 (by decide)]
      exact ⟨_, S4, M3, rfl, rfl, fin⟩
