theorem within_L {S : bd_T} {f : Nat → Option Nat} (h : ldL S f) {x y : Int32} {lo hi : Int} (hx : x.toInt = lo) (hy : y.toInt = hi) (h1 : -1000 ≤ lo) (h2 : lo ≤ 1000) (h3 : -1000 ≤ hi) (h4 : hi ≤ 1000) : f_X5_within_b1 x y S = some (vL (rngX adL none f lo hi), S) := by
  have t0 : (0 : Int32).toInt = 0 := rfl
  have t9 : (299 : Int32).toInt = 299 := rfl
  have e1 : (if (0 : Int32) < x then x else 0) = nI (max 0 lo).toNat := by
    apply ti_eq (by omega)
    split
    · rename_i q; rw [Int32.lt_iff_toInt_lt, t0, hx] at q; rw [hx]; omega
    · rename_i q; rw [Int32.lt_iff_toInt_lt, t0, hx] at q; rw [t0]; omega
  have e2 : (if y < (299 : Int32) then y else 299).toInt = min hi 299 := by
    split
    · rename_i q; rw [Int32.lt_iff_toInt_lt, t9, hy] at q; rw [hy]; omega
    · rename_i q; rw [Int32.lt_iff_toInt_lt, t9, hy] at q; rw [t9]; omega
  have tl : (nI (max 0 lo).toNat).toInt = max 0 lo := by rw [nI_toInt (by omega)]; omega
  unfold f_X5_within_b1
  rw [pz_b1, pz_b1, e1]
  by_cases c : max 0 lo ≤ min hi 299
  · have e3 : (if y < (299 : Int32) then y else 299) = nI (min hi 299).toNat := ti_eq (by omega) (by rw [e2]; omega)
    rw [if_pos (by rw [Int32.le_iff_toInt_le, tl, e2]; exact c), e3, over_L h (by omega) (by omega), pz_b2]
    have : rngX adL none f ((max 0 lo).toNat : Nat) ((min hi 299).toNat : Nat) = rngX adL none f lo hi := by
      unfold rngX
      apply sg_congr
      intro z hz
      by_cases q : lo ≤ (z : Int) ∧ (z : Int) ≤ hi
      · rw [if_pos (by omega), if_pos q]
      · rw [if_neg (by omega), if_neg q]
    rw [this]
  · rw [if_neg (by rw [Int32.le_iff_toInt_le, tl, e2]; exact c), none_L, pz_b2]
    have : rngX adL none f lo hi = none := by
      unfold rngX
      exact (sg_congr (g := fun _ => none) (fun z hz => if_neg (by omega))).trans (sg_zero SRT 300)
    rw [this]
theorem rngP_L {f : Nat → Option Nat} {lo hi : Int} {P : Nat → Bool} (h : ∀ x : Nat, x < 300 → ((lo ≤ (x : Int) ∧ (x : Int) ≤ hi) ↔ P x = true)) : rngX adL none f lo hi = sg adL none (fun x => muL (f x) (if P x = true then (some 0) else none)) 300 := by
  obtain ⟨g1, g2, g3, g4, g5, g6, g7, g8⟩ := SRT
  unfold rngX
  apply sg_congr
  intro x hx
  by_cases c : P x = true
  · rw [if_pos ((h x hx).mpr c), if_pos c]
    exact ((g4 (f x) (some 0)).trans (g6 (f x))).symm
  · rw [if_neg (fun z => c ((h x hx).mp z)), if_neg c]
    exact ((g4 (f x) none).trans (g8 (f x))).symm
def rwL (S : bd_T) (w : bw) (wt : Nat → Nat → Option Nat) : Prop := ∀ t b, t < w 0 0 → b < 300 → bd_J S 0 (300 * t + b) = vL (wt t b)
theorem bringloop_L {S : bd_T} {w : bw} (hw : wX S w) (hf : wF w) {wt : Nat → Nat → Option Nat} {f : Nat → Option Nat} {v u fl : Nat} (hv : v < w 0 0) (hu : u < w 0 0) (hj : w 4 v ≠ 0) (hfl : fl < 2) (hp : preL S) (hld : ldL S f) (hr : rwL S w wt) : ∃ S', bd_lp bd_K (fun q => fb_X2_bring_b1_48 (nI v) (nI fl) (nI u) q.1 q.2) ((0 : Int32), S) = some S' ∧ preL S' ∧ kp S S' [] [] [0] ∧ rwL S' w (wup wt u (fun y => muL (wt u y) (sg adL none (fun x => muL (f x) (if (if fl = 1 then rlw w v x y else rlw w v y x) = true then (some 0) else none)) 300))) := by
  have h66 := hf.1.1
  obtain ⟨r, e, h⟩ := pz_loop (F := fun q => fb_X2_bring_b1_48 (nI v) (nI fl) (nI u) q.1 q.2) (fun i s => s.1 = nI i ∧ kp S s.2 [] [] [0] ∧ ∀ t b, t < w 0 0 → b < 300 → bd_J s.2 0 (300 * t + b) = vL (if t = u ∧ b < i then muL (wt u b) (sg adL none (fun x => muL (f x) (if (if fl = 1 then rlw w v x b else rlw w v b x) = true then (some 0) else none)) 300) else wt t b)) (fun r => kp S r [] [] [0] ∧ rwL r w (wup wt u (fun y => muL (wt u y) (sg adL none (fun x => muL (f x) (if (if fl = 1 then rlw w v x y else rlw w v y x) = true then (some 0) else none)) 300)))) 300 (fun i s hi hs => by
      obtain ⟨q1, q2, q3⟩ := hs
      obtain ⟨s1, s2⟩ := s
      dsimp only at q1 q2 q3 ⊢
      subst q1
      left
      have hw2 : wX s2 w := wX_kp q2 (by decide) (by decide) hw
      obtain ⟨x, y, lo, hi', e1, e2, hx, hy, b1, b2, b3, b4, hP⟩ := px_lohi hw2 hf hv hj hfl hi
      have hld2 : ldL s2 f := ldk_L q2 hld
      unfold fb_X2_bring_b1_48
      rw [if_neg (n300 hi), e1, pz_b2, e2, pz_b2, within_L hld2 hx hy b1 b2 b3 b4, pz_b2, px_value (by omega) hi, pz_b2, q3 u i hu hi, if_neg (by omega), rngP_L hP]
      rw [both_L, pz_b2, px_set (by omega) hi, pz_b2]
      refine ⟨_, rfl, nI_1 i, q2.trans (kp_pJ _ _ _ _), fun t b ht hb => ?_⟩
      show vp_updL (bd_J s2 0) (300 * u + i) _ (300 * t + b) = _
      rw [pz_upL]
      by_cases z : t = u ∧ b = i
      · obtain ⟨z1, z2⟩ := z
        subst z1; subst z2
        rw [if_pos rfl, if_pos ⟨rfl, by omega⟩]
      · rw [if_neg (by omega), q3 t b ht hb]
        by_cases y : t = u ∧ b < i
        · rw [if_pos y, if_pos ⟨y.1, by omega⟩]
        · rw [if_neg y, if_neg (by omega)]) (fun s hs => by
      obtain ⟨q1, q2, q3⟩ := hs
      obtain ⟨s1, s2⟩ := s
      dsimp only at q1 q2 q3 ⊢
      subst q1
      unfold fb_X2_bring_b1_48
      rw [if_pos y300]
      refine ⟨_, rfl, q2, fun t b ht hb => ?_⟩
      rw [q3 t b ht hb]
      unfold wup
      by_cases y : t = u
      · rw [if_pos ⟨y, hb⟩, if_pos y]
      · rw [if_neg (fun z => y z.1), if_neg y]) (s0 := ((0 : Int32), S)) ⟨rfl, kp.rfl', fun t b ht hb => by rw [if_neg (by omega)]; exact hr t b ht hb⟩ bd_K (by rw [pz_K]; omega)
  exact ⟨r, e, prek_L h.1 hp, h.1, h.2⟩
theorem bring1_L {S : bd_T} {w : bw} (hw : wX S w) (hf : wF w) {wt : Nat → Nat → Option Nat} {v : Nat} (hv : v < w 0 0) (hj : w 4 v ≠ 0) (hp : preL S) (hr : rwL S w wt) : ∃ S', f_X2_bring_b1 (nI v) 1 S = some ((), S') ∧ preL S' ∧ kp S S' [] [] [0, 2] ∧ rwL S' w (wup wt (w 4 v - 1) (fun y => muL (wt (w 4 v - 1) y) (sg adL none (fun x => muL (wt v x) (if rlw w v x y = true then (some 0) else none)) 300))) := by
  have h66 := hf.1.1
  have h4 := (hf.2.2.2.1 v hv).2.2.2.1
  have e14 : bd_A S 14 v = nI (w 4 v) - 1 := (hw.2.2.2.2.2.2.2.1 v hv).2.2.2.1
  obtain ⟨c1, -⟩ := par_pos hj (show w 4 v < 1000 by omega)
  obtain ⟨S1, e1, l1, p1, k1⟩ := load_L (t := v) (f := wt v) (by omega) hp (fun b hb => hr v b hv hb)
  have hr1 : rwL S1 w wt := fun t b ht hb => by rw [k1.2.2 0 (by decide)]; exact hr t b ht hb
  obtain ⟨S2, e2, p2, k2, r2⟩ := bringloop_L (u := w 4 v - 1) (fl := 1) (wX_kp k1 (by decide) (by decide) hw) hf hv (by omega) hj (by omega) p1 l1 hr1
  unfold f_X2_bring_b1
  rw [pz_at (k := 14) (show v < 6 by omega) (by decide), pz_b2, e14, c1, if_neg (by decide), if_neg (by decide), e1, pz_b2, show (1 : Int32) = nI 1 from rfl, e2, pz_some]
  exact ⟨S2, rfl, p2, (k1.mono (by decide) (by decide) (by decide)).trans (k2.mono (by decide) (by decide) (by decide)), r2⟩
theorem bring0_L {S : bd_T} {w : bw} (hw : wX S w) (hf : wF w) {wt : Nat → Nat → Option Nat} {v : Nat} (hv : v < w 0 0) (hj : w 4 v ≠ 0) (hp : preL S) (hr : rwL S w wt) : ∃ S', f_X2_bring_b1 (nI v) 0 S = some ((), S') ∧ preL S' ∧ kp S S' [] [] [0, 2] ∧ rwL S' w (wup wt v (fun y => muL (wt v y) (sg adL none (fun x => muL (wt (w 4 v - 1) x) (if rlw w v y x = true then (some 0) else none)) 300))) := by
  have h66 := hf.1.1
  have h4 := (hf.2.2.2.1 v hv).2.2.2.1
  have e14 : bd_A S 14 v = nI (w 4 v) - 1 := (hw.2.2.2.2.2.2.2.1 v hv).2.2.2.1
  obtain ⟨c1, -⟩ := par_pos hj (show w 4 v < 1000 by omega)
  obtain ⟨S1, e1, l1, p1, k1⟩ := load_L (t := w 4 v - 1) (f := wt (w 4 v - 1)) (by omega) hp (fun b hb => hr _ b (by omega) hb)
  have hr1 : rwL S1 w wt := fun t b ht hb => by rw [k1.2.2 0 (by decide)]; exact hr t b ht hb
  obtain ⟨S2, e2, p2, k2, r2⟩ := bringloop_L (u := v) (fl := 0) (wX_kp k1 (by decide) (by decide) hw) hf hv hv hj (by omega) p1 l1 hr1
  unfold f_X2_bring_b1
  rw [pz_at (k := 14) (show v < 6 by omega) (by decide), pz_b2, e14, c1, if_pos rfl, if_pos rfl, e1, pz_b2, show bd_lp bd_K (fun q => fb_X2_bring_b1_48 (nI v) 0 (nI v) q.1 q.2) ((0 : Int32), S1) = some S2 from e2, pz_some]
  exact ⟨S2, rfl, p2, (k1.mono (by decide) (by decide) (by decide)).trans (k2.mono (by decide) (by decide) (by decide)), r2⟩
theorem rngall_L (f : Nat → Option Nat) : rngX adL none f (0 : Nat) (299 : Nat) = sg adL none f 300 := by
  unfold rngX
  apply sg_congr
  intro x hx
  rw [if_pos (by omega)]
theorem together_L {S : bd_T} {w : bw} (hf : wF w) {wt : Nat → Nat → Option Nat} {v : Nat} (hv : v < w 0 0) (hp : preL S) (hr : rwL S w wt) : ∃ S', f_X2_together_b1 (nI v) S = some (vL (sg adL none (wt v) 300), S') ∧ preL S' ∧ kp S S' [] [] [2] := by
  have h66 := hf.1.1
  obtain ⟨S1, e1, l1, p1, k1⟩ := load_L (t := v) (f := wt v) (by omega) hp (fun b hb => hr v b hv hb)
  unfold f_X2_together_b1
  rw [e1, pz_b2, show (0 : Int32) = nI 0 from rfl, show (299 : Int32) = nI 299 from rfl, over_L l1 (by omega) (by omega), pz_b2, rngall_L]
  exact ⟨S1, rfl, p1, k1⟩
theorem bringAll_L {S : bd_T} {w : bw} (hf : wF w) {wt : Nat → Nat → Option Nat} {v u : Nat} (hv : v < w 0 0) (hu : u < w 0 0) (hp : preL S) (hr : rwL S w wt) : ∃ S', f_X2_bringAll_b1 (nI v) (nI u) S = some ((), S') ∧ preL S' ∧ kp S S' [] [] [0, 2] ∧ rwL S' w (wup wt u (fun y => muL (wt u y) (sg adL none (wt v) 300))) := by
  have h66 := hf.1.1
  obtain ⟨S1, e1, p1, k1⟩ := together_L hf hv hp hr
  have hr1 : rwL S1 w wt := fun t b ht hb => by rw [k1.2.2 0 (by decide)]; exact hr t b ht hb
  unfold f_X2_bringAll_b1
  rw [e1, pz_b2]
  obtain ⟨r, e, h⟩ := pz_loop (F := fun q => fb_X2_bringAll_b1_11 (nI u) (vL (sg adL none (wt v) 300)) q.1 q.2) (fun i s => s.1 = nI i ∧ kp S1 s.2 [] [] [0] ∧ ∀ t b, t < w 0 0 → b < 300 → bd_J s.2 0 (300 * t + b) = vL (if t = u ∧ b < i then muL (wt u b) (sg adL none (wt v) 300) else wt t b)) (fun r => kp S1 r [] [] [0] ∧ rwL r w (wup wt u (fun y => muL (wt u y) (sg adL none (wt v) 300)))) 300 (fun i s hi hs => by
      obtain ⟨q1, q2, q3⟩ := hs
      obtain ⟨s1, s2⟩ := s
      dsimp only at q1 q2 q3 ⊢
      subst q1
      left
      unfold fb_X2_bringAll_b1_11
      rw [if_neg (n300 hi), px_value (by omega) hi, pz_b2, q3 u i hu hi, if_neg (by omega), both_L, pz_b2, px_set (by omega) hi, pz_b2]
      refine ⟨_, rfl, nI_1 i, q2.trans (kp_pJ _ _ _ _), fun t b ht hb => ?_⟩
      show vp_updL (bd_J s2 0) (300 * u + i) _ (300 * t + b) = _
      rw [pz_upL]
      by_cases z : t = u ∧ b = i
      · obtain ⟨z1, z2⟩ := z
        subst z1; subst z2
        rw [if_pos rfl, if_pos ⟨rfl, by omega⟩]
      · rw [if_neg (by omega), q3 t b ht hb]
        by_cases y : t = u ∧ b < i
        · rw [if_pos y, if_pos ⟨y.1, by omega⟩]
        · rw [if_neg y, if_neg (by omega)]) (fun s hs => by
      obtain ⟨q1, q2, q3⟩ := hs
      obtain ⟨s1, s2⟩ := s
      dsimp only at q1 q2 q3 ⊢
      subst q1
      unfold fb_X2_bringAll_b1_11
      rw [if_pos y300]
      refine ⟨_, rfl, q2, fun t b ht hb => ?_⟩
      rw [q3 t b ht hb]
      unfold wup
      by_cases y : t = u
      · rw [if_pos ⟨y, hb⟩, if_pos y]
      · rw [if_neg (fun z => y z.1), if_neg y]) (s0 := ((0 : Int32), S1)) ⟨rfl, kp.rfl', fun t b ht hb => by rw [if_neg (by omega)]; exact hr1 t b ht hb⟩ bd_K (by rw [pz_K]; omega)
  rw [e, pz_some]
  exact ⟨r, rfl, prek_L h.1 p1, (k1.mono (by decide) (by decide) (by decide)).trans (h.1.mono (by decide) (by decide) (by decide)), h.2⟩
