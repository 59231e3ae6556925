/-! narrow, next: LEFT at one MINUTE only rises, or only falls, with the MINUTE of the beginning -/
theorem near_mono {r v v' h : Nat} (hh : h ≤ 100) (hv : v ≤ v') : near r v h ≤ near r v' h := by
  unfold near
  by_cases c : v < r
  · rw [if_pos c]
    by_cases d : v' < r
    · rw [if_pos d]
      have e : (r - v) * h = (r - v') * h + (v' - v) * h := by rw [← Nat.add_mul]; congr 1; omega
      have f : (v' - v) * h ≤ (v' - v) * 100 := Nat.mul_le_mul_left _ hh
      omega
    · rw [if_neg d]
      have a := mul_div_le (x := r - v) hh
      have b := mul_div_le (x := v' - r) hh
      omega
  · rw [if_neg c, if_neg (show ¬ v' < r by omega)]
    have e : (v' - r) * h = (v - r) * h + (v' - v) * h := by rw [← Nat.add_mul]; congr 1; omega
    have f : (v' - v) * h ≤ (v' - v) * 100 := Nat.mul_le_mul_left _ hh
    have a := mul_div_le (x := v - r) hh
    have b := mul_div_le (x := v' - r) hh
    omega
theorem nrs_shift (r : Nat) (hp : Nat → Nat) (v b n : Nat) : nrs r hp v b (n + 1) = nrs r hp (near r v (hp b)) (b + 1) n := by
  induction n with
  | zero => rfl
  | succ n ih =>
    show near r (nrs r hp v b (n + 1)) (hp (b + (n + 1))) = near r (nrs r hp (near r v (hp b)) (b + 1) n) (hp (b + 1 + n))
    rw [ih, show b + (n + 1) = b + 1 + n by omega]
theorem nrs_mono {r : Nat} {hp : Nat → Nat} (hh : ∀ m, hp m ≤ 100) {v v' : Nat} (hv : v ≤ v') (b n : Nat) : nrs r hp v b n ≤ nrs r hp v' b n := by
  induction n with
  | zero => exact hv
  | succ n ih => exact near_mono (hh _) ih
def lv (w : bw) (t m b : Nat) : Nat := LV w t b (m - b)
theorem cop_shift (w : bw) (b n : Nat) : cop w (b + 1) n ≤ cop w b (n + 1) := by
  induction n with
  | zero => exact Nat.zero_le _
  | succ n ih =>
    show cop w (b + 1) n + (if wop w (b + 1 + n) then 1 else 0) ≤ cop w b (n + 1) + (if wop w (b + (n + 1)) then 1 else 0)
    rw [show b + 1 + n = b + (n + 1) by omega]
    exact Nat.add_le_add_right ih _
theorem lv_step {w : bw} (hf : wF w) {t m : Nat} (ht : t < w 0 0) : (∀ b, b < m → lv w t m b ≤ lv w t m (b + 1)) ∨ (∀ b, b < m → lv w t m (b + 1) ≤ lv w t m b) := by
  have h3 := (hf.2.2.2.1 t ht).2.2.1
  have tw : ∀ hp : Nat → Nat, (∀ x, hp x ≤ 100) → (∀ b, b < m → nrs (w 0 1) hp (w 2 t) b (m - b) ≤ nrs (w 0 1) hp (w 2 t) (b + 1) (m - (b + 1))) ∨ (∀ b, b < m → nrs (w 0 1) hp (w 2 t) (b + 1) (m - (b + 1)) ≤ nrs (w 0 1) hp (w 2 t) b (m - b)) := fun hp hh => by
    by_cases c : w 2 t < w 0 1
    · right
      intro b hb
      rw [show m - b = (m - (b + 1)) + 1 by omega, nrs_shift]
      refine nrs_mono hh ?_ _ _
      unfold near
      rw [if_pos c]
      exact Nat.le_add_right _ _
    · left
      intro b hb
      rw [show m - b = (m - (b + 1)) + 1 by omega, nrs_shift]
      refine nrs_mono hh ?_ _ _
      unfold near
      rw [if_neg c]
      exact Nat.sub_le _ _
  unfold lv LV
  by_cases c0 : w 1 t = 0
  · simp only [if_pos c0]
    exact Or.inl (fun b hb => Nat.sub_le_sub_left (Nat.mul_le_mul_left _ (by omega)) _)
  simp only [if_neg c0]
  by_cases c1 : w 1 t = 1
  · simp only [if_pos c1]
    exact tw _ (fun _ => by omega)
  simp only [if_neg c1]
  by_cases c2 : w 1 t = 2
  · simp only [if_pos c2]
    exact Or.inl (fun b hb => Nat.sub_le_sub_left (Nat.mul_le_mul_left _ (by omega)) _)
  simp only [if_neg c2]
  by_cases c3 : w 1 t = 3
  · simp only [if_pos c3]
    refine Or.inl (fun b hb => Nat.sub_le_sub_left (Nat.mul_le_mul_left _ ?_) _)
    rw [show m - b = (m - (b + 1)) + 1 by omega]
    exact cop_shift w b _
  simp only [if_neg c3]
  by_cases c4 : w 1 t = 4
  · simp only [if_pos c4]
    exact tw _ (fun x => Nat.le_trans (wHp_le h3 x).1 (wHp_le h3 x).2)
  simp only [if_neg c4]
  exact Or.inl (fun b hb => Nat.le_refl _)
theorem up_of {f : Nat → Nat} {m : Nat} (h : ∀ b, b < m → f b ≤ f (b + 1)) (b d : Nat) (hd : b + d ≤ m) : f b ≤ f (b + d) := by
  induction d with
  | zero => exact Nat.le_refl _
  | succ d ih => exact Nat.le_trans (ih (by omega)) (h (b + d) (by omega))
theorem down_of {f : Nat → Nat} {m : Nat} (h : ∀ b, b < m → f (b + 1) ≤ f b) (b d : Nat) (hd : b + d ≤ m) : f (b + d) ≤ f b := by
  induction d with
  | zero => exact Nat.le_refl _
  | succ d ih => exact Nat.le_trans (h (b + d) (by omega)) (ih (by omega))
theorem lv_between {w : bw} (hf : wF w) {t m : Nat} (ht : t < w 0 0) {b c i : Nat} (h1 : b ≤ c) (h2 : c ≤ i) (h3 : i ≤ m) (e : lv w t m b = lv w t m i) : lv w t m c = lv w t m i := by
  rcases lv_step hf (m := m) ht with h | h
  · have a := up_of h b (c - b) (by omega)
    have d := up_of h c (i - c) (by omega)
    rw [show b + (c - b) = c by omega] at a
    rw [show c + (i - c) = i by omega] at d
    omega
  · have a := down_of h b (c - b) (by omega)
    have d := down_of h c (i - c) (by omega)
    rw [show b + (c - b) = c by omega] at a
    rw [show c + (i - c) = i by omega] at d
    omega
theorem cnt0 {P : Nat → Bool} {n : Nat} (h : ∀ k, k < n → P k = false) : cnt P n = 0 := by
  induction n with
  | zero => rfl
  | succ n ih => show cnt P n + _ = 0; rw [ih (fun k hk => h k (by omega)), h n (by omega)]; rfl
def cq (w : bw) (t m i x : Nat) : Nat := cnt (fun b => mP w t b && decide (lv w t m b = x)) i
theorem cq_s (w : bw) (t m i x : Nat) : cq w t m (i + 1) x = cq w t m i x + if (mP w t i && decide (lv w t m i = x)) = true then 1 else 0 := rfl
theorem cq_le (w : bw) (t m i x : Nat) : cq w t m i x ≤ i := cnt_le _ _
def mN (w : bw) (t m : Nat) : Nat → Nat
  | 0 => 0
  | i + 1 => if mP w t i = true then (if mN w t m i < cq w t m (i + 1) (lv w t m i) then cq w t m (i + 1) (lv w t m i) else mN w t m i) else mN w t m i
theorem mN_le (w : bw) (t m i : Nat) : mN w t m i ≤ i := by
  induction i with
  | zero => exact Nat.le_refl _
  | succ i ih =>
    have := cq_le w t m (i + 1) (lv w t m i)
    unfold mN
    split
    · split <;> omega
    · omega
def mnv (w : bw) (t m : Nat) : Nat := mN w t m (m + 1)
def nrw (w : bw) (t m : Nat) : Int32 := if mnv w t m = 0 then -9 else nI (mnv w t m)
theorem mP_pos {w : bw} (hf : wF w) (t b : Nat) : (lN (ZwC w (wg (g0 w)) t b) ≤ (0 : Int64)) ↔ ¬ mP w t b = true := by
  have hz := ZwC_le hf (g0 w) t b
  rw [← Int64.not_lt]
  refine not_congr ((pk_lLT (a := 0) (by omega) (by omega)).trans ?_)
  unfold mP; simp
theorem px_alike {S : bd_T} {w : bw} (hf : wF w) {t m : Nat} (ht : t < w 0 0) (hm : m ≤ 299) (hr : ∀ b, b < 300 → bd_J S 0 (300 * t + b) = lN (ZwC w (wg (g0 w)) t b)) (h4 : ∀ b, b ≤ m → bd_A S 4 b = nI (LV w t b (m - b))) : bd_lp bd_K (fun q => fb_X9_mostAlike_44 (nI t) (nI m) q.1 q.2.1 q.2.2.1 q.2.2.2.1 q.2.2.2.2) ((0 : Int32), (0 : Int32), (-1 : Int32), (0 : Int32), S) = some (nI (mnv w t m), S) := by
  have h66 := hf.1.1
  obtain ⟨r, e, hr⟩ := pz_loop (F := fun q => fb_X9_mostAlike_44 (nI t) (nI m) q.1 q.2.1 q.2.2.1 q.2.2.2.1 q.2.2.2.2) (fun i s => s.1 = nI (mN w t m i) ∧ s.2.2.2.1 = nI i ∧ s.2.2.2.2 = S ∧ ((∃ b, b < i ∧ mP w t b = true ∧ (∀ j, b < j → j < i → mP w t j = false) ∧ s.2.2.1 = nI (lv w t m b) ∧ s.2.1 = nI (cq w t m i (lv w t m b))) ∨ ((∀ j, j < i → mP w t j = false) ∧ s.2.2.1 = -1 ∧ s.2.1 = 0))) (fun r => r = (nI (mnv w t m), S)) (m + 1) (fun i s hi hs => by
      obtain ⟨q1, q2, q3, q4⟩ := hs
      obtain ⟨s1, s2, s3, s4, s5⟩ := s
      dsimp only at q1 q2 q3 q4 ⊢
      subst q1 q2 q3
      left
      have hmn := mN_le w t m i
      have hcq := cq_le w t m (i + 1) (lv w t m i)
      have hv : lv w t m i ≤ 9999 := LV_le hf ht _ _
      unfold fb_X9_mostAlike_44
      rw [if_neg (show ¬ nI m < nI i from nI_nlt (by omega) (by omega)), px_value (show t < 6 by omega) (show i < 300 by omega), pz_b2, hr i (by omega)]
      by_cases c : mP w t i = true
      · have eN : mN w t m (i + 1) = if mN w t m i < cq w t m (i + 1) (lv w t m i) then cq w t m (i + 1) (lv w t m i) else mN w t m i := if_pos c
        have eC : cq w t m (i + 1) (lv w t m i) = cq w t m i (lv w t m i) + 1 := by
          rw [cq_s, if_pos (by rw [c]; simp)]
        rw [if_neg (fun z => (mP_pos hf t i).mp z c), pz_at (k := 4) (show i < 300 by omega) (by decide), pz_b2, h4 i (by omega), show LV w t i (m - i) = lv w t m i from rfl]
        have last : ∀ x : Int32, x = nI (cq w t m (i + 1) (lv w t m i)) → ∃ s', (some (.inl ((if nI (mN w t m i) < x then x else nI (mN w t m i)), x, nI (lv w t m i), nI i + 1, s5)) : Option ((Int32 × Int32 × Int32 × Int32 × bd_T) ⊕ (Int32 × bd_T))) = some (.inl s') ∧ s'.1 = nI (mN w t m (i + 1)) ∧ s'.2.2.2.1 = nI (i + 1) ∧ s'.2.2.2.2 = s5 ∧ ((∃ b, b < i + 1 ∧ mP w t b = true ∧ (∀ j, b < j → j < i + 1 → mP w t j = false) ∧ s'.2.2.1 = nI (lv w t m b) ∧ s'.2.1 = nI (cq w t m (i + 1) (lv w t m b))) ∨ ((∀ j, j < i + 1 → mP w t j = false) ∧ s'.2.2.1 = -1 ∧ s'.2.1 = 0)) := fun x hx => by
          subst hx
          refine ⟨_, rfl, ?_, nI_1 i, rfl, Or.inl ⟨i, by omega, c, fun j h1 h2 => by omega, rfl, rfl⟩⟩
          dsimp only
          rw [eN]
          by_cases d : mN w t m i < cq w t m (i + 1) (lv w t m i)
          · rw [if_pos d, if_pos (nI_lt d (by omega))]
          · rw [if_neg d, if_neg (nI_nlt (by omega) (by omega))]
        rcases q4 with ⟨b, b1, b2, b3, rfl, rfl⟩ | ⟨b1, rfl, rfl⟩
        · have hvb : lv w t m b ≤ 9999 := LV_le hf ht _ _
          by_cases d : lv w t m i = lv w t m b
          · rw [if_pos (by rw [d]), pz_b1, pz_b1, nI_1]
            have := last (nI (cq w t m i (lv w t m b) + 1)) (by rw [eC, d])
            exact this
          · rw [if_neg (fun z => d ((nI_eq (by omega) (by omega)).mp z)), pz_b1]
            have z0 : cq w t m i (lv w t m i) = 0 := cnt0 (fun j hj => by
              by_cases y : mP w t j = true
              · have y2 : lv w t m j ≠ lv w t m i := fun y2 => by
                  have jb : j ≤ b := by
                    rcases Nat.lt_or_ge b j with k | k
                    · rw [b3 j k hj] at y; cases y
                    · exact k
                  exact d (lv_between hf ht jb (Nat.le_of_lt b1) (show i ≤ m by omega) y2).symm
                rw [decide_eq_false y2, Bool.and_false]
              · rw [show mP w t j = false by simpa using y, Bool.false_and])
            have := last 1 (by rw [eC, z0]; rfl)
            exact this
        · rw [if_neg (show ¬ nI (lv w t m i) = (-1 : Int32) from fun z => npos0 (n := lv w t m i) (by omega) (by rw [z]; decide)), pz_b1]
          have z0 : cq w t m i (lv w t m i) = 0 := cnt0 (fun j hj => by rw [b1 j hj, Bool.false_and])
          have := last 1 (by rw [eC, z0]; rfl)
          exact this
      · have c' : mP w t i = false := by simpa using c
        have eN : mN w t m (i + 1) = mN w t m i := if_neg c
        rw [if_pos ((mP_pos hf t i).mpr c)]
        refine ⟨_, rfl, by rw [eN], nI_1 i, rfl, ?_⟩
        rcases q4 with ⟨b, b1, b2, b3, b4, b5⟩ | ⟨b1, b2, b3⟩
        · refine Or.inl ⟨b, by omega, b2, fun j h1 h2 => ?_, b4, ?_⟩
          · by_cases z : j = i
            · rw [z]; exact c'
            · exact b3 j h1 (by omega)
          · dsimp only
            rw [b5, cq_s, c']; rfl
        · refine Or.inr ⟨fun j hj => ?_, b2, b3⟩
          by_cases z : j = i
          · rw [z]; exact c'
          · exact b1 j (by omega)) (fun s hs => by
      obtain ⟨q1, q2, q3, q4⟩ := hs
      obtain ⟨s1, s2, s3, s4, s5⟩ := s
      dsimp only at q1 q2 q3 q4 ⊢
      subst q1 q2 q3
      unfold fb_X9_mostAlike_44
      rw [if_pos (show nI m < nI (m + 1) from nI_lt (by omega) (by omega))]
      exact ⟨_, rfl, rfl⟩) (s0 := ((0 : Int32), (0 : Int32), (-1 : Int32), (0 : Int32), S)) ⟨rfl, rfl, rfl, Or.inr ⟨fun j hj => by omega, rfl, rfl⟩⟩ bd_K (by rw [pz_K]; omega)
  rw [e, hr]
theorem mnv_le {w : bw} {t m : Nat} (hm : m ≤ 299) : mnv w t m ≤ 300 := Nat.le_trans (mN_le w t m (m + 1)) (by omega)
theorem px_mostAlike {S : bd_T} {w : bw} (hw : wX S w) (hf : wF w) (hl : lX S w) (hp : preC S) {t m : Nat} (ht : t < w 0 0) (hm : m ≤ 299) : ∃ S', f_X9_mostAlike (nI t) (nI m) S = some (nrw w t m, S') ∧ preC S' ∧ kp S S' [16] [4, 10] [0, 1] := by
  unfold f_X9_mostAlike
  obtain ⟨S1, e1, r1, k1⟩ := px_setCounts hw hf hl (x1 := -1) (P := fun _ => false) (no_thing hf)
  have hw1 := wX_kp k1 (by decide) (by decide) hw
  obtain ⟨S2, e2, r2, p2, k2⟩ := px_gather_C hw1 hf ht (preC_kp k1 (by decide) hp) r1
  have hw2 := wX_kp k2 (by decide) (by decide) hw1
  obtain ⟨S3, e3, r3, k3⟩ := px_fill hw2 hf ht hm
  have r2' : ∀ b, b < 300 → bd_J S3 0 (300 * t + b) = lN (ZwC w (wg (g0 w)) t b) := fun b hb => by
    rw [k3.2.2 0 (by decide)]; exact r2 b hb
  rw [e1, pz_b2, e2, pz_b2, e3, pz_b2, px_alike hf ht hm r2' r3, pz_some]
  dsimp only
  have hle := mnv_le (w := w) (t := t) hm
  have hq : (nI (mnv w t m) ≤ (0 : Int32)) ↔ mnv w t m = 0 := by
    have : (nI (mnv w t m) ≤ nI 0) ↔ mnv w t m ≤ 0 := nI_leI (by omega) (by omega)
    exact this.trans (by omega)
  refine ⟨S3, ?_, preC_kp k3 (by decide) p2, (k1.mono (by decide) (by decide) (by decide)).trans ((k2.mono (by decide) (by decide) (by decide)).trans (k3.mono (by decide) (by decide) (by decide)))⟩
  unfold nrw
  by_cases c : mnv w t m = 0
  · rw [if_pos (hq.mpr c), if_pos c]
  · rw [if_neg (fun z => c (hq.mp z)), if_neg c]
theorem pm_narrowOf {M : bd_T} {w : bw} (hw : wM M w) (hf : wF w) (hc : cM' M w) {t m : Nat} (ht : t < w 0 0) (hm : m ≤ 299) : ∃ M', f_X10_narrowOf (nI t) (nI m) M = some (nrw w t m, M') ∧ lM M' w ∧ kp M M' [7, 9] [15, 16, 18, 20, 21] [0, 1] := by
  have h66 := hf.1.1
  unfold f_X10_narrowOf
  obtain ⟨M1, e1, l1, k1, r1⟩ := pm_findMay hw hf hc ht
  rw [e1, pz_b2]
  obtain ⟨M2, e2, k2, r2⟩ := pz_loop (F := fun q => fb_X10_narrowOf_7 (nI t) (nI m) q.1 q.2) (fun i s => s.1 = nI i ∧ kp M1 s.2 [] [18] [] ∧ ∀ x, x < i → bd_A s.2 18 x = 0) (fun r => kp M1 r [] [18] [] ∧ ∀ x, x < 10000 → bd_A r 18 x = 0) 10000 (fun i s hi hs => by
      obtain ⟨q1, q2, q3⟩ := hs
      obtain ⟨s1, s2⟩ := s
      dsimp only at q1 q2 q3 ⊢
      subst q1
      left
      unfold fb_X10_narrowOf_7
      rw [if_neg (show ¬ (10000 : Int32) ≤ nI i from nI_ge (b := 10000) hi (by omega)), pz_sa hi (by decide), pz_some, nI_1]
      refine ⟨_, rfl, rfl, q2.trans (kp_pA _ _ _ _), fun x hx => ?_⟩
      show upd (bd_A s2 18) i 0 x = 0
      rw [pz_up]
      by_cases z : x = i
      · rw [if_pos z]
      · rw [if_neg z]; exact q3 x (by omega)) (fun s hs => by
      obtain ⟨q1, q2, q3⟩ := hs
      obtain ⟨s1, s2⟩ := s
      dsimp only at q1 q2 q3 ⊢
      subst q1
      unfold fb_X10_narrowOf_7
      rw [if_pos (show (10000 : Int32) ≤ nI 10000 from Int32.le_refl _)]
      exact ⟨_, rfl, q2, q3⟩) (s0 := ((0 : Int32), M1)) ⟨rfl, kp.rfl', fun x hx => by omega⟩ bd_K (by rw [pz_K]; omega)
  rw [e2, pz_some]
  have kM2 : kp M M2 [7, 9] [15, 16, 18, 20, 21] [0, 1] := (k1.mono (by decide) (by decide) (by decide)).trans (k2.mono (by decide) (by decide) (by decide))
  obtain ⟨r, e3, hr, k3⟩ := pz_loop (F := fun q => fb_X10_narrowOf_33 (nI t) (nI m) q.1 q.2.1 q.2.2) (fun i s => s.1 = (if mN w t m i = 0 then -9 else nI (mN w t m i)) ∧ s.2.1 = nI i ∧ kp M2 s.2.2 [] [18] [] ∧ ∀ x, x < 10000 → bd_A s.2.2 18 x = nI (cq w t m i x)) (fun r => r.1 = nrw w t m ∧ kp M2 r.2 [] [18] []) (m + 1) (fun i s hi hs => by
      obtain ⟨q1, q2, q3, q4⟩ := hs
      obtain ⟨s1, s2, s3⟩ := s
      dsimp only at q1 q2 q3 q4 ⊢
      subst q1 q2
      left
      have hmn := mN_le w t m i
      have hcq := cq_le w t m (i + 1) (lv w t m i)
      have hv : lv w t m i ≤ 9999 := LV_le hf ht _ _
      have hw3 : wM s3 w := wM_kp q3 (by decide) (by decide) (wM_kp kM2 (by decide) (by decide) hw)
      have e21 : bd_A s3 21 i = if mP w t i = true then 1 else 0 := by
        rw [q3.2.1 21 (by decide), k2.2.1 21 (by decide), r1 i (by omega)]
        unfold mP
        by_cases z : 0 < ZwC w (wg (g0 w)) t i
        · rw [if_pos z, if_pos (decide_eq_true z)]
        · rw [if_neg z, if_neg (by simpa using z)]
      unfold fb_X10_narrowOf_33
      rw [if_neg (show ¬ nI m < nI i from nI_nlt (by omega) (by omega)), pz_ga (show i < 300 by omega) (by decide), pz_some, e21]
      by_cases c : mP w t i = true
      · have eN : mN w t m (i + 1) = if mN w t m i < cq w t m (i + 1) (lv w t m i) then cq w t m (i + 1) (lv w t m i) else mN w t m i := if_pos c
        have eC : cq w t m (i + 1) (lv w t m i) = cq w t m i (lv w t m i) + 1 := by
          rw [cq_s, if_pos (by rw [c]; simp)]
        rw [if_pos c, if_neg (show ¬ (1 : Int32) = 0 by decide), show nI m - nI i = nI (m - i) from pk_sub (by omega), pm_left hw3 hf ht (by omega) (by omega), pz_b2, show LV w t i (m - i) = lv w t m i from rfl, pz_ga (show lv w t m i < 10000 by omega) (by decide), pz_some, pz_sa (show lv w t m i < 10000 by omega) (by decide), pz_some, pz_ga (show lv w t m i < 10000 by omega) (by decide), pz_some, pz_some]
        have e18 : bd_A (bd_pA s3 18 (lv w t m i) (bd_A s3 18 (lv w t m i) + 1)) 18 (lv w t m i) = nI (cq w t m (i + 1) (lv w t m i)) := by
          show upd (bd_A s3 18) (lv w t m i) _ (lv w t m i) = _
          rw [pz_up, if_pos rfl, q4 _ (by omega), nI_1, eC]
        have all : ∀ x, x < 10000 → bd_A (bd_pA s3 18 (lv w t m i) (bd_A s3 18 (lv w t m i) + 1)) 18 x = nI (cq w t m (i + 1) x) := fun x hx => by
          by_cases z : x = lv w t m i
          · rw [z]; exact e18
          · show upd (bd_A s3 18) (lv w t m i) _ x = _
            rw [pz_up, if_neg z, q4 x hx, cq_s, if_neg (by rw [decide_eq_false (fun y => z y.symm), Bool.and_false]; decide), Nat.add_zero]
        have K : kp M2 (bd_pA s3 18 (lv w t m i) (bd_A s3 18 (lv w t m i) + 1)) [] [18] [] := q3.trans (kp_pA _ _ _ _)
        rw [e18]
        by_cases d : mN w t m i < cq w t m (i + 1) (lv w t m i)
        · rw [if_pos d] at eN
          have g : ¬ nI (cq w t m (i + 1) (lv w t m i)) ≤ (if mN w t m i = 0 then (-9 : Int32) else nI (mN w t m i)) := by
            by_cases y : mN w t m i = 0
            · rw [if_pos y]
              exact fun z => npos0 (n := cq w t m (i + 1) (lv w t m i)) (by omega) (Int32.lt_of_le_of_lt z (by decide))
            · rw [if_neg y]; exact nI_ge d (by omega)
          rw [if_neg g]
          exact ⟨_, rfl, by rw [eN, if_neg (by omega)], nI_1 i, K, all⟩
        · rw [if_neg d] at eN
          have y : ¬ mN w t m i = 0 := by omega
          have g : nI (cq w t m (i + 1) (lv w t m i)) ≤ (if mN w t m i = 0 then (-9 : Int32) else nI (mN w t m i)) := by
            rw [if_neg y]; exact nI_le (by omega) (by omega)
          rw [if_pos g]
          exact ⟨_, rfl, by rw [eN], nI_1 i, K, all⟩
      · have c' : mP w t i = false := by simpa using c
        have eN : mN w t m (i + 1) = mN w t m i := if_neg c
        rw [if_neg c, if_pos (show (0 : Int32) = 0 from rfl)]
        refine ⟨_, rfl, by rw [eN], nI_1 i, q3, fun x hx => ?_⟩
        dsimp only
        rw [q4 x hx, cq_s, c']; rfl) (fun s hs => by
      obtain ⟨q1, q2, q3, q4⟩ := hs
      obtain ⟨s1, s2, s3⟩ := s
      dsimp only at q1 q2 q3 q4 ⊢
      subst q1 q2
      unfold fb_X10_narrowOf_33
      rw [if_pos (show nI m < nI (m + 1) from nI_lt (by omega) (by omega))]
      exact ⟨_, rfl, rfl, q3⟩) (s0 := ((-9 : Int32), (0 : Int32), M2)) ⟨rfl, rfl, kp.rfl', fun x hx => by rw [r2 x hx]; rfl⟩ bd_K (by rw [pz_K]; omega)
  obtain ⟨x, M3⟩ := r
  dsimp only at hr k3
  subst hr
  dsimp only
  rw [e3, pz_some]
  exact ⟨M3, rfl, lM_kp k3 (by decide) (lM_kp k2 (by decide) l1), kM2.trans (k3.mono (by decide) (by decide) (by decide))⟩
theorem r_narrow : rel_narrow RR := by
  intro x y S M h
  unfold f_X9_narrow f_X10_narrow
  rcases RR_isThing h x with ⟨e1, e2⟩ | ⟨w, t, hw, ht, rfl, e1, e2⟩
  · rw [e1, e2, pz_b2, pz_b2, if_pos rfl, if_pos rfl]
    exact RR_no' h (n := 0) (x := -1) rfl (by omega)
  · rw [e1, e2, pz_b2, pz_b2, if_neg (show ¬ (1 : Int32) = 0 by decide), if_neg (show ¬ (1 : Int32) = 0 by decide)]
    rcases RR_minute y S M with ⟨z, n, hn, hz, f1, f2⟩ | ⟨m, hm, rfl, f1, f2⟩
    · obtain ⟨z1, z2⟩ := refuse_neg hn hz
      rw [f1, f2, pz_b2, pz_b2, if_neg z1, if_neg z2]
      exact RR_no' h hz hn
    · obtain ⟨hf, hX, hM, hc, hmm, hpre⟩ := id hw
      rw [f1, f2, pz_b2, pz_b2, if_pos (show (0 : Int32) ≤ 0 by decide), if_pos (show (0 : Int32) = 0 from rfl)]
      obtain ⟨S1, g1, l1, k1⟩ := px_learn hX hf hc
      obtain ⟨S2, g2, p2, k2⟩ := px_mostAlike (wX_kp k1 (by decide) (by decide) hX) hf l1 (preC_kp k1 (by decide) hpre) ht (m := m) (by omega)
      obtain ⟨M1, j1, n1, i1⟩ := pm_narrowOf hM hf hmm ht (m := m) (by omega)
      rw [g1, pz_b2, g2, pz_b2, j1, pz_b2]
      exact ⟨_, S2, M1, rfl, rfl, RR_calc h.1 hw ((k1.mono (by decide) (by decide) (by decide)).trans (k2.mono (by decide) (by decide) (by decide))) i1 (cX'_kp k2 (by decide) (cX'_lX l1)) (Or.inr n1) p2⟩
def nx (w : bw) (m : Nat) : Nat → Nat × Int32
  | 0 => (301, -9)
  | i + 1 => if mnv w i m = 0 then nx w m i else if mnv w i m < (nx w m i).1 then (mnv w i m, nI i) else nx w m i
theorem nx_s (w : bw) (m i : Nat) : nx w m (i + 1) = if mnv w i m = 0 then nx w m i else if mnv w i m < (nx w m i).1 then (mnv w i m, nI i) else nx w m i := rfl
theorem nx_inv (w : bw) {m : Nat} (hm : m ≤ 299) (i : Nat) : ((nx w m i).1 = 301 ∧ (nx w m i).2 = -9) ∨ ((nx w m i).1 ≤ 300 ∧ ∃ j, j < i ∧ (nx w m i).2 = nI j) := by
  induction i with
  | zero => exact Or.inl ⟨rfl, rfl⟩
  | succ i ih =>
    have keep : ((nx w m i).1 = 301 ∧ (nx w m i).2 = -9) ∨ ((nx w m i).1 ≤ 300 ∧ ∃ j, j < i + 1 ∧ (nx w m i).2 = nI j) := by
      rcases ih with a | ⟨a, j, hj, e⟩
      · exact Or.inl a
      · exact Or.inr ⟨a, j, by omega, e⟩
    rw [nx_s]
    split
    · exact keep
    · split
      · exact Or.inr ⟨mnv_le hm, i, by omega, rfl⟩
      · exact keep
theorem r_next : rel_next RR := by
  intro y S M h
  unfold f_X9_next f_X10_next
  rcases RR_minute y S M with ⟨z, n, hn, hz, f1, f2⟩ | ⟨m, hm, rfl, f1, f2⟩
  · obtain ⟨z1, z2⟩ := refuse_neg hn hz
    rw [f1, f2, pz_b2, pz_b2, if_neg z1, if_neg z2]
    exact RR_no' h hz hn
  · obtain ⟨hp, w, hw⟩ := id h
    obtain ⟨hf, hX, hM, hc, hmm, hpre⟩ := id hw
    have h66 := hf.1.1
    rw [f1, f2, pz_b2, pz_b2, if_pos (show (0 : Int32) ≤ 0 by decide), if_pos (show (0 : Int32) = 0 from rfl)]
    obtain ⟨S1, g1, l1, k1⟩ := px_learn hX hf hc
    have hX1 := wX_kp k1 (by decide) (by decide) hX
    have nr : ∀ i, nrw w i m = -9 ↔ mnv w i m = 0 := fun i => by
      unfold nrw
      by_cases c : mnv w i m = 0
      · rw [if_pos c]; exact ⟨fun _ => c, fun _ => rfl⟩
      · rw [if_neg c]
        exact ⟨fun z => absurd (show nI (mnv w i m) < 0 by rw [z]; decide) (npos0 (by have := mnv_le (w := w) (t := i) (m := m) (by omega); omega)), fun z => absurd z c⟩
    have nv : ∀ i, mnv w i m ≠ 0 → nrw w i m = nI (mnv w i m) := fun i c => if_neg c
    have n1 : ∀ i, (nx w m i).1 ≤ 301 := fun i => by rcases nx_inv w (m := m) (by omega) i with a | a <;> omega
    obtain ⟨⟨x, S2⟩, e2, q2, p2, k2⟩ := pz_loop (F := fun q => fb_X9_next_37 (nI m) q.1 q.2.1 q.2.2.1 q.2.2.2) (fun i s => ∃ S', s = (nI (nx w m i).1, (nx w m i).2, nI i, S') ∧ preC S' ∧ kp S1 S' [16] [4, 10] [0, 1]) (fun r => r.1 = (nx w m (w 0 0)).2 ∧ preC r.2 ∧ kp S1 r.2 [16] [4, 10] [0, 1]) (w 0 0) (fun i s hi hs => by
      obtain ⟨S', rfl, a1, a2⟩ := hs
      dsimp only
      have hX2 := wX_kp a2 (by decide) (by decide) hX1
      obtain ⟨S3, e3, p3, k3⟩ := px_mostAlike hX2 hf (lX_kp a2 (by decide) l1) a1 hi (m := m) (by omega)
      left
      unfold fb_X9_next_37
      rw [show bd_I S' 17 = nI (w 0 0) from hX2.2.2.2.1, if_neg (nI_ge hi (by omega)), e3, pz_b2, nI_1, nx_s]
      by_cases c : mnv w i m = 0
      · rw [if_pos ((nr i).mpr c), if_pos c]
        exact ⟨_, rfl, S3, rfl, p3, a2.trans k3⟩
      · have hle := mnv_le (w := w) (t := i) (m := m) (by omega)
        have hn := n1 i
        rw [if_neg (fun z => c ((nr i).mp z)), if_neg c, nv i c]
        by_cases d : mnv w i m < (nx w m i).1
        · rw [if_neg (nI_ge d (by omega)), if_pos d]
          exact ⟨_, rfl, S3, rfl, p3, a2.trans k3⟩
        · rw [if_pos (nI_le (by omega) (by omega)), if_neg d]
          exact ⟨_, rfl, S3, rfl, p3, a2.trans k3⟩) (fun s hs => by
      obtain ⟨S', rfl, a1, a2⟩ := hs
      dsimp only
      have hX2 := wX_kp a2 (by decide) (by decide) hX1
      unfold fb_X9_next_37
      rw [show bd_I S' 17 = nI (w 0 0) from hX2.2.2.2.1, if_pos (Int32.le_refl _)]
      exact ⟨_, rfl, rfl, a1, a2⟩) (s0 := ((301 : Int32), (-9 : Int32), (0 : Int32), S1)) ⟨S1, rfl, preC_kp k1 (by decide) hpre, kp.rfl'⟩ bd_K (by rw [pz_K]; omega)
    obtain ⟨⟨x', M2⟩, e2', q2', c2, j2⟩ := pz_loop (F := fun q => fb_X10_next_28 (nI m) q.1 q.2.1 q.2.2.1 q.2.2.2) (fun i s => ∃ M', s = ((nx w m i).2, (if (nx w m i).1 = 301 then 0 else nI (nx w m i).1), nI i, M') ∧ cM' M' w ∧ kp M M' [7, 9] [15, 16, 18, 20, 21] [0, 1]) (fun r => r.1 = (nx w m (w 0 0)).2 ∧ cM' r.2 w ∧ kp M r.2 [7, 9] [15, 16, 18, 20, 21] [0, 1]) (w 0 0) (fun i s hi hs => by
      obtain ⟨M', rfl, a1, a2⟩ := hs
      dsimp only
      have hM2 := wM_kp a2 (by decide) (by decide) hM
      obtain ⟨M3, e3, l3, k3⟩ := pm_narrowOf hM2 hf a1 hi (m := m) (by omega)
      left
      unfold fb_X10_next_28
      rw [show bd_I M' 2 = nI (w 0 0) from hM2.2.2.2.1, if_neg (nI_ge hi (by omega)), e3, pz_b2, nI_1, nx_s]
      by_cases c : mnv w i m = 0
      · rw [if_pos ((nr i).mpr c), if_pos c]
        exact ⟨_, rfl, M3, rfl, Or.inr l3, a2.trans k3⟩
      · have hle := mnv_le (w := w) (t := i) (m := m) (by omega)
        rw [if_neg (fun z => c ((nr i).mp z)), if_neg c, nv i c]
        rcases nx_inv w (m := m) (by omega) i with ⟨b1, b2⟩ | ⟨b1, j, b2, b3⟩
        · rw [b2, if_pos (show (-9 : Int32) < 0 by decide), if_pos (show mnv w i m < (nx w m i).1 by omega)]
          exact ⟨_, rfl, M3, by dsimp only; rw [if_neg (by omega)], Or.inr l3, a2.trans k3⟩
        · rw [if_neg (show ¬ (nx w m i).2 < 0 by rw [b3]; exact npos0 (by omega)), if_neg (show ¬ (nx w m i).1 = 301 by omega)]
          by_cases d : mnv w i m < (nx w m i).1
          · rw [if_pos (nI_lt d (by omega)), if_pos d]
            exact ⟨_, rfl, M3, by dsimp only; rw [if_neg (by omega)], Or.inr l3, a2.trans k3⟩
          · rw [if_neg (nI_nlt (by omega) (by omega)), if_neg d]
            exact ⟨_, rfl, M3, by rw [if_neg (by omega)], Or.inr l3, a2.trans k3⟩) (fun s hs => by
      obtain ⟨M', rfl, a1, a2⟩ := hs
      dsimp only
      have hM2 := wM_kp a2 (by decide) (by decide) hM
      unfold fb_X10_next_28
      rw [show bd_I M' 2 = nI (w 0 0) from hM2.2.2.2.1, if_pos (Int32.le_refl _)]
      exact ⟨_, rfl, rfl, a1, a2⟩) (s0 := ((-9 : Int32), (0 : Int32), (0 : Int32), M)) ⟨M, rfl, hmm, kp.rfl'⟩ bd_K (by rw [pz_K]; omega)
    dsimp only at q2 p2 k2 q2' c2 j2
    rw [g1, pz_b2, e2, pz_some, e2', pz_some]
    exact ⟨x, S2, M2, rfl, by rw [q2, q2'], RR_calc hp hw ((k1.mono (by decide) (by decide) (by decide)).trans (k2.mono (by decide) (by decide) (by decide))) j2 (cX'_kp k2 (by decide) (cX'_lX l1)) c2 p2⟩
