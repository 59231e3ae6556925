theorem n300 {j : Nat} (h : j < 300) : ¬ (300 : Int32) ≤ nI j := nI_ge (b := 300) h (by omega)
theorem y300 : (300 : Int32) ≤ nI 300 := Int32.le_refl _
/-- the same, but for some whole fields, rows of ints, rows of longs -/
def kp (S S' : bd_T) (xi xa xj : List Nat) : Prop := (∀ k, k ∉ xi → bd_I S' k = bd_I S k) ∧ (∀ k, k ∉ xa → bd_A S' k = bd_A S k) ∧ ∀ k, k ∉ xj → bd_J S' k = bd_J S k
theorem kp.rfl' {S : bd_T} {xi xa xj : List Nat} : kp S S xi xa xj := ⟨fun _ _ => rfl, fun _ _ => rfl, fun _ _ => rfl⟩
theorem kp.trans {S S' S'' : bd_T} {xi xa xj : List Nat} (h : kp S S' xi xa xj) (h' : kp S' S'' xi xa xj) : kp S S'' xi xa xj := ⟨fun k q => (h'.1 k q).trans (h.1 k q), fun k q => (h'.2.1 k q).trans (h.2.1 k q), fun k q => (h'.2.2 k q).trans (h.2.2 k q)⟩
theorem kp.mono {S S' : bd_T} {xi xa xj yi ya yj : List Nat} (h : kp S S' xi xa xj) (hi : xi.all (fun k => yi.contains k) = true) (ha : xa.all (fun k => ya.contains k) = true) (hj : xj.all (fun k => yj.contains k) = true) : kp S S' yi ya yj := by
  have f : ∀ {x y : List Nat} {k : Nat}, x.all (fun k => y.contains k) = true → k ∉ y → k ∉ x := fun h1 h2 h3 => h2 (by simpa using List.all_eq_true.mp h1 _ h3)
  exact ⟨fun k q => h.1 k (f hi q), fun k q => h.2.1 k (f ha q), fun k q => h.2.2 k (f hj q)⟩
theorem kp_pI (S : bd_T) (k : Nat) (v : Int32) : kp S (bd_pI S k v) [k] [] [] := ⟨fun j h => if_neg (by simpa using h), fun _ _ => rfl, fun _ _ => rfl⟩
theorem kp_pA (S : bd_T) (k i : Nat) (v : Int32) : kp S (bd_pA S k i v) [] [k] [] := ⟨fun _ _ => rfl, fun j h => if_neg (by simpa using h), fun _ _ => rfl⟩
theorem kp_pJ (S : bd_T) (k i : Nat) (v : Int64) : kp S (bd_pJ S k i v) [] [] [k] := ⟨fun _ _ => rfl, fun _ _ => rfl, fun j h => if_neg (by simpa using h)⟩
theorem wX_kp {S S' : bd_T} {w : bw} {xi xa xj : List Nat} (h : kp S S' xi xa xj) (hi : ([2, 3, 4, 5, 17, 18, 19] : List Nat).all (fun k => !xi.contains k) = true) (ha : ([2, 3, 11, 12, 13, 14, 15, 16, 17, 18, 19, 20] : List Nat).all (fun k => !xa.contains k) = true) (hw : wX S w) : wX S' w := by
  have gi : ∀ k, k ∈ ([2, 3, 4, 5, 17, 18, 19] : List Nat) → bd_I S' k = bd_I S k := fun k hk => h.1 k (by simpa using List.all_eq_true.mp hi k hk)
  have ga : ∀ k, k ∈ ([2, 3, 11, 12, 13, 14, 15, 16, 17, 18, 19, 20] : List Nat) → bd_A S' k = bd_A S k := fun k hk => h.2.1 k (by simpa using List.all_eq_true.mp ha k hk)
  unfold wX wXg at *
  rw [show eXI S' 0 = eXI S 0 from gi 2 (by decide), show eXI S' 1 = eXI S 1 from gi 3 (by decide), show eXI S' 2 = eXI S 2 from gi 4 (by decide), show eXI S' 3 = eXI S 3 from gi 5 (by decide), show eXI S' 4 = eXI S 4 from gi 17 (by decide), show eXI S' 5 = eXI S 5 from gi 18 (by decide), show eXI S' 6 = eXI S 6 from gi 19 (by decide), show eXA S' 0 = eXA S 0 from ga 2 (by decide), show eXA S' 1 = eXA S 1 from ga 3 (by decide), show eXA S' 2 = eXA S 2 from ga 11 (by decide), show eXA S' 3 = eXA S 3 from ga 12 (by decide), show eXA S' 4 = eXA S 4 from ga 13 (by decide), show eXA S' 5 = eXA S 5 from ga 14 (by decide), show eXA S' 6 = eXA S 6 from ga 15 (by decide), show eXA S' 7 = eXA S 7 from ga 16 (by decide), show eXA S' 8 = eXA S 8 from ga 17 (by decide), show eXA S' 9 = eXA S 9 from ga 18 (by decide), show eXA S' 10 = eXA S 10 from ga 19 (by decide), show eXA S' 11 = eXA S 11 from ga 20 (by decide)]
  exact hw
theorem wM_kp {M M' : bd_T} {w : bw} {xi xa xj : List Nat} (h : kp M M' xi xa xj) (hi : ([3, 4, 5, 6, 2, 8] : List Nat).all (fun k => !xi.contains k) = true) (ha : ([5, 6, 2, 3, 4, 12, 13, 14, 7, 8, 9, 10, 11] : List Nat).all (fun k => !xa.contains k) = true) (hw : wM M w) : wM M' w := by
  have gi : ∀ k, k ∈ ([3, 4, 5, 6, 2, 8] : List Nat) → bd_I M' k = bd_I M k := fun k hk => h.1 k (by simpa using List.all_eq_true.mp hi k hk)
  have ga : ∀ k, k ∈ ([5, 6, 2, 3, 4, 12, 13, 14, 7, 8, 9, 10, 11] : List Nat) → bd_A M' k = bd_A M k := fun k hk => h.2.1 k (by simpa using List.all_eq_true.mp ha k hk)
  unfold wM wMg at *
  rw [show eMI M' 0 = eMI M 0 from gi 3 (by decide), show eMI M' 1 = eMI M 1 from gi 4 (by decide), show eMI M' 2 = eMI M 2 from gi 5 (by decide), show eMI M' 3 = eMI M 3 from gi 6 (by decide), show eMI M' 4 = eMI M 4 from gi 2 (by decide), show eMI M' 5 = eMI M 5 from gi 8 (by decide), show eMA M' 0 = eMA M 0 from ga 5 (by decide), show eMA M' 1 = eMA M 1 from ga 6 (by decide), show eMA M' 2 = eMA M 2 from ga 2 (by decide), show eMA M' 3 = eMA M 3 from ga 3 (by decide), show eMA M' 4 = eMA M 4 from ga 4 (by decide), show eMA M' 5 = eMA M 5 from ga 12 (by decide), show eMA M' 6 = eMA M 6 from ga 13 (by decide), show eMA M' 7 = eMA M 7 from ga 14 (by decide), show eMA M' 8 = eMA M 8 from ga 7 (by decide), show eMA M' 9 = eMA M 9 from ga 8 (by decide), show eMA M' 10 = eMA M 10 from ga 9 (by decide), show eMA M' 11 = eMA M 11 from ga 10 (by decide), show eMA M' 12 = eMA M 12 from ga 11 (by decide)]
  exact hw
/-! what each LOOK lets stand -/
def lets (w : bw) (k b : Nat) : Bool := decide (b ≤ w 10 k ∧ w 11 k ≤ LV w (w 9 k) b (w 10 k - b) ∧ LV w (w 9 k) b (w 10 k - b) ≤ w 12 k)
def cb (w : bw) (n t b : Nat) : Nat := bsum (fun k => decide (w 9 k = t) && !lets w k b) n
def spk (w : bw) (t b : Nat) : Nat := bsum (fun k => (decide (w 9 k = t) && !lets w k b) && !decide (w 13 k = 1)) (w 0 6)
/-- the reference's: what each LOOK lets stand has been found -/
def lM (M : bd_T) (w : bw) : Prop := bd_I M 7 = 0 ∧ ∀ k b, k < w 0 6 → b < 300 → bd_A M 20 (300 * k + b) = if lets w k b = true then 1 else 0
def cM' (M : bd_T) (w : bw) : Prop := bd_I M 7 = 1 ∨ lM M w
theorem pm_letsBy {M : bd_T} {w : bw} (hw : wM M w) (hf : wF w) {k b : Nat} (hk : k < w 0 6) (hb : b < 300) : f_X10_letsBy (nI k) (nI b) M = some (if lets w k b = true then 1 else 0, M) := by
  obtain ⟨h1, h2, h3, h4, h5⟩ := hf.2.2.2.2 k hk
  obtain ⟨g1, g2, g3, g4, -⟩ := hw.2.2.2.2.2.2.2 k hk
  have g1 : bd_A M 7 k = nI (w 9 k) := g1
  have g2 : bd_A M 8 k = nI (w 10 k) := g2
  have g3 : bd_A M 9 k = nI (w 11 k) := g3
  have g4 : bd_A M 10 k = nI (w 12 k) := g4
  have h10 : k < 10 := Nat.lt_of_lt_of_le hk hf.1.2.2.2.2
  unfold f_X10_letsBy lets
  rw [pz_ga h10 (by decide), pz_some, g2]
  by_cases c1 : b ≤ w 10 k
  · have hle := LV_le hf h1 b (w 10 k - b)
    rw [if_pos (nI_le c1 (by omega)), pz_ga h10 (by decide), pz_some, pz_some, pk_sub c1, g1, pm_left hw hf h1 (by omega) (by omega), pz_b2, pz_ga h10 (by decide), pz_some, g3]
    by_cases c2 : LV w (w 9 k) b (w 10 k - b) < w 11 k
    · rw [if_pos (nI_lt c2 (by omega)), if_neg]
      simp; omega
    · rw [if_neg (nI_nlt (by omega) (by omega)), pz_ga h10 (by decide), pz_some, g4]
      by_cases c3 : w 12 k < LV w (w 9 k) b (w 10 k - b)
      · rw [if_pos (nI_lt c3 (by omega)), if_neg]
        simp; omega
      · rw [if_neg (nI_nlt (by omega) (by omega)), if_pos]
        simp; omega
  · rw [if_neg (nI_ge (by omega) (by omega)), if_neg]
    simp; omega
theorem vp_nar_01 (c : Bool) : vp_nar .boolean (if c = true then 1 else 0) = if c = true then 1 else 0 := by
  cases c <;> rfl
theorem pm_finds {M : bd_T} {w : bw} (hw : wM M w) (hf : wF w) (hc : cM' M w) : ∃ M', f_X10_finds M = some ((), M') ∧ lM M' w ∧ kp M M' [7] [20] [] := by
  unfold f_X10_finds
  have hn := hf.1.2.2.2.2
  rcases hc with hc | hc
  · rw [hc, if_neg (by decide), pz_si]
    have e8 : bd_I M 8 = nI (w 0 6) := hw.2.2.2.2.1
    obtain ⟨r, e, h⟩ := pz_loop (F := fun q => fb_X10_finds_15 q.1 q.2) (fun i s => s.1 = nI i ∧ kp M s.2 [7] [20] [] ∧ bd_I s.2 7 = 0 ∧ ∀ k b, k < i → b < 300 → bd_A s.2 20 (300 * k + b) = if lets w k b = true then 1 else 0) (fun r => kp M r [7] [20] [] ∧ lM r w) (w 0 6) (fun i s hi hs => by
        obtain ⟨h1, h2, h3, h4⟩ := hs
        obtain ⟨s1, s2⟩ := s
        dsimp only at h1 h2 h3 h4 ⊢
        subst h1
        left
        unfold fb_X10_finds_15
        rw [h2.1 8 (by decide), e8, if_neg (nI_ge hi (by omega))]
        obtain ⟨r, e, h⟩ := pz_loop (F := fun q => fb_X10_finds_25 (nI i) q.1 q.2) (fun j s => s.1 = nI j ∧ kp M s.2 [7] [20] [] ∧ bd_I s.2 7 = 0 ∧ (∀ k b, k < i → b < 300 → bd_A s.2 20 (300 * k + b) = if lets w k b = true then 1 else 0) ∧ ∀ b, b < j → bd_A s.2 20 (300 * i + b) = if lets w i b = true then 1 else 0) (fun r => kp M r [7] [20] [] ∧ bd_I r 7 = 0 ∧ ∀ k b, k < i + 1 → b < 300 → bd_A r 20 (300 * k + b) = if lets w k b = true then 1 else 0) 300 (fun j s hj hs => by
            obtain ⟨g1, g2, g3, g4, g5⟩ := hs
            obtain ⟨s1, s2⟩ := s
            dsimp only at g1 g2 g3 g4 g5 ⊢
            subst g1
            left
            unfold fb_X10_finds_25
            have hw2 : wM s2 w := wM_kp g2 (by decide) (by decide) hw
            rw [if_neg (n300 hj), pm_letsBy hw2 hf hi hj, pz_b2, vp_nar_01, show (300 : Int32) = nI 300 from rfl, pk_mul, nI_add, pz_sa (show 300 * i + j < 3000 by omega) (by decide), pz_some]
            refine ⟨_, rfl, nI_1 j, g2.trans ((kp_pA _ _ _ _).mono (by decide) (by decide) (by decide)), g3, ?_, ?_⟩
            · intro k b hk hb
              show upd (bd_A s2 20) (300 * i + j) _ (300 * k + b) = _
              rw [pz_up, if_neg (by omega)]
              exact g4 k b hk hb
            · intro b hb
              show upd (bd_A s2 20) (300 * i + j) _ (300 * i + b) = _
              rw [pz_up]
              by_cases q : b = j
              · subst q; rw [if_pos rfl]
              · rw [if_neg (by omega)]; exact g5 b (by omega)) (fun s hs => by
            obtain ⟨g1, g2, g3, g4, g5⟩ := hs
            obtain ⟨s1, s2⟩ := s
            dsimp only at g1 g2 g3 g4 g5 ⊢
            subst g1
            unfold fb_X10_finds_25
            rw [if_pos (show (300 : Int32) ≤ nI 300 from Int32.le_refl _)]
            refine ⟨_, rfl, g2, g3, fun k b hk hb => ?_⟩
            by_cases q : k = i
            · subst q; exact g5 b hb
            · exact g4 k b (by omega) hb) (s0 := ((0 : Int32), s2)) ⟨rfl, h2, h3, h4, fun b hb => by omega⟩ bd_K (by rw [pz_K]; omega)
        rw [e, pz_some]
        exact ⟨_, rfl, nI_1 i, h.1, h.2.1, h.2.2⟩) (fun s hs => by
        obtain ⟨h1, h2, h3, h4⟩ := hs
        obtain ⟨s1, s2⟩ := s
        dsimp only at h1 h2 h3 h4 ⊢
        subst h1
        unfold fb_X10_finds_15
        rw [h2.1 8 (by decide), e8, if_pos (Int32.le_refl _)]
        exact ⟨_, rfl, h2, h3, fun k b hk hb => h4 k b hk hb⟩) (s0 := ((0 : Int32), bd_pI M 7 0)) ⟨rfl, (kp_pI _ _ _).mono (by decide) (by decide) (by decide), rfl, fun k b hk => by omega⟩ bd_K (by rw [pz_K]; omega)
    rw [e, pz_some]
    exact ⟨r, rfl, h.2, h.1⟩
  · rw [hc.1, if_pos rfl]
    exact ⟨M, rfl, hc, kp.rfl'⟩
/-! the class's: bits, found for the first LOOKS -/
def bX (S : bd_T) (w : bw) (n : Nat) : Prop := ∀ t b, t < 6 → b < 300 → bd_A S 9 (300 * t + b) = nI (cb w n t b)
def cX' (S : bd_T) (w : bw) : Prop := ∃ n, n ≤ w 0 6 ∧ bd_I S 15 = nI n ∧ bX S w n
def lX (S : bd_T) (w : bw) : Prop := bd_I S 15 = nI (w 0 6) ∧ bX S w (w 0 6)
theorem nrs_const (r p v b b' n : Nat) : nrs r (fun _ => p) v b n = nrs r (fun _ => p) v b' n := by
  induction n with
  | zero => rfl
  | succ n ih => show near r _ p = near r _ p; rw [ih]
theorem px_fill {S : bd_T} {w : bw} (hw : wX S w) (hf : wF w) {t m : Nat} (ht : t < w 0 0) (hm : m ≤ 299) : ∃ S', f_X8_fillLefts (nI t) (nI m) S = some ((), S') ∧ (∀ b, b ≤ m → bd_A S' 4 b = nI (LV w t b (m - b))) ∧ kp S S' [] [4] [] := by
  obtain ⟨h1, h2, h3, -⟩ := hf.2.2.2.1 t ht
  obtain ⟨g1, g2, g3, -⟩ := hw.2.2.2.2.2.2.2.1 t ht
  have g1 : bd_A S 11 t = nI (w 1 t) := g1
  have g2 : bd_A S 12 t = nI (w 2 t) := g2
  have g3 : bd_A S 13 t = nI (w 3 t) := g3
  have h6 : t < 6 := Nat.lt_of_lt_of_le ht hf.1.1
  have hr := hf.1.2.1
  have hl1 : nI (w 1 t) = 1 ↔ w 1 t = 1 := nI_eq (b := 1) (by omega) (by omega)
  unfold f_X8_fillLefts
  rw [pz_at (k := 11) (show t < 6 from h6) (by decide), pz_b2, g1]
  by_cases c1 : w 1 t = 1
  · rw [if_pos (hl1.mpr c1)]
    unfold f_X8_fillToward
    rw [pz_at (k := 12) (show t < 6 from h6) (by decide), pz_b2, g2]
    have hLV : ∀ b a, LV w t b a = nrs (w 0 1) (fun _ => w 3 t) (w 2 t) 0 a := fun b a => by
      unfold LV
      rw [if_neg (by omega), if_pos c1]
      exact nrs_const _ _ _ _ _ _
    obtain ⟨r, e, h⟩ := pz_loop (F := fun q => fb_X8_fillToward_15 (nI t) q.1 q.2.1 q.2.2) (fun i s => s.1 = nI (nrs (w 0 1) (fun _ => w 3 t) (w 2 t) 0 i) ∧ s.2.1 = nI (m + 1 - i) - 1 ∧ kp S s.2.2 [] [4] [] ∧ ∀ b, b ≤ m → m < b + i → bd_A s.2.2 4 b = nI (LV w t b (m - b))) (fun r => kp S r [] [4] [] ∧ ∀ b, b ≤ m → bd_A r 4 b = nI (LV w t b (m - b))) (m + 1) (fun i s hi hs => by
        obtain ⟨k1, k2, k3, k4⟩ := hs
        obtain ⟨s1, s2, s3⟩ := s
        dsimp only at k1 k2 k3 k4 ⊢
        have e2 : nI (m + 1 - i) - 1 = nI (m - i) := by rw [show m + 1 - i = m - i + 1 by omega]; exact nI_pred _
        rw [e2] at k2
        subst k1; subst k2
        left
        unfold fb_X8_fillToward_15
        have hle := nrs_le (r := w 0 1) (v := w 2 t) (b := 0) (hp := fun _ => w 3 t) hr h2 (fun m => by omega) i
        have hw3 : wX (bd_pA s3 4 (m - i) (nI (nrs (w 0 1) (fun _ => w 3 t) (w 2 t) 0 i))) w := wX_kp (k3.trans ((kp_pA _ _ _ _).mono (by decide) (by decide) (by decide))) (by decide) (by decide) hw
        have e13 : bd_A (bd_pA s3 4 (m - i) (nI (nrs (w 0 1) (fun _ => w 3 t) (w 2 t) 0 i))) 13 t = nI (w 3 t) := (hw3.2.2.2.2.2.2.2.1 t ht).2.2.1
        rw [if_neg (nI_pos (by omega)), pz_lay (k := 4) (show m - i < 300 by omega) (by decide), pz_b2, pz_at (k := 13) (show t < 6 from h6) (by decide), pz_b2, e13, pz_nearer hw3 hf hle (by omega), pz_b2]
        refine ⟨_, rfl, rfl, ?_, k3.trans ((kp_pA _ _ _ _).mono (by decide) (by decide) (by decide)), ?_⟩
        · show nI (m - i) + -1 = _
          rw [show m + 1 - (i + 1) = m - i by omega, Int32.sub_eq_add_neg]
        · intro b hb hb2
          show upd (bd_A s3 4) (m - i) _ b = _
          rw [pz_up]
          by_cases q : b = m - i
          · rw [if_pos q, hLV, show m - b = i by omega]
          · rw [if_neg q]; exact k4 b hb (by omega)) (fun s hs => by
        obtain ⟨k1, k2, k3, k4⟩ := hs
        obtain ⟨s1, s2, s3⟩ := s
        dsimp only at k1 k2 k3 k4 ⊢
        rw [show m + 1 - (m + 1) = 0 by omega] at k2
        subst k1; subst k2
        unfold fb_X8_fillToward_15
        rw [if_pos (by decide)]
        exact ⟨_, rfl, k3, fun b hb => k4 b hb (by omega)⟩) (s0 := (nI (w 2 t), nI m, S)) ⟨rfl, (nI_pred m).symm, kp.rfl', fun b h1 h2 => by omega⟩ bd_K (by rw [pz_K]; omega)
    rw [e, pz_some, pz_b2]
    exact ⟨r, rfl, h.2, h.1⟩
  · rw [if_neg (fun z => c1 (hl1.mp z))]
    obtain ⟨r, e, h⟩ := pz_loop (F := fun q => fb_X8_fillLefts_24 (nI t) (nI m) q.1 q.2) (fun i s => s.1 = nI i ∧ kp S s.2 [] [4] [] ∧ ∀ b, b < i → bd_A s.2 4 b = nI (LV w t b (m - b))) (fun r => kp S r [] [4] [] ∧ ∀ b, b ≤ m → bd_A r 4 b = nI (LV w t b (m - b))) (m + 1) (fun i s hi hs => by
        obtain ⟨k1, k2, k3⟩ := hs
        obtain ⟨s1, s2⟩ := s
        dsimp only at k1 k2 k3 ⊢
        subst k1
        left
        unfold fb_X8_fillLefts_24
        have hw2 : wX s2 w := wX_kp k2 (by decide) (by decide) hw
        rw [if_neg (nI_nlt (by omega) (by omega)), if_neg (n300 (by omega)), pk_sub (by omega), pz_left hw2 hf ht (by omega) (by omega), pz_b2, pz_lay (k := 4) (show i < 300 by omega) (by decide), pz_b2]
        refine ⟨_, rfl, nI_1 i, k2.trans ((kp_pA _ _ _ _).mono (by decide) (by decide) (by decide)), ?_⟩
        intro b hb
        show upd (bd_A s2 4) i _ b = _
        rw [pz_up]
        by_cases q : b = i
        · rw [if_pos q, q]
        · rw [if_neg q]; exact k3 b (by omega)) (fun s hs => by
        obtain ⟨k1, k2, k3⟩ := hs
        obtain ⟨s1, s2⟩ := s
        dsimp only at k1 k2 k3 ⊢
        subst k1
        unfold fb_X8_fillLefts_24
        rw [if_pos (nI_lt (by omega) (by omega))]
        exact ⟨_, rfl, k2, fun b hb => k3 b (by omega)⟩) (s0 := ((0 : Int32), S)) ⟨rfl, kp.rfl', fun b h => by omega⟩ bd_K (by rw [pz_K]; omega)
    rw [e, pz_some]
    exact ⟨r, rfl, h.2, h.1⟩
theorem cb_succ (w : bw) (n t b : Nat) : cb w (n + 1) t b = cb w n t b + if (w 9 n = t ∧ lets w n b = false) then 2 ^ n else 0 := by
  show cb w n t b + _ = _
  congr 1
  simp
theorem px_learnLook {S : bd_T} {w : bw} (hw : wX S w) (hf : wF w) {k : Nat} (hk : k < w 0 6) (hb : bX S w k) : ∃ S', f_X0_learnLook (nI k) S = some ((), S') ∧ bX S' w (k + 1) ∧ kp S S' [] [4, 9] [] := by
  obtain ⟨h1, h2, h3, h4, h5⟩ := hf.2.2.2.2 k hk
  obtain ⟨g1, g2, g3, g4⟩ := hw.2.2.2.2.2.2.2.2 k hk
  have g1 : bd_A S 17 k = nI (w 9 k) := g1
  have g2 : bd_A S 18 k = nI (w 10 k) := g2
  have g3 : bd_A S 19 k = nI (w 11 k) := g3
  have g4 : bd_A S 20 k = nI (w 12 k) := g4
  have h10 : k < 10 := Nat.lt_of_lt_of_le hk hf.1.2.2.2.2
  have h6 : w 9 k < 6 := Nat.lt_of_lt_of_le h1 hf.1.1
  unfold f_X0_learnLook
  obtain ⟨S1, e1, hS1, hk1⟩ := px_fill hw hf h1 h2
  rw [pz_at (k := 17) (show k < 10 from h10) (by decide), pz_b2, pz_at (k := 18) (show k < 10 from h10) (by decide), pz_b2, pz_at (k := 19) (show k < 10 from h10) (by decide), pz_b2, pz_at (k := 20) (show k < 10 from h10) (by decide), pz_b2, g1, g2, g3, g4, e1, pz_b2]
  obtain ⟨r, e, h⟩ := pz_loop (F := fun q => fb_X0_learnLook_61 (nI k) (nI (w 9 k)) (nI (w 10 k)) (nI (w 11 k)) (nI (w 12 k)) q.1 q.2) (fun i s => s.1 = nI i ∧ kp S1 s.2 [] [9] [] ∧ ∀ t b, t < 6 → b < 300 → bd_A s.2 9 (300 * t + b) = nI (if b < i then cb w (k + 1) t b else cb w k t b)) (fun r => kp S1 r [] [9] [] ∧ bX r w (k + 1)) 300 (fun i s hi hs => by
      obtain ⟨q1, q2, q3⟩ := hs
      obtain ⟨s1, s2⟩ := s
      dsimp only at q1 q2 q3 ⊢
      subst q1
      left
      have hcb : ∀ t b, t < 6 → b < 300 → nI (if b < i + 1 then cb w (k + 1) t b else cb w k t b) = if (b = i ∧ t = w 9 k ∧ lets w k i = false) then nI (cb w k t b + 2 ^ k) else bd_A s2 9 (300 * t + b) := by
        intro t b ht hb
        rw [q3 t b ht hb]
        by_cases z : b = i
        · subst z
          rw [if_pos (by omega), if_neg (c := b < b) (by omega), cb_succ]
          by_cases y : w 9 k = t ∧ lets w k b = false
          · rw [if_pos y, if_pos ⟨rfl, y.1.symm, y.2⟩]
          · rw [if_neg y, if_neg (fun h => y ⟨h.2.1.symm, h.2.2⟩)]; rfl
        · rw [if_neg (c := b = i ∧ _) (fun h => z h.1)]
          by_cases y : b < i
          · rw [if_pos y, if_pos (by omega)]
          · rw [if_neg y, if_neg (by omega)]
      have hold : bd_A s2 9 (300 * w 9 k + i) = nI (cb w k (w 9 k) i) := by
        rw [q3 _ _ h6 hi, if_neg (by omega)]
      have hlow : cb w k (w 9 k) i < 2 ^ k := bsum_lt _ _
      have hidx : nI (w 9 k) * 300 + nI i = nI (300 * w 9 k + i) := by
        rw [show (300 : Int32) = nI 300 from rfl, pk_mul, nI_add, Nat.mul_comm]
      have hset : ∀ s', s' = bd_pA s2 9 (300 * w 9 k + i) (bd_A s2 9 (300 * w 9 k + i) ||| (1 <<< (nI k &&& 31))) → lets w k i = false → kp S1 s' [] [9] [] ∧ ∀ t b, t < 6 → b < 300 → bd_A s' 9 (300 * t + b) = nI (if b < i + 1 then cb w (k + 1) t b else cb w k t b) := by
        intro s' hs' hl
        subst hs'
        refine ⟨q2.trans ((kp_pA _ _ _ _).mono (by decide) (by decide) (by decide)), fun t b ht hb => ?_⟩
        rw [hcb t b ht hb]
        show upd (bd_A s2 9) (300 * w 9 k + i) _ (300 * t + b) = _
        rw [pz_up]
        by_cases z : b = i ∧ t = w 9 k
        · obtain ⟨z1, z2⟩ := z
          subst z1; subst z2
          rw [if_pos rfl, if_pos ⟨rfl, rfl, hl⟩, hold, nI_shl (by omega), nI_or_pow hlow]
        · rw [if_neg (by omega), if_neg (fun h => z ⟨h.1, h.2.1⟩)]
      unfold fb_X0_learnLook_61
      rw [if_neg (n300 hi), pz_at (k := 4) (show i < 300 from hi) (by decide), pz_b2, hidx]
      have hput : bd_b1 (nI (300 * w 9 k + i)) (fun (z13 : Int32) => bd_b2 (f_X9_at 9 z13 s2) (fun (r14 : Int32) (S15 : bd_T) => bd_b2 (f_X9_lay 9 z13 (r14 ||| ((1 : Int32) <<< (nI k &&& 31))) S15) (fun (r16 : Unit) (S17 : bd_T) => (some (.inl ((nI i + 1), S17)) : Option ((Int32 × bd_T) ⊕ bd_T))))) = some (.inl (nI i + 1, bd_pA s2 9 (300 * w 9 k + i) (bd_A s2 9 (300 * w 9 k + i) ||| (1 <<< (nI k &&& 31))))) := by
        rw [pz_b1, pz_at (k := 9) (show 300 * w 9 k + i < 1800 by omega) (by decide), pz_b2, pz_lay (k := 9) (show 300 * w 9 k + i < 1800 by omega) (by decide), pz_b2]
      by_cases c1 : w 10 k < i
      · have hl : lets w k i = false := by unfold lets; simp; omega
        rw [if_pos (nI_lt c1 (by omega)), hput]
        exact ⟨_, rfl, nI_1 i, hset _ rfl hl⟩
      · have e4 : bd_A s2 4 i = nI (LV w (w 9 k) i (w 10 k - i)) := by rw [q2.2.1 4 (by decide)]; exact hS1 i (by omega)
        have hle := LV_le hf h1 i (w 10 k - i)
        rw [if_neg (nI_nlt (by omega) (by omega)), e4]
        by_cases c2 : LV w (w 9 k) i (w 10 k - i) < w 11 k
        · have hl : lets w k i = false := by unfold lets; simp; omega
          rw [if_pos (nI_lt c2 (by omega)), hput]
          exact ⟨_, rfl, nI_1 i, hset _ rfl hl⟩
        · rw [if_neg (nI_nlt (by omega) (by omega))]
          by_cases c3 : LV w (w 9 k) i (w 10 k - i) ≤ w 12 k
          · have hl : lets w k i = true := by unfold lets; simp; omega
            rw [if_pos (nI_le c3 (by omega))]
            refine ⟨_, rfl, nI_1 i, q2, fun t b ht hb => ?_⟩
            rw [hcb t b ht hb, if_neg (fun h => by rw [hl] at h; exact absurd h.2.2 (by decide))]
          · have hl : lets w k i = false := by unfold lets; simp; omega
            rw [if_neg (nI_ge (by omega) (by omega)), hput]
            exact ⟨_, rfl, nI_1 i, hset _ rfl hl⟩) (fun s hs => by
      obtain ⟨q1, q2, q3⟩ := hs
      obtain ⟨s1, s2⟩ := s
      dsimp only at q1 q2 q3 ⊢
      subst q1
      unfold fb_X0_learnLook_61
      rw [if_pos y300]
      refine ⟨_, rfl, q2, fun t b ht hb => ?_⟩
      rw [q3 t b ht hb, if_pos hb]) (s0 := ((0 : Int32), S1)) ⟨rfl, kp.rfl', fun t b ht hb2 => by
        rw [if_neg (by omega), hk1.2.1 9 (by decide)]; exact hb t b ht hb2⟩ bd_K (by rw [pz_K]; omega)
  rw [e, pz_some]
  exact ⟨r, rfl, h.2, (hk1.mono (by decide) (by decide) (by decide)).trans (h.1.mono (by decide) (by decide) (by decide))⟩
theorem px_learn {S : bd_T} {w : bw} (hw : wX S w) (hf : wF w) (hc : cX' S w) : ∃ S', f_X0_learn S = some ((), S') ∧ lX S' w ∧ kp S S' [15] [4, 9] [] := by
  obtain ⟨n, hn, e15, hb⟩ := hc
  have h10 := hf.1.2.2.2.2
  have e18 : bd_I S 18 = nI (w 0 6) := hw.2.2.2.2.1
  unfold f_X0_learn
  rw [pz_b1, e15]
  obtain ⟨r, e, h⟩ := pz_loop (F := fun q => fb_X0_learn_5 q.1 q.2) (fun i s => s.1 = nI (n + i) ∧ kp S s.2 [] [4, 9] [] ∧ bX s.2 w (n + i)) (fun r => kp S r [] [4, 9] [] ∧ bX r w (w 0 6)) (w 0 6 - n) (fun i s hi hs => by
      obtain ⟨q1, q2, q3⟩ := hs
      obtain ⟨s1, s2⟩ := s
      dsimp only at q1 q2 q3 ⊢
      subst q1
      left
      unfold fb_X0_learn_5
      have hw2 : wX s2 w := wX_kp q2 (by decide) (by decide) hw
      obtain ⟨S', e', hb', hk'⟩ := px_learnLook hw2 hf (show n + i < w 0 6 by omega) q3
      rw [q2.1 18 (by decide), e18, if_neg (nI_ge (by omega) (by omega)), e', pz_b2]
      exact ⟨_, rfl, nI_1 (n + i), q2.trans hk', hb'⟩) (fun s hs => by
      obtain ⟨q1, q2, q3⟩ := hs
      obtain ⟨s1, s2⟩ := s
      dsimp only at q1 q2 q3 ⊢
      subst q1
      unfold fb_X0_learn_5
      rw [q2.1 18 (by decide), e18, if_pos (nI_le (by omega) (by omega))]
      rw [show n + (w 0 6 - n) = w 0 6 by omega] at q3
      exact ⟨_, rfl, q2, q3⟩) (s0 := (nI n, S)) ⟨rfl, kp.rfl', hb⟩ bd_K (by rw [pz_K]; omega)
  rw [e, pz_some]
  dsimp only
  rw [pz_si, h.1.1 18 (by decide), e18]
  exact ⟨_, rfl, ⟨rfl, h.2⟩, (h.1.mono (by decide) (by decide) (by decide)).trans ((kp_pI _ _ _).mono (by decide) (by decide) (by decide))⟩
theorem px_speaking {S : bd_T} {w : bw} (hw : wX S w) (hf : wF w) (hl : lX S w) {t b : Nat} (ht : t < w 0 0) (hb : b < 300) : f_X0_speaking (nI t) (nI b) S = some (nI (spk w t b), S) := by
  have h6 : t < 6 := Nat.lt_of_lt_of_le ht hf.1.1
  have e19 : bd_I S 19 = nI (wdb w (w 0 6)) := hw.2.2.2.2.2.1
  have h10 := hf.1.2.2.2.2
  unfold f_X0_speaking
  rw [show (300 : Int32) = nI 300 from rfl, pk_mul, nI_add, Nat.mul_comm, pz_at (k := 9) (show 300 * t + b < 1800 by omega) (by decide), pz_b2, hl.2 t b h6 hb, e19]
  unfold cb wdb
  rw [nI_andnot (by omega)]
  rfl
theorem px_forget {S : bd_T} {w : bw} (hc : cX' S w) (hn : w 0 6 ≤ 10) : ∃ S', f_X0_forget S = some ((), S') ∧ bd_I S' 15 = 0 ∧ (∀ t b, t < 6 → b < 300 → bd_A S' 9 (300 * t + b) = 0) ∧ kp S S' [15] [9] [] := by
  obtain ⟨n, hn2, e15, hb⟩ := hc
  unfold f_X0_forget
  rw [e15]
  by_cases c : n = 0
  · subst c
    rw [if_pos (show nI 0 = 0 from rfl)]
    exact ⟨S, rfl, e15, fun t b ht hb2 => hb t b ht hb2, kp.rfl'⟩
  · rw [if_neg (nI_ne0 (by omega) (by omega)), pz_si]
    obtain ⟨r, e, h⟩ := pz_loop (F := fun q => fb_X0_forget_15 q.1 q.2) (fun i s => s.1 = nI i ∧ kp (bd_pI S 15 0) s.2 [] [9] [] ∧ ∀ j, j < i → bd_A s.2 9 j = 0) (fun r => kp (bd_pI S 15 0) r [] [9] [] ∧ ∀ j, j < 1800 → bd_A r 9 j = 0) 1800 (fun i s hi hs => by
        obtain ⟨q1, q2, q3⟩ := hs
        obtain ⟨s1, s2⟩ := s
        dsimp only at q1 q2 q3 ⊢
        subst q1
        left
        unfold fb_X0_forget_15
        rw [if_neg (show ¬ (1800 : Int32) ≤ nI i from nI_ge (b := 1800) hi (by omega)), pz_sa hi (by decide), pz_some]
        refine ⟨_, rfl, nI_1 i, q2.trans (kp_pA _ _ _ _), fun j hj => ?_⟩
        show upd (bd_A s2 9) i _ j = _
        rw [pz_up]
        by_cases z : j = i
        · rw [if_pos z]
        · rw [if_neg z]; exact q3 j (by omega)) (fun s hs => by
        obtain ⟨q1, q2, q3⟩ := hs
        obtain ⟨s1, s2⟩ := s
        dsimp only at q1 q2 q3 ⊢
        subst q1
        unfold fb_X0_forget_15
        rw [if_pos (show (1800 : Int32) ≤ nI 1800 from Int32.le_refl _)]
        exact ⟨_, rfl, q2, q3⟩) (s0 := ((0 : Int32), bd_pI S 15 0)) ⟨rfl, kp.rfl', fun j h => by omega⟩ bd_K (by rw [pz_K]; omega)
    rw [e, pz_some]
    refine ⟨r, rfl, h.1.1 15 (by decide), fun t b ht hb2 => h.2 _ (by omega), ?_⟩
    exact ((kp_pI S 15 0).mono (by decide) (by decide) (by decide)).trans (h.1.mono (by decide) (by decide) (by decide))
