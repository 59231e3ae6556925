theorem ti_add {x y : Int32} (h1 : -(2 ^ 30) ≤ x.toInt) (h2 : x.toInt ≤ 2 ^ 30) (h3 : -(2 ^ 30) ≤ y.toInt) (h4 : y.toInt < 2 ^ 30) : (x + y).toInt = x.toInt + y.toInt := by
  rw [Int32.toInt_add]
  unfold Int.bmod
  simp only
  split <;> omega
theorem ti_sub {x y : Int32} (h1 : -(2 ^ 30) ≤ x.toInt) (h2 : x.toInt ≤ 2 ^ 30) (h3 : -(2 ^ 30) < y.toInt) (h4 : y.toInt ≤ 2 ^ 30) : (x - y).toInt = x.toInt - y.toInt := by
  rw [Int32.toInt_sub]
  unfold Int.bmod
  simp only
  split <;> omega
theorem ti_eq {x : Int32} {n : Nat} (hn : n < 2 ^ 31) (h : x.toInt = n) : x = nI n := Int32.toInt_inj.mp (by rw [h, nI_toInt hn])
theorem pz_0lt {n : Nat} (h : 0 < n) (hn : n < 2 ^ 31) : (0 : Int32) < nI n := nI_lt (a := 0) h hn
theorem pz_clip {a b : Nat} (ha : a < 2 ^ 29) (hb : b < 2 ^ 29) : (if (0 : Int32) < nI a - nI b then nI a - nI b else 0) = nI (a - b) := by
  by_cases h : b < a
  · rw [pk_sub (by omega), if_pos (pz_0lt (by omega) (by omega))]
  · rw [if_neg, show a - b = 0 by omega]
    · rfl
    · rw [Int32.lt_iff_toInt_lt, pk_sub_toInt (by omega) (by omega), show (0 : Int32).toInt = 0 from rfl]
      omega
theorem pz_clip2 {a b : Nat} (ha : a < 2 ^ 29) (hb : b < 2 ^ 29) : (if (0 : Int32) ≤ nI a - nI b then nI a - nI b else 0) = nI (a - b) := by
  by_cases h : b ≤ a
  · rw [pk_sub h, if_pos (nI_pos' (by omega))]
  · rw [if_neg, show a - b = 0 by omega]
    · rfl
    · rw [Int32.le_iff_toInt_le, pk_sub_toInt (by omega) (by omega), show (0 : Int32).toInt = 0 from rfl]
      omega
/-- the WINDOW, as the class has it -/
theorem wX_open {S : bd_T} {w : bw} (hw : wX S w) (hf : wF w) {m : Nat} (hm : m < 2 ^ 20) : f_X8_inWindow (nI m) S = some (if wop w m = true then 1 else 0, S) := by
  have h := hw.2.1
  obtain ⟨⟨h1, -⟩, h2, -⟩ := hf
  unfold f_X8_inWindow wop
  rcases h with ⟨h0, h3, h4⟩ | ⟨h0, h3, h4⟩
  · have e3 : bd_I S 3 = 0 := h3
    have e4 : bd_I S 4 = -1 := h4
    rw [e3, e4, if_neg (nI_pos (by omega)), if_pos, if_neg]
    · simp [h0]
    · rw [Int32.lt_iff_toInt_lt, nI_toInt (by omega), show (-1 : Int32).toInt = -1 from rfl]
      omega
  · have e3 : bd_I S 3 = nI (w 0 3) := h3
    have e4 : bd_I S 4 = nI (w 0 4) := h4
    obtain ⟨g1, g2⟩ := h2 h0
    rw [e3, e4]
    by_cases c1 : m < w 0 3
    · rw [if_pos (nI_lt c1 (by omega)), if_neg]
      simp; omega
    · rw [if_neg (nI_nlt (by omega) (by omega))]
      by_cases c2 : w 0 4 < m
      · rw [if_pos (nI_lt c2 (by omega)), if_neg]
        simp; omega
      · rw [if_neg (nI_nlt (by omega) (by omega)), if_pos]
        simp; omega
theorem wHp_le {w : bw} {t : Nat} (h : w 3 t ≤ 99) (m : Nat) : wHp w t m ≤ wIn w t ∧ wIn w t ≤ 100 := by
  unfold wHp wIn
  split <;> split <;> omega
theorem pz_nearer {S : bd_T} {w : bw} (hw : wX S w) (hf : wF w) {v h : Nat} (hv : v ≤ 9999) (hh : h ≤ 100) : f_X8_nearer (nI v) (nI h) S = some (nI (near (w 0 1) v h), S) := by
  unfold f_X8_nearer
  have e : bd_I S 2 = nI (w 0 1) := hw.1
  rw [e, pz_near hf.1.2.1 hv hh]
/-- nearing: the iterate of the steps; the quicker pace i, the slower o -/
theorem pz_nearing {S : bd_T} {w : bw} (hw : wX S w) (hf : wF w) {v o i b n : Nat} (hv : v ≤ 9999) (ho : o ≤ i) (hi : i ≤ 100) (hb : b ≤ 400) (hn : n ≤ 400) : f_X8_nearing (nI v) (nI o) (nI i) (nI b) (nI (b + n)) S = some (nI (nrs (w 0 1) (fun m => if wop w m = true then i else o) v b n), S) := by
  have hp : ∀ m, (fun m => if wop w m = true then i else o) m ≤ i := fun m => by dsimp only; split <;> omega
  have hr := hf.1.2.1
  unfold f_X8_nearing
  obtain ⟨r, e, h⟩ := pz_loop (F := fun q => fb_X8_nearing_7 (nI o) (nI i) (nI (b + n)) q.1 q.2.1 q.2.2) (fun k s => s = (nI (nrs (w 0 1) (fun m => if wop w m = true then i else o) v b k), nI (b + k), S)) (fun r => Sum.elim (fun z => z) (fun z => z) r = (nI (nrs (w 0 1) (fun m => if wop w m = true then i else o) v b n), S)) n (fun k s hk hs => by
      subst hs
      dsimp only
      have hle := nrs_le (r := w 0 1) (v := v) (b := b) (hp := fun m => if wop w m = true then i else o) hr hv (fun m => Nat.le_trans (hp m) hi) k
      unfold fb_X8_nearing_7
      have ho1 : o ≤ 100 := by omega
      have hle2 := near_le hr hle hi
      have hle3 := near_le hr hle ho1
      rw [if_neg (nI_ge (by omega) (by omega)), wX_open hw hf (by omega), pz_b2]
      by_cases hop : wop w (b + k) = true
      · rw [if_pos hop, if_neg (by decide), pz_nearer hw hf hle hi, pz_b2]
        by_cases hfix : near (w 0 1) (nrs (w 0 1) (fun m => if wop w m = true then i else o) v b k) i = nrs (w 0 1) (fun m => if wop w m = true then i else o) v b k
        · right
          rw [if_pos (congrArg nI hfix), pz_nearer hw hf hle hi, pz_b2, if_pos (congrArg nI hfix)]
          refine ⟨_, rfl, ?_⟩
          show (_, _) = _
          have := nrs_stay (i0 := i) k hfix hp (n - k)
          rw [show k + (n - k) = n by omega] at this
          rw [this]
        · left
          rw [if_neg (fun z => hfix ((nI_eq (by omega) (by omega)).mp z))]
          refine ⟨_, rfl, ?_⟩
          show (_, _, _) = (nI (near _ _ _), _, _)
          dsimp only
          rw [if_pos hop, nI_1]; rfl
      · rw [if_neg hop, if_pos rfl, pz_nearer hw hf hle ho1, pz_b2]
        by_cases hfo : near (w 0 1) (nrs (w 0 1) (fun m => if wop w m = true then i else o) v b k) o = nrs (w 0 1) (fun m => if wop w m = true then i else o) v b k
        · rw [if_pos (congrArg nI hfo), pz_nearer hw hf hle hi, pz_b2]
          by_cases hfix : near (w 0 1) (nrs (w 0 1) (fun m => if wop w m = true then i else o) v b k) i = nrs (w 0 1) (fun m => if wop w m = true then i else o) v b k
          · right
            rw [if_pos (congrArg nI hfix)]
            refine ⟨_, rfl, ?_⟩
            show (_, _) = _
            have := nrs_stay (i0 := i) k hfix hp (n - k)
            rw [show k + (n - k) = n by omega] at this
            rw [this]
          · left
            rw [if_neg (fun z => hfix ((nI_eq (by omega) (by omega)).mp z))]
            refine ⟨_, rfl, ?_⟩
            show (_, _, _) = (nI (near _ _ _), _, _)
            dsimp only
            rw [if_neg hop, nI_1]; rfl
        · left
          rw [if_neg (fun z => hfo ((nI_eq (by omega) (by omega)).mp z))]
          refine ⟨_, rfl, ?_⟩
          show (_, _, _) = (nI (near _ _ _), _, _)
          dsimp only
          rw [if_neg hop, nI_1]; rfl) (fun s hs => by
      subst hs
      dsimp only
      unfold fb_X8_nearing_7
      rw [if_pos (nI_le (by omega) (by omega))]
      exact ⟨_, rfl, rfl⟩) (s0 := (nI v, nI b, S)) rfl bd_K (by rw [pz_K]; omega)
  rw [e]
  rcases r with r | r
  · exact congrArg some h
  · exact congrArg some h
theorem cop_closed {w : bw} (h : w 0 2 = 1) (hf : wF w) (b n : Nat) : cop w b n = min (b + n) (w 0 4 + 1) - max b (w 0 3) := by
  have := hf.2.1 h
  induction n with
  | zero => show 0 = _; omega
  | succ n ih =>
    show cop w b n + _ = _
    rw [ih]
    unfold wop
    by_cases c : w 0 3 ≤ b + n ∧ b + n ≤ w 0 4
    · rw [if_pos (by simp [h, c.1, c.2])]; omega
    · rw [if_neg (by simp [h]; omega)]; omega
theorem cop_none {w : bw} (h : w 0 2 = 0) (b n : Nat) : cop w b n = 0 := by
  induction n with
  | zero => rfl
  | succ n ih => show cop w b n + _ = _; rw [ih]; simp [wop, h]
theorem cop_le (w : bw) (b n : Nat) : cop w b n ≤ n := by
  induction n with
  | zero => exact Nat.le_refl _
  | succ n ih => show cop w b n + _ ≤ _; split <;> omega
theorem mi_key {b a : Nat} (hb : b ≤ 299) (ha : a ≤ 299) {cl op : Int32} {C O : Int} (h1 : cl.toInt = C) (h2 : op.toInt = O) (h3 : -1 ≤ C) (h4 : C ≤ 299) (h5 : 0 ≤ O) (h6 : O ≤ 299) : (if (0 : Int32) < (if cl < nI b + nI a - 1 then cl else nI b + nI a - 1) - (if nI b < op then op else nI b) + 1 then (if cl < nI b + nI a - 1 then cl else nI b + nI a - 1) - (if nI b < op then op else nI b) + 1 else 0).toInt = max 0 (min C ((b : Int) + a - 1) - max O b + 1) := by
  have hba : (nI (b + a)).toInt = (b : Int) + a := by rw [nI_toInt (by omega)]; omega
  have h1t : (1 : Int32).toInt = 1 := rfl
  have h0t : (0 : Int32).toInt = 0 := rfl
  have hbt : (nI b).toInt = b := nI_toInt (by omega)
  have hl : (nI b + nI a - 1).toInt = (b : Int) + a - 1 := by
    rw [nI_add, ti_sub (by rw [hba]; omega) (by rw [hba]; omega) (by rw [h1t]; decide) (by rw [h1t]; decide), hba, h1t]
  have hx : ∃ x : Int32, x = (if cl < nI b + nI a - 1 then cl else nI b + nI a - 1) ∧ x.toInt = min C ((b : Int) + a - 1) := by
    refine ⟨_, rfl, ?_⟩
    split
    · rename_i q; rw [Int32.lt_iff_toInt_lt, h1, hl] at q; rw [h1]; omega
    · rename_i q; rw [Int32.lt_iff_toInt_lt, h1, hl] at q; rw [hl]; omega
  have hy : ∃ x : Int32, x = (if nI b < op then op else nI b) ∧ x.toInt = max O b := by
    refine ⟨_, rfl, ?_⟩
    split
    · rename_i q; rw [Int32.lt_iff_toInt_lt, h2, hbt] at q; rw [h2]; omega
    · rename_i q; rw [Int32.lt_iff_toInt_lt, h2, hbt] at q; rw [hbt]; omega
  obtain ⟨x, ex, hx⟩ := hx
  obtain ⟨y, ey, hy⟩ := hy
  rw [← ex, ← ey]
  have hs : (x - y).toInt = min C ((b : Int) + a - 1) - max O b := by
    rw [ti_sub (by rw [hx]; omega) (by rw [hx]; omega) (by rw [hy]; omega) (by rw [hy]; omega), hx, hy]
  have hz : (x - y + 1).toInt = min C ((b : Int) + a - 1) - max O b + 1 := by
    rw [ti_add (by rw [hs]; omega) (by rw [hs]; omega) (by rw [h1t]; decide) (by rw [h1t]; decide), hs, h1t]
  split
  · rename_i q; rw [Int32.lt_iff_toInt_lt, hz, h0t] at q; rw [hz]; omega
  · rename_i q; rw [Int32.lt_iff_toInt_lt, hz, h0t] at q; rw [h0t]; omega
theorem pz_miw {S : bd_T} {w : bw} (hw : wX S w) (hf : wF w) {b a : Nat} (hb : b ≤ 299) (ha : a ≤ 299) : f_X8_minutesInWindow (nI b) (nI b + nI a - 1) S = some (nI (cop w b a), S) := by
  unfold f_X8_minutesInWindow
  have hc := cop_le w b a
  congr 2
  apply ti_eq (by omega)
  rcases hw.2.1 with ⟨h0, h3, h4⟩ | ⟨h0, h3, h4⟩
  · have e3 : bd_I S 3 = 0 := h3
    have e4 : bd_I S 4 = -1 := h4
    rw [e3, e4, cop_none h0, mi_key hb ha (C := -1) (O := 0) rfl rfl (by omega) (by omega) (by omega) (by omega)]
    omega
  · have e3 : bd_I S 3 = nI (w 0 3) := h3
    have e4 : bd_I S 4 = nI (w 0 4) := h4
    have hwin := hf.2.1 h0
    rw [e3, e4, cop_closed h0 hf, mi_key hb ha (nI_toInt (by omega)) (nI_toInt (by omega)) (by omega) (by omega) (by omega) (by omega)]
    omega
theorem LV_le {w : bw} (hf : wF w) {t : Nat} (ht : t < w 0 0) (b a : Nat) : LV w t b a ≤ 9999 := by
  obtain ⟨h1, h2, h3, -⟩ := hf.2.2.2.1 t ht
  have hr := hf.1.2.1
  unfold LV
  split
  · omega
  · split
    · exact nrs_le hr h2 (fun _ => by omega) a
    · split
      · omega
      · split
        · omega
        · split
          · exact nrs_le hr h2 (fun m => Nat.le_trans (wHp_le h3 m).1 (wHp_le h3 m).2) a
          · exact h2
theorem pz_left {S : bd_T} {w : bw} (hw : wX S w) (hf : wF w) {t b a : Nat} (ht : t < w 0 0) (hb : b ≤ 299) (ha : a ≤ 299) : f_X8_leftAfter (nI t) (nI b) (nI a) S = some (nI (LV w t b a), S) := by
  obtain ⟨h1, h2, h3, -⟩ := hf.2.2.2.1 t ht
  obtain ⟨g1, g2, g3, -⟩ := hw.2.2.2.2.2.2.2.1 t ht
  have g1 : bd_A S 11 t = nI (w 1 t) := g1
  have g2 : bd_A S 12 t = nI (w 2 t) := g2
  have g3 : bd_A S 13 t = nI (w 3 t) := g3
  have h6 : t < 6 := Nat.lt_of_lt_of_le ht hf.1.1
  unfold f_X8_leftAfter
  rw [pz_at (k := 12) (show t < 6 from h6) (by decide), pz_b2, pz_at (k := 13) (show t < 6 from h6) (by decide), pz_b2, pz_at (k := 11) (show t < 6 from h6) (by decide), pz_b2, g1, g2, g3]
  have hpa : w 3 t * a ≤ 99 * 299 := Nat.mul_le_mul h3 ha
  have hl0 : nI (w 1 t) = 0 ↔ w 1 t = 0 := nI_eq (b := 0) (by omega) (by omega)
  have hl1 : nI (w 1 t) = 1 ↔ w 1 t = 1 := nI_eq (b := 1) (by omega) (by omega)
  have hl2 : nI (w 1 t) = 2 ↔ w 1 t = 2 := nI_eq (b := 2) (by omega) (by omega)
  have hl3 : nI (w 1 t) = 3 ↔ w 1 t = 3 := nI_eq (b := 3) (by omega) (by omega)
  have hl4 : nI (w 1 t) = 4 ↔ w 1 t = 4 := nI_eq (b := 4) (by omega) (by omega)
  unfold LV
  by_cases c0 : w 1 t = 0
  · rw [if_pos c0, if_pos (hl0.mpr c0), pk_mul, pz_clip (by omega) (by omega)]
  · rw [if_neg c0, if_neg (fun z => c0 (hl0.mp z))]
    by_cases c1 : w 1 t = 1
    · rw [if_pos c1, if_pos (hl1.mpr c1), nI_add, pz_nearing hw hf h2 (Nat.le_refl _) (by omega) (by omega) (by omega), pz_b2]
      have e : (fun m => if wop w m = true then w 3 t else w 3 t) = fun _ => w 3 t := by funext m; split <;> rfl
      rw [e]
    · rw [if_neg c1, if_neg (fun z => c1 (hl1.mp z))]
      by_cases c2 : w 1 t = 2
      · have hd : w 3 t * 10 * (a / 10) ≤ 99 * 10 * 30 := Nat.mul_le_mul (Nat.mul_le_mul_right 10 h3) (by omega)
        rw [if_pos c2, if_pos (hl2.mpr c2), show (10 : Int32) = nI 10 from rfl, pk_mul, pk_div (by omega) (by omega) (by omega), pk_mul, pz_clip (by omega) (by omega)]
      · rw [if_neg c2, if_neg (fun z => c2 (hl2.mp z))]
        by_cases c3 : w 1 t = 3
        · have hc : w 3 t * cop w b a ≤ 99 * 299 := Nat.mul_le_mul h3 (Nat.le_trans (cop_le w b a) ha)
          rw [if_pos c3, if_pos (hl3.mpr c3), pz_miw hw hf hb ha, pz_b2, pk_mul, pz_clip (by omega) (by omega)]
        · rw [if_neg c3, if_neg (fun z => c3 (hl3.mp z))]
          by_cases c4 : w 1 t = 4
          · have hin : (if (2 : Int32) * nI (w 3 t) < 100 then 2 * nI (w 3 t) else 100) = nI (wIn w t) := by
              unfold wIn
              rw [show (2 : Int32) = nI 2 from rfl, show (100 : Int32) = nI 100 from rfl, pk_mul]
              by_cases q : 2 * w 3 t < 100
              · rw [if_pos q, if_pos (nI_lt q (by omega))]
              · rw [if_neg q, if_neg (nI_nlt (by omega) (by omega))]
            have hw3 := wHp_le h3 0
            have hio : w 3 t ≤ wIn w t := by unfold wIn; split <;> omega
            rw [if_pos c4, if_pos (hl4.mpr c4), hin, nI_add, pz_nearing hw hf h2 hio hw3.2 (by omega) (by omega), pz_b2]
            rfl
          · rw [if_neg c4, if_neg (fun z => c4 (hl4.mp z))]
