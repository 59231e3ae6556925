theorem wM_open {M : bd_T} {w : bw} (hw : wM M w) (hf : wF w) {m : Nat} (hm : m < 2 ^ 20) : f_X10_isOpen (nI m) M = some (if wop w m = true then 1 else 0, M) := by
  have h := hw.2.1
  obtain ⟨⟨h1, -⟩, h2, -⟩ := hf
  unfold f_X10_isOpen wop
  rcases h with ⟨h0, h3, h4⟩ | ⟨h0, h3, h4⟩
  · have e3 : bd_I M 4 = -1 := h3
    rw [e3, if_pos (by decide), if_neg]
    simp [h0]
  · have e3 : bd_I M 4 = nI (w 0 3) := h3
    have e4 : bd_I M 5 = nI (w 0 4) := h4
    obtain ⟨g1, g2⟩ := h2 h0
    rw [e3, e4, if_neg (nI_pos (by omega))]
    by_cases c1 : m < w 0 3
    · rw [if_pos (nI_lt c1 (by omega)), if_neg]
      simp; omega
    · rw [if_neg (nI_nlt (by omega) (by omega))]
      by_cases c2 : w 0 4 < m
      · rw [if_pos (nI_lt c2 (by omega)), if_neg]
        simp; omega
      · rw [if_neg (nI_nlt (by omega) (by omega)), if_pos]
        simp; omega
theorem pm_nearer {M : bd_T} {w : bw} (hw : wM M w) (hf : wF w) {v h : Nat} (hv : v ≤ 9999) (hh : h ≤ 100) : f_X10_nearer (nI v) (nI h) M = some (nI (near (w 0 1) v h), M) := by
  have hr := hf.1.2.1
  have e : bd_I M 3 = nI (w 0 1) := hw.1
  have hb : (w 0 1 - v) * h ≤ 9999 * 100 := Nat.mul_le_mul (by omega) hh
  have hb2 : (v - w 0 1) * h ≤ 9999 * 100 := Nat.mul_le_mul (by omega) hh
  have m1 := mul_div_le (x := v - w 0 1) hh
  unfold f_X10_nearer near
  rw [e]
  by_cases c : w 0 1 ≤ v
  · rw [if_pos (nI_le c (by omega)), if_neg (by omega), pz_b1, pz_b1, if_pos (nI_le c (by omega)), pk_sub c, pk_mul, show (100 : Int32) = nI 100 from rfl, pk_div (by omega) (by omega) (by omega), pk_sub (by omega)]
  · rw [if_neg (nI_ge (by omega) (by omega)), if_pos (by omega), pz_b1, pz_b1, if_neg (nI_ge (by omega) (by omega)), pk_sub (by omega), pk_mul, show (100 : Int32) = nI 100 from rfl, pk_div (by omega) (by omega) (by omega), nI_add]
theorem pm_left {M : bd_T} {w : bw} (hw : wM M w) (hf : wF w) {t b a : Nat} (ht : t < w 0 0) (hb : b ≤ 299) (ha : a ≤ 299) : f_X10_leftOf (nI t) (nI b) (nI a) M = some (nI (LV w t b a), M) := by
  obtain ⟨h1, h2, h3, -⟩ := hf.2.2.2.1 t ht
  obtain ⟨g1, g2, g3, -⟩ := hw.2.2.2.2.2.2.1 t ht
  have g1 : bd_A M 2 t = nI (w 1 t) := g1
  have g2 : bd_A M 3 t = nI (w 2 t) := g2
  have g3 : bd_A M 4 t = nI (w 3 t) := g3
  have h6 : t < 6 := Nat.lt_of_lt_of_le ht hf.1.1
  have hr := hf.1.2.1
  have hpa : w 3 t * a ≤ 99 * 299 := Nat.mul_le_mul h3 ha
  have hl0 : nI (w 1 t) = 0 ↔ w 1 t = 0 := nI_eq (b := 0) (by omega) (by omega)
  have hl1 : nI (w 1 t) = 1 ↔ w 1 t = 1 := nI_eq (b := 1) (by omega) (by omega)
  have hl2 : nI (w 1 t) = 2 ↔ w 1 t = 2 := nI_eq (b := 2) (by omega) (by omega)
  have hl3 : nI (w 1 t) = 3 ↔ w 1 t = 3 := nI_eq (b := 3) (by omega) (by omega)
  have hl4 : nI (w 1 t) = 4 ↔ w 1 t = 4 := nI_eq (b := 4) (by omega) (by omega)
  unfold f_X10_leftOf LV
  simp only [pz_ga h6 (show (6 : Nat) < 2 ^ 31 by decide), pz_some, g1, g2, g3, hl0, hl1, hl2, hl3, hl4]
  by_cases c0 : w 1 t = 0
  · rw [if_pos c0, if_pos c0, pz_b1, pk_mul, ← pz_clip2 (show w 2 t < 2 ^ 29 by omega) (show w 3 t * a < 2 ^ 29 by omega)]
    split <;> rfl
  · rw [if_neg c0, if_neg c0]
    by_cases c1 : w 1 t = 1
    · rw [if_pos c1, if_pos c1]
      have h := pz_for (F := fun q => fb_X10_leftOf_133 (nI t) (nI b) (nI a) q.1 q.2.1 q.2.2) (fun k => (nI (nrs (w 0 1) (fun _ => w 3 t) (w 2 t) b k), nI (b + k), M)) a (nI (nrs (w 0 1) (fun _ => w 3 t) (w 2 t) b a), M) (fun k hk => by
        dsimp only
        have hle := nrs_le (r := w 0 1) (v := w 2 t) (b := b) (hp := fun _ => w 3 t) hr h2 (fun m => by omega) k
        unfold fb_X10_leftOf_133
        rw [nI_add, if_neg (nI_ge (by omega) (by omega)), pz_ga h6 (by decide), pz_some, g3, pm_nearer hw hf hle (by omega), pz_b2, nI_1]
        rfl) (by
        dsimp only
        unfold fb_X10_leftOf_133
        rw [nI_add, if_pos (nI_le (by omega) (by omega))]) bd_K (by rw [pz_K]; omega)
      have h' : bd_lp bd_K (fun q => fb_X10_leftOf_133 (nI t) (nI b) (nI a) q.1 q.2.1 q.2.2) (nI (w 2 t), nI b, M) = _ := h
      rw [h', pz_some]
    · rw [if_neg c1, if_neg c1]
      by_cases c2 : w 1 t = 2
      · have hd : w 3 t * 10 * (a / 10) ≤ 99 * 10 * 30 := Nat.mul_le_mul (Nat.mul_le_mul_right 10 h3) (by omega)
        rw [if_pos c2, if_pos c2, pz_b1, show (10 : Int32) = nI 10 from rfl, pk_mul, pk_div (by omega) (by omega) (by omega), pk_mul, Nat.mul_comm 10, ← pz_clip2 (show w 2 t < 2 ^ 29 by omega) (show w 3 t * 10 * (a / 10) < 2 ^ 29 by omega)]
        split <;> rfl
      · rw [if_neg c2, if_neg c2]
        by_cases c3 : w 1 t = 3
        · rw [if_pos c3, if_pos c3]
          have hc : w 3 t * cop w b a ≤ 99 * 299 := Nat.mul_le_mul h3 (Nat.le_trans (cop_le w b a) ha)
          have h := pz_for (F := fun q => fb_X10_leftOf_89 (nI t) (nI b) (nI a) q.1 q.2.1 q.2.2) (fun k => (nI (w 2 t) - nI (w 3 t * cop w b k), nI (b + k), M)) a (nI (w 2 t) - nI (w 3 t * cop w b a), M) (fun k hk => by
            dsimp only
            unfold fb_X10_leftOf_89
            rw [nI_add, if_neg (nI_ge (by omega) (by omega)), wM_open hw hf (by omega), pz_b2]
            by_cases hop : wop w (b + k) = true
            · rw [if_pos hop, if_neg (by decide), pz_ga h6 (by decide), pz_some, g3, pz_b1, nI_1]
              have e : cop w b (k + 1) = cop w b k + 1 := by show cop w b k + _ = _; rw [if_pos hop]
              rw [e, Nat.mul_add, Nat.mul_one, show nI (w 3 t * cop w b k + w 3 t) = nI (w 3 t * cop w b k) + nI (w 3 t) from (nI_add _ _).symm, Int32.sub_sub]
              rfl
            · rw [if_neg hop, if_pos rfl, pz_b1, nI_1]
              have e : cop w b (k + 1) = cop w b k := by show cop w b k + _ = _; rw [if_neg hop]; rfl
              rw [e, Int32.sub_zero]
              rfl) (by
            dsimp only
            unfold fb_X10_leftOf_89
            rw [nI_add, if_pos (nI_le (by omega) (by omega))]) bd_K (by rw [pz_K]; omega)
          have h' : bd_lp bd_K (fun q => fb_X10_leftOf_89 (nI t) (nI b) (nI a) q.1 q.2.1 q.2.2) (nI (w 2 t), nI b, M) = some (nI (w 2 t) - nI (w 3 t * cop w b a), M) := by
            rw [← h]
            congr 2
            show nI (w 2 t) = nI (w 2 t) - nI (w 3 t * 0)
            exact (Int32.sub_zero _).symm
          rw [h', pz_some, ← pz_clip2 (show w 2 t < 2 ^ 29 by omega) (show w 3 t * cop w b a < 2 ^ 29 by omega)]
          dsimp only
          split <;> rfl
        · rw [if_neg c3, if_neg c3]
          by_cases c4 : w 1 t = 4
          · rw [if_pos c4, if_pos c4]
            have h := pz_for (F := fun q => fb_X10_leftOf_167 (nI t) (nI b) (nI a) q.1 q.2.1 q.2.2) (fun k => (nI (nrs (w 0 1) (wHp w t) (w 2 t) b k), nI (b + k), M)) a (nI (nrs (w 0 1) (wHp w t) (w 2 t) b a), M) (fun k hk => by
              dsimp only
              have hle := nrs_le (r := w 0 1) (v := w 2 t) (b := b) (hp := wHp w t) hr h2 (fun m => Nat.le_trans (wHp_le h3 m).1 (wHp_le h3 m).2) k
              unfold fb_X10_leftOf_167
              rw [nI_add, if_neg (nI_ge (by omega) (by omega)), wM_open hw hf (by omega), pz_b2]
              have e : nrs (w 0 1) (wHp w t) (w 2 t) b (k + 1) = near (w 0 1) (nrs (w 0 1) (wHp w t) (w 2 t) b k) (wHp w t (b + k)) := rfl
              rw [e]
              by_cases hop : wop w (b + k) = true
              · have eh : wHp w t (b + k) = wIn w t := by unfold wHp; rw [if_pos hop]
                rw [if_pos hop, if_neg (by decide), pz_ga h6 (by decide), pz_some, g3, eh]
                unfold wIn
                by_cases q : 50 ≤ w 3 t
                · rw [if_pos (show (50 : Int32) ≤ nI (w 3 t) from nI_le (a := 50) q (by omega)), if_neg (by omega), show (100 : Int32) = nI 100 from rfl, pm_nearer hw hf hle (by omega), pz_b2, nI_1]
                  rfl
                · rw [if_neg (show ¬ (50 : Int32) ≤ nI (w 3 t) from nI_ge (b := 50) (by omega) (by omega)), if_pos (by omega), pz_some, show (2 : Int32) = nI 2 from rfl, pk_mul, pm_nearer hw hf hle (by omega), pz_b2, nI_1]
                  rfl
              · have eh : wHp w t (b + k) = w 3 t := by unfold wHp; rw [if_neg hop]
                rw [if_neg hop, if_pos rfl, pz_ga h6 (by decide), pz_some, g3, eh, pm_nearer hw hf hle (by omega), pz_b2, nI_1]
                rfl) (by
              dsimp only
              unfold fb_X10_leftOf_167
              rw [nI_add, if_pos (nI_le (by omega) (by omega))]) bd_K (by rw [pz_K]; omega)
            have h' : bd_lp bd_K (fun q => fb_X10_leftOf_167 (nI t) (nI b) (nI a) q.1 q.2.1 q.2.2) (nI (w 2 t), nI b, M) = _ := h
            rw [h', pz_some]
          · rw [if_neg c4, if_neg c4]
