/-! what the LOOKS say depends on a part of the world alone -/
theorem wop_congr {w w' : bw} (h0 : ∀ i, 1 ≤ i → i ≤ 4 → w' 0 i = w 0 i) (m : Nat) : wop w' m = wop w m := by
  unfold wop
  rw [h0 2 (by omega) (by omega), h0 3 (by omega) (by omega), h0 4 (by omega) (by omega)]
theorem cop_congr {w w' : bw} (h0 : ∀ i, 1 ≤ i → i ≤ 4 → w' 0 i = w 0 i) (b n : Nat) : cop w' b n = cop w b n := by
  induction n with
  | zero => rfl
  | succ n ih => unfold cop; rw [ih, wop_congr h0]
theorem LV_congr {w w' : bw} (h0 : ∀ i, 1 ≤ i → i ≤ 4 → w' 0 i = w 0 i) {t : Nat} (h1 : w' 1 t = w 1 t) (h2 : w' 2 t = w 2 t) (h3 : w' 3 t = w 3 t) (b a : Nat) : LV w' t b a = LV w t b a := by
  have e : wHp w' t = wHp w t := by
    funext m
    unfold wHp wIn
    rw [wop_congr h0, h3]
  unfold LV
  rw [h1, h2, h3, h0 1 (by omega) (by omega), cop_congr h0, e]
def sameL (w w' : bw) : Prop := (∀ i, 1 ≤ i → i ≤ 4 → w' 0 i = w 0 i) ∧ ∀ k, k < w 0 6 → w' 9 k = w 9 k ∧ w' 10 k = w 10 k ∧ w' 11 k = w 11 k ∧ w' 12 k = w 12 k ∧ w' 1 (w 9 k) = w 1 (w 9 k) ∧ w' 2 (w 9 k) = w 2 (w 9 k) ∧ w' 3 (w 9 k) = w 3 (w 9 k)
theorem lets_congr {w w' : bw} (h : sameL w w') {k : Nat} (hk : k < w 0 6) (b : Nat) : lets w' k b = lets w k b := by
  obtain ⟨a1, a2, a3, a4, a5, a6, a7⟩ := h.2 k hk
  unfold lets
  rw [a1, a2, a3, a4, LV_congr h.1 a5 a6 a7]
theorem cX'_w {S : bd_T} {w w' : bw} (h : sameL w w') (h6 : w 0 6 ≤ w' 0 6) (hc : cX' S w) : cX' S w' := by
  obtain ⟨n, h1, h2, h3⟩ := hc
  refine ⟨n, by omega, h2, fun t b ht hb => ?_⟩
  rw [h3 t b ht hb]
  refine congrArg nI (bsum_congr (fun k hk => ?_))
  rw [lets_congr h (by omega), (h.2 k (by omega)).1]
theorem cM'_w {M : bd_T} {w w' : bw} (h : sameL w w') (h6 : w' 0 6 = w 0 6) (hc : cM' M w) : cM' M w' := by
  rcases hc with hc | ⟨h1, h2⟩
  · exact Or.inl hc
  · refine Or.inr ⟨h1, fun k b hk hb => ?_⟩
    rw [h2 k b (by omega) hb, lets_congr h (by omega)]
