/-! THE RELATION of the class's cells and the reference's -/
def RpT (S M : bd_T) : Prop := ∃ n, n ≤ 20 ∧ bd_I S 10 = nI n ∧ bd_I M 0 = nI n ∧ ∀ i, i < n → ∃ y, y < 256 ∧ bd_A S 8 i = nI y ∧ bd_A M 1 i = nI y
def RpR (S M : bd_T) : Prop := ∃ m, m ≤ 6 ∧ bd_I S 1 = nI m ∧ bd_I M 10 = nI m ∧ ∀ i, i < m → ∃ y, y < 300 ∧ bd_A S 0 i = nI y ∧ bd_A M 17 i = nI y
def RpF (S M : bd_T) : Prop := ∀ i, i < 6 → bd_A S 1 i = bd_A M 0 (i + 1)
def RpP (S M : bd_T) : Prop := (bd_I S 0 = 0 ∧ bd_I M 11 = 0) ∨ (bd_I S 0 = 1 ∧ bd_I M 11 = 1 ∧ ∃ v, wF v ∧ wXg (ePI S) (ePA S) v ∧ wMg (eKI M) (eKA M) v)
def RRp (S M : bd_T) : Prop := RpT S M ∧ RpR S M ∧ RpF S M ∧ RpP S M
def Rw (w : bw) (S M : bd_T) : Prop := wF w ∧ wX S w ∧ wM M w ∧ cX' S w ∧ cM' M w ∧ preC S
def RR (S M : bd_T) : Prop := RRp S M ∧ ∃ w, Rw w S M
theorem getD_mem {l : List Nat} {i d : Nat} (h : i < l.length) : l.getD i d ∈ l := by
  rw [List.getD_eq_getElem?_getD, List.getElem?_eq_getElem h]
  exact List.getElem_mem h
theorem wXg_congr {I I' : Nat → Int32} {A A' : Nat → Nat → Int32} {w : bw} (hI : ∀ i, i < 7 → I' i = I i) (hA : ∀ c, c < 12 → A' c = A c) (h : wXg I A w) : wXg I' A' w := by
  unfold wXg at *
  rw [hI 0 (by decide), hI 1 (by decide), hI 2 (by decide), hI 3 (by decide), hI 4 (by decide), hI 5 (by decide), hI 6 (by decide), hA 0 (by decide), hA 1 (by decide), hA 2 (by decide), hA 3 (by decide), hA 4 (by decide), hA 5 (by decide), hA 6 (by decide), hA 7 (by decide), hA 8 (by decide), hA 9 (by decide), hA 10 (by decide), hA 11 (by decide)]
  exact h
def dj (xs ys : List Nat) : Bool := xs.all (fun k => !ys.contains k)
theorem dj_not {xs ys : List Nat} (h : dj xs ys = true) {k : Nat} (hk : k ∈ xs) : k ∉ ys := by
  have := List.all_eq_true.mp h k hk
  simpa using this
theorem RpT_kp {S S' M M' : bd_T} {xi xa xj yi ya yj : List Nat} (h : kp S S' xi xa xj) (k : kp M M' yi ya yj) (c : (dj [10] xi && dj [8] xa && dj [0] yi && dj [1] ya) = true) (r : RpT S M) : RpT S' M' := by
  simp only [Bool.and_eq_true] at c
  obtain ⟨⟨⟨c1, c2⟩, c3⟩, c4⟩ := c
  unfold RpT at *
  rw [h.1 10 (dj_not c1 (by decide)), h.2.1 8 (dj_not c2 (by decide)), k.1 0 (dj_not c3 (by decide)), k.2.1 1 (dj_not c4 (by decide))]
  exact r
theorem RpR_kp {S S' M M' : bd_T} {xi xa xj yi ya yj : List Nat} (h : kp S S' xi xa xj) (k : kp M M' yi ya yj) (c : (dj [1] xi && dj [0] xa && dj [10] yi && dj [17] ya) = true) (r : RpR S M) : RpR S' M' := by
  simp only [Bool.and_eq_true] at c
  obtain ⟨⟨⟨c1, c2⟩, c3⟩, c4⟩ := c
  unfold RpR at *
  rw [h.1 1 (dj_not c1 (by decide)), h.2.1 0 (dj_not c2 (by decide)), k.1 10 (dj_not c3 (by decide)), k.2.1 17 (dj_not c4 (by decide))]
  exact r
theorem RpF_kp {S S' M M' : bd_T} {xi xa xj yi ya yj : List Nat} (h : kp S S' xi xa xj) (k : kp M M' yi ya yj) (c : (dj [1] xa && dj [0] ya) = true) (r : RpF S M) : RpF S' M' := by
  simp only [Bool.and_eq_true] at c
  unfold RpF at *
  rw [h.2.1 1 (dj_not c.1 (by decide)), k.2.1 0 (dj_not c.2 (by decide))]
  exact r
theorem RpP_kp {S S' M M' : bd_T} {xi xa xj yi ya yj : List Nat} (h : kp S S' xi xa xj) (k : kp M M' yi ya yj) (c : (dj [0] xi && dj [6, 7, 8, 9, 20, 21, 22] xi && dj [5, 6, 21, 22, 23, 24, 25, 26, 27, 28, 29, 30] xa && dj [11] yi && dj [19] ya) = true) (r : RpP S M) : RpP S' M' := by
  simp only [Bool.and_eq_true] at c
  obtain ⟨⟨⟨⟨c1, c2⟩, c3⟩, c4⟩, c5⟩ := c
  unfold RpP at *
  rw [h.1 0 (dj_not c1 (by decide)), k.1 11 (dj_not c4 (by decide))]
  rcases r with r | ⟨r1, r2, v, r3, r4, r5⟩
  · exact Or.inl r
  · refine Or.inr ⟨r1, r2, v, r3, wXg_congr (fun i hi => h.1 _ (dj_not c2 (getD_mem hi))) (fun i hi => h.2.1 _ (dj_not c3 (getD_mem hi))) r4, ?_⟩
    have e1 : eKI M' = eKI M := by unfold eKI; rw [k.2.1 19 (dj_not c5 (by decide))]
    have e2 : eKA M' = eKA M := by unfold eKA; rw [k.2.1 19 (dj_not c5 (by decide))]
    rw [e1, e2]; exact r5
/-- what only reckons keeps the relation -/
theorem RR_calc {w : bw} {S S' M M' : bd_T} (hp : RRp S M) (hw : Rw w S M) (h : kp S S' [15, 16] [4, 9, 10] [0, 1, 2]) (k : kp M M' [7, 9] [15, 16, 18, 20, 21] [0, 1]) (h1 : cX' S' w) (h2 : cM' M' w) (h3 : preC S') : RR S' M' :=
  ⟨⟨RpT_kp h k (by decide) hp.1, RpR_kp h k (by decide) hp.2.1, RpF_kp h k (by decide) hp.2.2.1, RpP_kp h k (by decide) hp.2.2.2⟩, w, hw.1, wX_kp h (by decide) (by decide) hw.2.1, wM_kp k (by decide) (by decide) hw.2.2.1, h1, h2, h3⟩
theorem cX'_kp {w : bw} {S S' : bd_T} {xi xa xj : List Nat} (h : kp S S' xi xa xj) (c : (dj [15] xi && dj [9] xa) = true) (r : cX' S w) : cX' S' w := by
  simp only [Bool.and_eq_true] at c
  obtain ⟨n, h1, h2, h3⟩ := r
  exact ⟨n, h1, by rw [h.1 15 (dj_not c.1 (by decide))]; exact h2, fun t b ht hb => by rw [h.2.1 9 (dj_not c.2 (by decide))]; exact h3 t b ht hb⟩
theorem cX'_lX {w : bw} {S : bd_T} (r : lX S w) : cX' S w := ⟨_, Nat.le_refl _, r.1, r.2⟩
theorem lX_kp {w : bw} {S S' : bd_T} {xi xa xj : List Nat} (h : kp S S' xi xa xj) (c : (dj [15] xi && dj [9] xa) = true) (r : lX S w) : lX S' w := by
  simp only [Bool.and_eq_true] at c
  exact ⟨by rw [h.1 15 (dj_not c.1 (by decide))]; exact r.1, fun t b ht hb => by rw [h.2.1 9 (dj_not c.2 (by decide))]; exact r.2 t b ht hb⟩
theorem lM_kp {w : bw} {M M' : bd_T} {xi xa xj : List Nat} (h : kp M M' xi xa xj) (c : (dj [7] xi && dj [20] xa) = true) (r : lM M w) : lM M' w := by
  simp only [Bool.and_eq_true] at c
  exact ⟨by rw [h.1 7 (dj_not c.1 (by decide))]; exact r.1, fun a b ht hb => by rw [h.2.1 20 (dj_not c.2 (by decide))]; exact r.2 a b ht hb⟩
theorem cM'_kp {w : bw} {M M' : bd_T} {xi xa xj : List Nat} (h : kp M M' xi xa xj) (c : (dj [7] xi && dj [20] xa) = true) (r : cM' M w) : cM' M' w := by
  rcases r with r | r
  · simp only [Bool.and_eq_true] at c
    exact Or.inl (by rw [h.1 7 (dj_not c.1 (by decide))]; exact r)
  · exact Or.inr (lM_kp h c r)
theorem preC_kp {S S' : bd_T} {xi xa xj : List Nat} (h : kp S S' xi xa xj) (c : dj [1] xj = true) (r : preC S) : preC S' := by
  unfold preC at *
  rw [h.2.2 1 (dj_not c (by decide))]; exact r
/-! refusals -/
theorem RR_no {S M : bd_T} (h : RR S M) {n : Nat} {x : Int32} (hx : x = -(nI (n + 1))) (hn : n < 6) : ∃ S' M', f_X9_refuse x S = some (x, S') ∧ f_X10_no x M = some (x, M') ∧ RR S' M' := by
  refine ⟨_, _, pz_refuse hx hn, pz_no hx hn, ?_⟩
  have k1 := kp_pA S 1 n (bd_A S 1 n + 1)
  have k2 := kp_pA M 0 (n + 1) (bd_A M 0 (n + 1) + 1)
  obtain ⟨⟨p1, p2, p3, p4⟩, w, h1, h2, h3, h4, h5, h6⟩ := h
  refine ⟨⟨RpT_kp k1 k2 (by decide) p1, RpR_kp k1 k2 (by decide) p2, fun i hi => ?_, RpP_kp k1 k2 (by decide) p4⟩, w, h1, wX_kp k1 (by decide) (by decide) h2, wM_kp k2 (by decide) (by decide) h3, cX'_kp k1 (by decide) h4, cM'_kp k2 (by decide) h5, preC_kp k1 (by decide) h6⟩
  show upd (bd_A S 1) n _ i = upd (bd_A M 0) (n + 1) _ (i + 1)
  rw [pz_up, pz_up]
  by_cases z : i = n
  · rw [if_pos z, if_pos (by omega), p3 n hn]
  · rw [if_neg z, if_neg (by omega), p3 i hi]
/-- isThing, in both -/
theorem RR_isThing {S M : bd_T} (h : RR S M) (x : Int32) : (f_X9_isThing x S = some (0, S) ∧ f_X10_isThing x M = some (0, M)) ∨ ∃ w t, Rw w S M ∧ t < w 0 0 ∧ x = nI t ∧ f_X9_isThing x S = some (1, S) ∧ f_X10_isThing x M = some (1, M) := by
  obtain ⟨hp, w, hw⟩ := h
  have e1 : bd_I S 17 = nI (w 0 0) := hw.2.1.2.2.2.1
  have e2 : bd_I M 2 = nI (w 0 0) := hw.2.2.1.2.2.2.1
  have h66 := hw.1.1.1
  unfold f_X9_isThing f_X10_isThing
  rw [e1, e2]
  rcases pz_num x with c | ⟨t, ht, rfl⟩
  · rw [if_pos c, if_pos c]; exact Or.inl ⟨rfl, rfl⟩
  · rw [if_neg (show ¬ nI t < (0 : Int32) from nI_nlt (b := 0) (Nat.zero_le t) ht), if_neg (show ¬ nI t < (0 : Int32) from nI_nlt (b := 0) (Nat.zero_le t) ht)]
    by_cases c : w 0 0 ≤ t
    · rw [if_pos (nI_le c ht), if_pos (nI_le c ht)]; exact Or.inl ⟨rfl, rfl⟩
    · rw [if_neg (nI_ge (by omega) (by omega)), if_neg (nI_ge (by omega) (by omega))]
      exact Or.inr ⟨w, t, hw, by omega, rfl, rfl, rfl⟩
/-- a MINUTE, in both -/
theorem RR_minute (x : Int32) (S M : bd_T) : (∃ y n, n < 6 ∧ y = -(nI (n + 1)) ∧ f_X9_wrongMinute x S = some (y, S) ∧ f_X10_out x 0 299 M = some (y, M)) ∨ ∃ b, b < 300 ∧ x = nI b ∧ f_X9_wrongMinute x S = some (0, S) ∧ f_X10_out x 0 299 M = some (0, M) := by
  unfold f_X9_wrongMinute f_X10_out
  rcases pz_num x with c | ⟨b, hb, rfl⟩
  · rw [if_neg (Int32.not_le.mpr c), if_neg (Int32.not_le.mpr c)]
    exact Or.inl ⟨-4, 3, by omega, rfl, rfl, rfl⟩
  · rw [if_pos (show (0 : Int32) ≤ nI b from nI_le (a := 0) (by omega) hb), if_pos (show (0 : Int32) ≤ nI b from nI_le (a := 0) (by omega) hb)]
    by_cases c : b ≤ 299
    · rw [if_pos (show nI b ≤ (299 : Int32) from nI_le (b := 299) c (by omega)), if_pos (show nI b ≤ (299 : Int32) from nI_le (b := 299) c (by omega))]
      exact Or.inr ⟨b, by omega, rfl, rfl, rfl⟩
    · rw [if_neg (show ¬ nI b ≤ (299 : Int32) from nI_ge (a := 299) (by omega) hb), if_neg (show ¬ nI b ≤ (299 : Int32) from nI_ge (a := 299) (by omega) hb)]
      exact Or.inl ⟨-6, 5, by omega, rfl, rfl, rfl⟩
