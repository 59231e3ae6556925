theorem le299 {n : Nat} (hn : n < 2 ^ 31) : (nI n ≤ (299 : Int32)) ↔ n ≤ 299 := nI_leI (b := 299) hn (by omega)
theorem lt299 {n : Nat} (hn : n < 2 ^ 31) : ((299 : Int32) < nI n) ↔ 299 < n := nI_ltI (a := 299) (by omega) hn
theorem ge300 {n : Nat} (hn : n < 2 ^ 31) : ((300 : Int32) ≤ nI n) ↔ 300 ≤ n := nI_leI (a := 300) (by omega) hn
theorem lt300 {n : Nat} (hn : n < 2 ^ 31) : (nI n < (300 : Int32)) ↔ n < 300 := nI_ltI (b := 300) hn (by omega)
theorem pos0 {n : Nat} (hn : n < 2 ^ 31) : (0 : Int32) ≤ nI n := nI_le (a := 0) (Nat.zero_le n) hn
theorem npos0 {n : Nat} (hn : n < 2 ^ 31) : ¬ nI n < (0 : Int32) := nI_nlt (b := 0) (Nat.zero_le n) hn
theorem RR_no' {S M : bd_T} (h : RR S M) {n : Nat} {x : Int32} (hx : x = -(nI (n + 1))) (hn : n < 6) : ∃ (r : Int32) (S' M' : bd_T), bd_b2 (f_X9_refuse x S) (fun (r3 : Int32) (S4 : bd_T) => some (r3, S4)) = some (r, S') ∧ bd_b2 (f_X10_no x M) (fun (r3 : Int32) (S4 : bd_T) => some (r3, S4)) = some (r, M') ∧ RR S' M' := by
  obtain ⟨S', M', f1, f2, hr⟩ := RR_no h hx hn
  rw [f1, f2, pz_b2, pz_b2]
  exact ⟨_, S', M', rfl, rfl, hr⟩
theorem r_left : rel_left RR := by
  intro x b a S M h
  unfold f_X9_left f_X10_left f_X10_why
  rcases RR_isThing h x with ⟨e1, e2⟩ | ⟨w, t, hw, ht, rfl, e1, e2⟩
  · rw [e1, e2, pz_b2, pz_b2, if_pos rfl, if_pos rfl]
    exact RR_no' h (n := 0) (x := -1) rfl (by omega)
  · rw [e1, e2, pz_b2, pz_b2, if_neg (show ¬ (1 : Int32) = 0 by decide), if_neg (show ¬ (1 : Int32) = 0 by decide)]
    rcases pz_num b with c | ⟨b, hb, rfl⟩
    · rw [if_pos c, if_pos c, pz_b2, if_neg (show ¬ (-4 : Int32) = 0 by decide)]
      exact RR_no' h (n := 3) (x := -4) rfl (by omega)
    · rw [if_neg (npos0 hb), if_neg (npos0 hb)]
      rcases pz_num a with c | ⟨a, ha, rfl⟩
      · rw [if_neg (Int32.not_le.mpr c), if_neg (Int32.not_le.mpr c), pz_b2, if_neg (show ¬ (-4 : Int32) = 0 by decide)]
        exact RR_no' h (n := 3) (x := -4) rfl (by omega)
      · rw [if_pos (pos0 ha), if_pos (pos0 ha)]
        by_cases c : 299 < b
        · rw [if_pos ((lt299 hb).mpr c), if_pos ((ge300 hb).mpr (by omega)), pz_b2, if_neg (show ¬ (-6 : Int32) = 0 by decide)]
          exact RR_no' h (n := 5) (x := -6) rfl (by omega)
        · rw [if_neg (show ¬ (299 : Int32) < nI b from fun z => c ((lt299 hb).mp z)), if_neg (show ¬ (300 : Int32) ≤ nI b from fun z => by have := (ge300 hb).mp z; omega)]
          by_cases d : a ≤ 299
          · rw [if_pos ((le299 ha).mpr d), if_pos ((lt300 ha).mpr (by omega)), pz_b2, if_pos (show (0 : Int32) = 0 from rfl), pz_left hw.2.1 hw.1 ht (by omega) d, pm_left hw.2.2.1 hw.1 ht (by omega) d, pz_b2, pz_b2]
            exact ⟨_, S, M, rfl, rfl, h⟩
          · rw [if_neg (show ¬ nI a ≤ (299 : Int32) from fun z => d ((le299 ha).mp z)), if_neg (show ¬ nI a < (300 : Int32) from fun z => by have := (lt300 ha).mp z; omega), pz_b2, if_neg (show ¬ (-6 : Int32) = 0 by decide)]
            exact RR_no' h (n := 5) (x := -6) rfl (by omega)
/-! a world with a cell set anew -/
def wst (w : bw) (c i v : Nat) : bw := fun a j => if a = c ∧ j = i then v else w a j
theorem cX'_new {S : bd_T} {w : bw} (h15 : bd_I S 15 = 0) (h9 : ∀ t b, t < 6 → b < 300 → bd_A S 9 (300 * t + b) = 0) : cX' S w := ⟨0, Nat.zero_le _, h15, fun t b ht hb => h9 t b ht hb⟩
theorem r_room : rel_room RR := by
  intro x S M h
  unfold f_X9_room f_X10_room f_X10_out
  rcases pz_num x with c | ⟨v, hv, rfl⟩
  · rw [if_neg (Int32.not_le.mpr c), if_neg (Int32.not_le.mpr c), pz_b2, if_neg (show ¬ (-4 : Int32) = 0 by decide)]
    exact RR_no' h (n := 3) (x := -4) rfl (by omega)
  · rw [if_pos (pos0 hv), if_pos (pos0 hv)]
    have e : (nI v ≤ (9999 : Int32)) ↔ v ≤ 9999 := nI_leI (b := 9999) hv (by omega)
    by_cases c : v ≤ 9999
    · obtain ⟨⟨p1, p2, p3, p4⟩, w, h1, h2, h3, h4, h5, h6⟩ := id h
      rw [if_pos (e.mpr c), if_pos (e.mpr c), pz_b2, if_pos (show (0 : Int32) = 0 from rfl), pz_b1, pz_b1, pz_si, pz_si, pz_si]
      have K1 := kp_pI S 2 (nI v)
      obtain ⟨S', f1, f2, f3, K2⟩ := px_forget (S := bd_pI S 2 (nI v)) (cX'_kp K1 (by decide) h4) h1.1.2.2.2.2
      have K : kp S S' [2, 15] [9] [] := (K1.mono (by decide) (by decide) (by decide)).trans (K2.mono (by decide) (by decide) (by decide))
      have J : kp M (bd_pI (bd_pI M 3 (nI v)) 7 1) [3, 7] [] [] := ((kp_pI _ _ _).mono (by decide) (by decide) (by decide)).trans ((kp_pI _ _ _).mono (by decide) (by decide) (by decide))
      rw [f1, pz_b2, show bd_I S 2 = nI (w 0 1) from h2.1, show bd_I M 3 = nI (w 0 1) from h3.1]
      have hX : wX (bd_pI S 2 (nI v)) (wst w 0 1 v) := ⟨rfl, h2.2⟩
      have hM : wM (bd_pI (bd_pI M 3 (nI v)) 7 1) (wst w 0 1 v) := ⟨rfl, h3.2⟩
      exact ⟨_, S', _, rfl, rfl, ⟨RpT_kp K J (by decide) p1, RpR_kp K J (by decide) p2, RpF_kp K J (by decide) p3, RpP_kp K J (by decide) p4⟩, wst w 0 1 v, ⟨⟨h1.1.1, c, h1.1.2.2⟩, h1.2⟩, wX_kp K2 (by decide) (by decide) hX, hM, cX'_new f2 f3, Or.inl rfl, preC_kp K (by decide) h6⟩
    · rw [if_neg (fun z => c (e.mp z)), if_neg (fun z => c (e.mp z)), pz_b2, if_neg (show ¬ (-6 : Int32) = 0 by decide)]
      exact RR_no' h (n := 5) (x := -6) rfl (by omega)
