/-- 0 or 1, in the reference -/
theorem pm_isIn (x : Int32) (M : bd_T) : (x = 0 ∨ x = 1) ∧ f_X10_isIn x 0 1 M = some (1, M) ∨ (¬ x = 0 ∧ ¬ x = 1) ∧ f_X10_isIn x 0 1 M = some (0, M) := by
  unfold f_X10_isIn
  rcases pz_num x with c | ⟨n, hn, rfl⟩
  · rw [if_pos c]
    refine Or.inr ⟨⟨fun z => ?_, fun z => ?_⟩, rfl⟩ <;> (rw [z] at c; exact absurd c (by decide))
  · rw [if_neg (show ¬ nI n < (0 : Int32) from nI_nlt (b := 0) (Nat.zero_le n) hn)]
    have e0 : nI n = (0 : Int32) ↔ n = 0 := nI_eq (b := 0) hn (by omega)
    have e1 : nI n = (1 : Int32) ↔ n = 1 := nI_eq (b := 1) hn (by omega)
    by_cases c : n ≤ 1
    · rw [if_neg (show ¬ (1 : Int32) < nI n from nI_nlt (a := 1) c (by omega))]
      exact Or.inl ⟨by rw [e0, e1]; omega, rfl⟩
    · rw [if_pos (show (1 : Int32) < nI n from nI_lt (a := 1) (by omega) hn)]
      exact Or.inr ⟨by rw [e0, e1]; omega, rfl⟩
theorem nI_ne9 {b : Nat} (hb : b < 300) : ¬ nI b = (-9 : Int32) := fun z => by
  have : ¬ nI b < (0 : Int32) := nI_nlt (b := 0) (Nat.zero_le b) (by omega)
  exact absurd (z ▸ (by decide : (-9 : Int32) < 0)) this
theorem run_both {S2 M1 : bd_T} {w : bw} (hf : wF w) {t : Nat} (ht : t < w 0 0) (r2 : ∀ b, b < 300 → bd_J S2 0 (300 * t + b) = lN (ZwC w (wg (g0 w)) t b)) (r1 : ∀ b, b < 300 → bd_A M1 21 b = if 0 < ZwC w (wg (g0 w)) t b then 1 else 0) (x p3 : Int32) : ∃ y, bd_b2 (f_X9_runStart (nI t) x S2) (fun (r9 : Int32) (S10 : bd_T) => (if r9 = (-9 : Int32) then some (r9, S10) else (if p3 = 0 then some (r9, S10) else bd_b2 (f_X9_runEnd (nI t) r9 S10) (fun (r11 : Int32) (S12 : bd_T) => some (r11, S12))))) = some (y, S2) ∧ (bd_lp bd_K (fun q => fb_X10_run_41 x p3 q.1 q.2.1 q.2.2) ((-1 : Int32), (0 : Int32), M1)).bind (fun r => Sum.elim (fun z => some z) (fun r => (fun  (S32 : bd_T) => some ((-9 : Int32), S32)) r) r) = some (y, M1) := by
  have hA : ∀ b, b < 300 → bd_A M1 21 b = if mP w t b = true then 1 else 0 := fun b hb => by
    rw [r1 b hb]; unfold mP
    by_cases c : 0 < ZwC w (wg (g0 w)) t b
    · rw [if_pos c, if_pos (decide_eq_true c)]
    · rw [if_neg c, if_neg (by simpa using c)]
  obtain ⟨r, e, hpost⟩ := pm_runlp hA x p3
  rw [e, pz_some]
  rcases px_runStart hf ht r2 x with ⟨b, hb, f⟩ | ⟨hn, f⟩
  · rw [f, pz_b2, if_neg (nI_ne9 hb.1)]
    rcases hpost with ⟨b', e', h1, h2, h3, rfl⟩ | ⟨h1, rfl⟩
    · have := FHit_one hb h1
      subst this
      by_cases c : p3 = 0
      · rw [if_pos c, h2 c]
        exact ⟨_, rfl, rfl⟩
      · rw [if_neg c]
        have hp : mP w t b = true := by
          have := hb.2.1.1
          unfold stt at this
          simp only [Bool.and_eq_true] at this
          exact this.1
        obtain ⟨e2, g1, g2⟩ := px_runEnd hf ht r2 hb.1 hp
        have := EndR_one g1 (h3 c)
        subst this
        rw [g2, pz_b2]
        exact ⟨_, rfl, rfl⟩
    · exact absurd hb.2.1 (h1 b hb.1)
  · rw [f, pz_b2, if_pos rfl]
    rcases hpost with ⟨b', e', h1, h2, h3, rfl⟩ | ⟨h1, rfl⟩
    · exact absurd h1.2.1 (hn _ h1.1)
    · exact ⟨_, rfl, rfl⟩
theorem r_run : rel_run RR := by
  intro x i p3 S M h
  unfold f_X9_run f_X10_run
  rcases RR_isThing h x with ⟨e1, e2⟩ | ⟨w, t, hw, ht, rfl, e1, e2⟩
  · rw [e1, e2, pz_b2, pz_b2, if_pos rfl, if_pos rfl]
    obtain ⟨S', M', f1, f2, hr⟩ := RR_no h (n := 0) (x := -1) rfl (by omega)
    rw [f1, f2, pz_b2, pz_b2]
    exact ⟨_, S', M', rfl, rfl, hr⟩
  · obtain ⟨S1, S2, M1, a1, a2, g1, r2, r1, hR, -, -, -⟩ := both_may h hw ht
    obtain ⟨y, u1, u2⟩ := run_both hw.1 ht r2 r1 i p3
    rw [e1, e2, pz_b2, pz_b2, if_neg (show ¬ (1 : Int32) = 0 by decide), if_neg (show ¬ (1 : Int32) = 0 by decide)]
    rcases pm_isIn p3 M with ⟨hp, e3⟩ | ⟨hp, e3⟩
    · rw [e3, pz_b2, if_neg (show ¬ (1 : Int32) = 0 by decide), g1, pz_b2, u2]
      refine ⟨y, S2, M1, ?_, rfl, hR⟩
      by_cases c : p3 = 0
      · rw [if_pos c, a1, pz_b2, a2, pz_b2]
        exact u1
      · rw [if_neg c, if_pos (hp.resolve_left c), a1, pz_b2, a2, pz_b2]
        exact u1
    · rw [e3, pz_b2, if_pos (show (0 : Int32) = 0 from rfl), if_neg hp.1, if_neg hp.2]
      obtain ⟨S', M', f1, f2, hr⟩ := RR_no h (n := 1) (x := -2) rfl (by omega)
      rw [f1, f2, pz_b2, pz_b2]
      exact ⟨_, S', M', rfl, rfl, hr⟩
