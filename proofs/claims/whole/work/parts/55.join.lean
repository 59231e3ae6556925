/-- a world with a JOINING set anew -/
def wJ (w : bw) (t p k n : Nat) : bw := fun c i => if i = t then (if c = 4 then p else if c = 5 then k else if c = 6 then n else w c i) else w c i
theorem wJ_ne {w : bw} {t p k n c i : Nat} (h : c ≠ 4 ∧ c ≠ 5 ∧ c ≠ 6) : wJ w t p k n c i = w c i := by
  unfold wJ
  rw [if_neg h.1, if_neg h.2.1, if_neg h.2.2]
  split <;> rfl
theorem wJ_o {w : bw} {t p k n c i : Nat} (h : i ≠ t) : wJ w t p k n c i = w c i := if_neg h
theorem RR_join {S M : bd_T} {w : bw} (hp : RRp S M) (hw : Rw w S M) {t p k n : Nat} (ht : t < w 0 0) (h1 : p ≤ t) (h2 : k ≤ 3) (h3 : n ≤ 299) {v : Int32} (hv : v = nI p - 1) {M' : bd_T} (J : kp M M' [] [12, 13, 14] []) (m1 : ∀ i, i < 6 → bd_A M' 12 i = if i = t then v else bd_A M 12 i) (m2 : ∀ i, i < 6 → bd_A M' 13 i = if i = t ∧ p ≠ 0 then nI k else bd_A M 13 i) (m3 : ∀ i, i < 6 → bd_A M' 14 i = if i = t ∧ p ≠ 0 then nI n else bd_A M 14 i) : ∃ S', f_X7_tie (nI t) v (nI k) (nI n) S = some (1, S') ∧ RR S' M' := by
  obtain ⟨hf, hX, hM, hc, hm, hpre⟩ := id hw
  have h66 := hf.1.1
  unfold f_X7_tie
  rw [pz_lay (k := 14) (show t < 6 by omega) (by decide), pz_b2, pz_lay (k := 15) (show t < 6 by omega) (by decide), pz_b2, pz_lay (k := 16) (show t < 6 by omega) (by decide), pz_b2]
  have K : kp S (bd_pA (bd_pA (bd_pA S 14 t v) 15 t (nI k)) 16 t (nI n)) [] [14, 15, 16] [] := ((kp_pA _ _ _ _).mono (by decide) (by decide) (by decide)).trans (((kp_pA _ _ _ _).mono (by decide) (by decide) (by decide)).trans ((kp_pA _ _ _ _).mono (by decide) (by decide) (by decide)))
  have e00 : ∀ i, wJ w t p k n 0 i = w 0 i := fun i => wJ_ne (by decide)
  have hs : sameL w (wJ w t p k n) := ⟨fun i _ _ => e00 i, fun k _ => ⟨wJ_ne (by decide), wJ_ne (by decide), wJ_ne (by decide), wJ_ne (by decide), wJ_ne (by decide), wJ_ne (by decide), wJ_ne (by decide)⟩⟩
  obtain ⟨p1, p2, p3, p4⟩ := hp
  have r : ∀ c i, c ≠ 4 → c ≠ 5 → c ≠ 6 → wJ w t p k n c i = w c i := fun c i a b d => wJ_ne ⟨a, b, d⟩
  have q4 : ∀ i, wJ w t p k n 4 i = if i = t then p else w 4 i := fun i => rfl
  have q5 : ∀ i, wJ w t p k n 5 i = if i = t then k else w 5 i := fun i => rfl
  have q6 : ∀ i, wJ w t p k n 6 i = if i = t then n else w 6 i := fun i => rfl
  have r0 := fun i => r 0 i (by decide) (by decide) (by decide)
  have r1 := fun i => r 1 i (by decide) (by decide) (by decide)
  have r2 := fun i => r 2 i (by decide) (by decide) (by decide)
  have r3 := fun i => r 3 i (by decide) (by decide) (by decide)
  have r7 := fun i => r 7 i (by decide) (by decide) (by decide)
  have r8 := fun i => r 8 i (by decide) (by decide) (by decide)
  have r9 := fun i => r 9 i (by decide) (by decide) (by decide)
  have r10 := fun i => r 10 i (by decide) (by decide) (by decide)
  have r11 := fun i => r 11 i (by decide) (by decide) (by decide)
  have r12 := fun i => r 12 i (by decide) (by decide) (by decide)
  have r13 := fun i => r 13 i (by decide) (by decide) (by decide)
  have rd : ∀ m, wdb (wJ w t p k n) m = wdb w m := fun m => by unfold wdb; simp only [r13]
  have n5 : ∀ i, i ≠ t → eXA (bd_pA (bd_pA (bd_pA S 14 t v) 15 t (nI k)) 16 t (nI n)) 5 i = eXA S 5 i := fun i z => if_neg z
  have n6 : ∀ i, i ≠ t → eXA (bd_pA (bd_pA (bd_pA S 14 t v) 15 t (nI k)) 16 t (nI n)) 6 i = eXA S 6 i := fun i z => if_neg z
  have n7 : ∀ i, i ≠ t → eXA (bd_pA (bd_pA (bd_pA S 14 t v) 15 t (nI k)) 16 t (nI n)) 7 i = eXA S 7 i := fun i z => if_neg z
  have t5 : eXA (bd_pA (bd_pA (bd_pA S 14 t v) 15 t (nI k)) 16 t (nI n)) 5 t = v := if_pos rfl
  have t6 : eXA (bd_pA (bd_pA (bd_pA S 14 t v) 15 t (nI k)) 16 t (nI n)) 6 t = nI k := if_pos rfl
  have t7 : eXA (bd_pA (bd_pA (bd_pA S 14 t v) 15 t (nI k)) 16 t (nI n)) 7 t = nI n := if_pos rfl
  refine ⟨_, rfl, ⟨RpT_kp K J (by decide) p1, RpR_kp K J (by decide) p2, RpF_kp K J (by decide) p3, RpP_kp K J (by decide) p4⟩, wJ w t p k n, ?_, ?_, ?_, cX'_w hs (by rw [e00]; exact Nat.le_refl _) (cX'_kp K (by decide) hc), cM'_w hs (e00 6) (cM'_kp J (by decide) hm), preC_kp K (by decide) hpre⟩
  · unfold wF at hf ⊢
    simp only [r0, r1, r2, r3, r7, r8, r9, r10, r11, r12, r13, q4, q5, q6]
    refine ⟨hf.1, hf.2.1, hf.2.2.1, fun i hi => ?_, hf.2.2.2.2⟩
    obtain ⟨a1, a2, a3, a4, a5, a6⟩ := hf.2.2.2.1 i hi
    by_cases z : i = t
    · rw [if_pos z, if_pos z, if_pos z]; exact ⟨a1, a2, a3, by omega, h2, h3⟩
    · rw [if_neg z, if_neg z, if_neg z]; exact ⟨a1, a2, a3, a4, a5, a6⟩
  · unfold wX wXg at hX ⊢
    simp only [r0, r1, r2, r3, r7, r8, r9, r10, r11, r12, rd, q4, q5, q6]
    obtain ⟨b1, b2, b3, b4, b5, b6, b7, b8, b9⟩ := hX
    refine ⟨b1, b2, b3, b4, b5, b6, b7, fun i hi => ?_, b9⟩
    obtain ⟨a1, a2, a3, a4, a5, a6⟩ := b8 i hi
    refine ⟨a1, a2, a3, ?_⟩
    by_cases z : i = t
    · rw [if_pos z, if_pos z, if_pos z, z, t5, t6, t7]; exact ⟨hv, rfl, rfl⟩
    · rw [if_neg z, if_neg z, if_neg z, n5 i z, n6 i z, n7 i z]; exact ⟨a4, a5, a6⟩
  · have hM' := hM
    unfold wM wMg at hM ⊢
    simp only [r0, r1, r2, r3, r7, r8, r9, r10, r11, r12, r13, q4, q5, q6]
    obtain ⟨b1, b2, b3, b4, b5, b6, b7, b8⟩ := hM
    have gi : ∀ j, eMI M' j = eMI M j := fun j => J.1 _ (by simp)
    have ga : ∀ c, c < 13 → c ≠ 5 → c ≠ 6 → c ≠ 7 → eMA M' c = eMA M c := fun c hc a b d => J.2.1 _ (by
      rcases (show c = 0 ∨ c = 1 ∨ c = 2 ∨ c = 3 ∨ c = 4 ∨ c = 8 ∨ c = 9 ∨ c = 10 ∨ c = 11 ∨ c = 12 by omega) with rfl | rfl | rfl | rfl | rfl | rfl | rfl | rfl | rfl | rfl <;> decide)
    rw [gi, gi, gi, gi, gi, gi, ga 0 (by decide) (by decide) (by decide) (by decide), ga 1 (by decide) (by decide) (by decide) (by decide), ga 2 (by decide) (by decide) (by decide) (by decide), ga 3 (by decide) (by decide) (by decide) (by decide), ga 4 (by decide) (by decide) (by decide) (by decide), ga 8 (by decide) (by decide) (by decide) (by decide), ga 9 (by decide) (by decide) (by decide) (by decide), ga 10 (by decide) (by decide) (by decide) (by decide), ga 11 (by decide) (by decide) (by decide) (by decide), ga 12 (by decide) (by decide) (by decide) (by decide)]
    refine ⟨b1, b2, b3, b4, b5, b6, fun i hi => ?_, b8⟩
    obtain ⟨a1, a2, a3, a4, a5⟩ := b7 i hi
    refine ⟨a1, a2, a3, ?_⟩
    have x1 : eMA M' 5 i = _ := m1 i (by omega)
    have x2 : eMA M' 6 i = _ := m2 i (by omega)
    have x3 : eMA M' 7 i = _ := m3 i (by omega)
    rw [x1, x2, x3]
    by_cases z : i = t
    · rw [if_pos z, if_pos z, if_pos z, if_pos z]
      exact ⟨hv, fun y => by rw [if_pos ⟨z, y⟩, if_pos ⟨z, y⟩]; exact ⟨rfl, rfl⟩⟩
    · rw [if_neg z, if_neg z, if_neg z, if_neg z, if_neg (fun y => z y.1), if_neg (fun y => z y.1)]
      exact ⟨a4, a5⟩
