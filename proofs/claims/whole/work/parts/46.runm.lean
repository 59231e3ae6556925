def RunPost (P : Nat → Bool) (x p3 : Int32) (M : bd_T) (r : (Int32 × bd_T) ⊕ bd_T) : Prop := (∃ b e, FHit P x b ∧ (p3 = 0 → e = b) ∧ (p3 ≠ 0 → EndR P b e) ∧ r = .inl (nI e, M)) ∨ ((∀ j, j < 300 → ¬ Hit P x j) ∧ r = .inr M)
theorem run_stop {P : Nat → Bool} {x p3 : Int32} {M : bd_T} (hr : ∀ b, b < 300 → bd_A M 21 b = if P b = true then 1 else 0) {b i : Nat} (hb : FHit P x b) (hi : i < 300) (hbi : b ≤ i) (hP : ∀ k, b ≤ k → k ≤ i → P k = true) (h0 : p3 = 0 → i = b) (st : Int32 × Int32 × bd_T) : (∃ r, (if p3 = 0 then some (.inr (.inl (nI i, M))) else (if nI i = (299 : Int32) then some (.inr (.inl (nI i, M))) else (bd_ga M 21 300 (nI i + (1 : Int32))).bind (fun (z12 : Int32) => (if z12 = 0 then some (.inr (.inl (nI i, M))) else some (.inl st)))) : Option ((Int32 × Int32 × bd_T) ⊕ ((Int32 × bd_T) ⊕ bd_T))) = some (.inr r) ∧ RunPost P x p3 M r) ∨ ((if p3 = 0 then some (.inr (.inl (nI i, M))) else (if nI i = (299 : Int32) then some (.inr (.inl (nI i, M))) else (bd_ga M 21 300 (nI i + (1 : Int32))).bind (fun (z12 : Int32) => (if z12 = 0 then some (.inr (.inl (nI i, M))) else some (.inl st)))) : Option ((Int32 × Int32 × bd_T) ⊕ ((Int32 × bd_T) ⊕ bd_T))) = some (.inl st) ∧ i + 1 < 300 ∧ P (i + 1) = true ∧ p3 ≠ 0) := by
  by_cases c : p3 = 0
  · rw [if_pos c]
    exact Or.inl ⟨_, rfl, Or.inl ⟨b, i, hb, h0, fun z => absurd c z, rfl⟩⟩
  · rw [if_neg c]
    by_cases d : i = 299
    · rw [if_pos (show nI i = (299 : Int32) by rw [d]; rfl)]
      exact Or.inl ⟨_, rfl, Or.inl ⟨b, i, hb, h0, fun _ => ⟨hbi, hi, hP, Or.inl d⟩, rfl⟩⟩
    · rw [if_neg (show ¬ nI i = (299 : Int32) from fun z => d ((nI_eq (b := 299) (by omega) (by omega)).mp z)), nI_1, pz_ga (show i + 1 < 300 by omega) (by decide), pz_some, hr _ (by omega)]
      by_cases f : P (i + 1) = true
      · rw [if_pos f, if_neg (by decide)]
        exact Or.inr ⟨rfl, by omega, f, c⟩
      · rw [if_neg f, if_pos rfl]
        exact Or.inl ⟨_, rfl, Or.inl ⟨b, i, hb, h0, fun _ => ⟨hbi, hi, hP, Or.inr f⟩, rfl⟩⟩
theorem pm_runlp {P : Nat → Bool} {M : bd_T} (hr : ∀ b, b < 300 → bd_A M 21 b = if P b = true then 1 else 0) (x p3 : Int32) : ∃ r, bd_lp bd_K (fun q => fb_X10_run_41 x p3 q.1 q.2.1 q.2.2) ((-1 : Int32), (0 : Int32), M) = some r ∧ RunPost P x p3 M r := by
  refine pz_loop (F := fun q => fb_X10_run_41 x p3 q.1 q.2.1 q.2.2) (fun i s => s = (nI (cnt (stt P) i) - 1, nI i, M) ∧ (((∀ j, j < i → ¬ Hit P x j) ∧ ∀ k, i = k + 1 → P k = true → nI (cnt (stt P) i) - 1 ≠ x) ∨ ∃ b, FHit P x b ∧ b < i ∧ i < 300 ∧ (∀ k, b ≤ k → k ≤ i → P k = true) ∧ nI (cnt (stt P) i) - 1 = x ∧ p3 ≠ 0)) (RunPost P x p3 M) 300 (fun i s hi hs => ?_) (fun s hs => ?_) ⟨rfl, Or.inl ⟨fun j hj => by omega, fun k hk => by omega⟩⟩ bd_K (by rw [pz_K]; omega)
  · obtain ⟨rfl, q2⟩ := hs
    dsimp only
    unfold fb_X10_run_41
    rw [if_neg (n300 hi), pz_ga hi (by decide), pz_some, hr i hi]
    by_cases c : P i = true
    · rw [if_pos c, if_neg (by decide)]
      by_cases hst : stt P i = true
      · -- it starts
        have hA : (∀ j, j < i → ¬ Hit P x j) := by
          rcases q2 with q | ⟨b, q1, q2, q3, q4, q5⟩
          · exact q.1
          · exfalso
            unfold stt at hst
            rw [q4 (i - 1) (by omega) (by omega), decide_eq_false (show ¬ i = 0 by omega)] at hst
            simp at hst
        have nxt : nI (cnt (stt P) i) = nI (cnt (stt P) (i + 1)) - 1 := by
          rw [← cnt_y hst, Int32.add_sub_cancel]
        have core : (∃ s', (if nI (cnt (stt P) i) - 1 + 1 = x then (if p3 = 0 then some (.inr (.inl (nI i, M))) else (if nI i = (299 : Int32) then some (.inr (.inl (nI i, M))) else (bd_ga M 21 300 (nI i + (1 : Int32))).bind (fun (z12 : Int32) => (if z12 = 0 then some (.inr (.inl (nI i, M))) else some (.inl (nI (cnt (stt P) i) - 1 + 1, nI i + 1, M)))))) else some (.inl (nI (cnt (stt P) i) - 1 + 1, nI i + 1, M)) : Option ((Int32 × Int32 × bd_T) ⊕ ((Int32 × bd_T) ⊕ bd_T))) = some (.inl s') ∧ s' = (nI (cnt (stt P) (i + 1)) - 1, nI (i + 1), M) ∧ (((∀ j, j < i + 1 → ¬ Hit P x j) ∧ ∀ k, i + 1 = k + 1 → P k = true → nI (cnt (stt P) (i + 1)) - 1 ≠ x) ∨ ∃ b, FHit P x b ∧ b < i + 1 ∧ i + 1 < 300 ∧ (∀ k, b ≤ k → k ≤ i + 1 → P k = true) ∧ nI (cnt (stt P) (i + 1)) - 1 = x ∧ p3 ≠ 0)) ∨ ∃ r, (if nI (cnt (stt P) i) - 1 + 1 = x then (if p3 = 0 then some (.inr (.inl (nI i, M))) else (if nI i = (299 : Int32) then some (.inr (.inl (nI i, M))) else (bd_ga M 21 300 (nI i + (1 : Int32))).bind (fun (z12 : Int32) => (if z12 = 0 then some (.inr (.inl (nI i, M))) else some (.inl (nI (cnt (stt P) i) - 1 + 1, nI i + 1, M)))))) else some (.inl (nI (cnt (stt P) i) - 1 + 1, nI i + 1, M)) : Option ((Int32 × Int32 × bd_T) ⊕ ((Int32 × bd_T) ⊕ bd_T))) = some (.inr r) ∧ RunPost P x p3 M r := by
          have es : ((nI (cnt (stt P) i) - 1 + 1, nI i + 1, M) : Int32 × Int32 × bd_T) = (nI (cnt (stt P) (i + 1)) - 1, nI (i + 1), M) := by rw [Int32.sub_add_cancel, nxt, nI_1 i]
          by_cases y : nI (cnt (stt P) i) = x
          · rw [if_pos (by rw [Int32.sub_add_cancel]; exact y)]
            have hF : FHit P x i := ⟨hi, ⟨hst, y⟩, hA⟩
            rcases run_stop hr hF hi (Nat.le_refl i) (fun k h1 h2 => by rw [show k = i by omega]; exact c) (fun _ => rfl) (p3 := p3) (nI (cnt (stt P) i) - 1 + 1, nI i + 1, M) with ⟨r, h1, h2⟩ | ⟨h1, h2, h3, h4⟩
            · exact Or.inr ⟨r, h1, h2⟩
            · refine Or.inl ⟨_, h1, es, Or.inr ⟨i, hF, by omega, h2, fun k g1 g2 => ?_, by rw [← nxt]; exact y, h4⟩⟩
              rcases (show k = i ∨ k = i + 1 by omega) with rfl | rfl
              · exact c
              · exact h3
          · rw [if_neg (by rw [Int32.sub_add_cancel]; exact y)]
            refine Or.inl ⟨_, rfl, es, Or.inl ⟨fun j hj => ?_, fun k _ _ => by rw [← nxt]; exact y⟩⟩
            by_cases z : j = i
            · rw [z]; exact fun h => y h.2
            · exact hA j (by omega)
        by_cases d : i = 0
        · rw [if_pos (show nI i = (0 : Int32) by rw [d]; rfl)]
          exact core
        · rw [if_neg (show ¬ nI i = (0 : Int32) from fun z => d ((nI_eq (b := 0) (by omega) (by omega)).mp z))]
          obtain ⟨k, hk⟩ : ∃ k, i = k + 1 := ⟨i - 1, by omega⟩
          have hk0 : ¬ P k = true := fun z => by
            unfold stt at hst
            rw [hk, Nat.add_sub_cancel, z, decide_eq_false (show ¬ k + 1 = 0 by omega)] at hst
            simp at hst
          have e1 : nI i - 1 = nI k := by rw [hk, nI_pred]
          rw [e1, pz_ga (show k < 300 by omega) (by decide), pz_some, hr k (by omega), if_neg hk0, if_pos rfl]
          exact core
      · -- it goes on
        have d : i ≠ 0 := by rintro rfl; exact hst (by unfold stt; rw [c]; rfl)
        obtain ⟨k, hk⟩ : ∃ k, i = k + 1 := ⟨i - 1, by omega⟩
        have hk1 : P k = true := by
          cases z : P k with
          | true => rfl
          | false => exact absurd (by unfold stt; rw [hk, Nat.add_sub_cancel, z, ← hk, c]; simp) hst
        have e1 : nI i - 1 = nI k := by rw [hk, nI_pred]
        rw [if_neg (show ¬ nI i = (0 : Int32) from fun z => d ((nI_eq (b := 0) (by omega) (by omega)).mp z)), e1, pz_ga (show k < 300 by omega) (by decide), pz_some, hr k (by omega), if_pos hk1, if_neg (by decide)]
        have nxt : nI (cnt (stt P) i) = nI (cnt (stt P) (i + 1)) := cnt_n hst
        have es : ((nI (cnt (stt P) i) - 1, nI i + 1, M) : Int32 × Int32 × bd_T) = (nI (cnt (stt P) (i + 1)) - 1, nI (i + 1), M) := by rw [nxt, nI_1 i]
        rcases q2 with ⟨q1, q2⟩ | ⟨b, q1, q2, q3, q4, q5, q6⟩
        · rw [if_neg (q2 k hk hk1)]
          refine Or.inl ⟨_, rfl, es, Or.inl ⟨fun j hj => ?_, fun k' _ _ => by rw [← nxt]; exact q2 k hk hk1⟩⟩
          by_cases z : j = i
          · rw [z]; exact fun h => hst h.1
          · exact q1 j (by omega)
        · rw [if_pos q5]
          rcases run_stop hr q1 hi (by omega) q4 (fun z => absurd z q6) (p3 := p3) (nI (cnt (stt P) i) - 1, nI i + 1, M) with ⟨r, h1, h2⟩ | ⟨h1, h2, h3, h4⟩
          · exact Or.inr ⟨r, h1, h2⟩
          · refine Or.inl ⟨_, h1, es, Or.inr ⟨b, q1, by omega, h2, fun k' g1 g2 => ?_, by rw [← nxt]; exact q5, h4⟩⟩
            by_cases z : k' = i + 1
            · rw [z]; exact h3
            · exact q4 k' g1 (by omega)
    · rw [if_neg c, if_pos rfl]
      have hs : ¬ stt P i = true := by unfold stt; simp [c]
      rcases q2 with ⟨q1, q2⟩ | ⟨b, q1, q2, q3, q4, q5, q6⟩
      · refine Or.inl ⟨_, rfl, by rw [nI_1 i, cnt_n hs], Or.inl ⟨fun j hj => ?_, fun k' hk' z => ?_⟩⟩
        · by_cases z : j = i
          · rw [z]; exact fun h => hs h.1
          · exact q1 j (by omega)
        · rw [show k' = i by omega] at z; exact absurd z c
      · exact absurd (q4 i (by omega) (Nat.le_refl _)) c
  · obtain ⟨rfl, q2⟩ := hs
    dsimp only
    unfold fb_X10_run_41
    rw [if_pos y300]
    rcases q2 with ⟨q1, q2⟩ | ⟨b, q1, q2, q3, q4, q5, q6⟩
    · exact ⟨_, rfl, Or.inr ⟨q1, rfl⟩⟩
    · omega
