/-! runs of MINUTES -/
def stt (P : Nat → Bool) (b : Nat) : Bool := P b && (decide (b = 0) || !P (b - 1))
def Hit (P : Nat → Bool) (x : Int32) (b : Nat) : Prop := stt P b = true ∧ nI (cnt (stt P) b) = x
def FHit (P : Nat → Bool) (x : Int32) (b : Nat) : Prop := b < 300 ∧ Hit P x b ∧ ∀ j, j < b → ¬ Hit P x j
def EndR (P : Nat → Bool) (b e : Nat) : Prop := b ≤ e ∧ e < 300 ∧ (∀ k, b ≤ k → k ≤ e → P k = true) ∧ (e = 299 ∨ ¬ P (e + 1) = true)
theorem FHit_one {P : Nat → Bool} {x : Int32} {b c : Nat} (h : FHit P x b) (g : FHit P x c) : b = c := by
  rcases Nat.lt_trichotomy b c with q | q | q
  · exact absurd h.2.1 (g.2.2 b q)
  · exact q
  · exact absurd g.2.1 (h.2.2 c q)
theorem EndR_one {P : Nat → Bool} {b e f : Nat} (h : EndR P b e) (g : EndR P b f) : e = f := by
  rcases Nat.lt_trichotomy e f with q | q | q
  · exfalso
    rcases h.2.2.2 with z | z
    · have := g.2.1; omega
    · exact z (g.2.2.1 (e + 1) (by have := h.1; omega) (by omega))
  · exact q
  · exfalso
    rcases g.2.2.2 with z | z
    · have := h.2.1; omega
    · exact z (h.2.2.1 (f + 1) (by have := g.1; omega) (by omega))
theorem cnt_le (P : Nat → Bool) (n : Nat) : cnt P n ≤ n := by
  induction n with
  | zero => exact Nat.le_refl _
  | succ n ih => show cnt P n + _ ≤ _; split <;> omega
theorem px_runStart {S : bd_T} {w : bw} (hf : wF w) {t : Nat} (ht : t < w 0 0) (hr : ∀ b, b < 300 → bd_J S 0 (300 * t + b) = lN (ZwC w (wg (g0 w)) t b)) (x : Int32) : (∃ b, FHit (mP w t) x b ∧ f_X9_runStart (nI t) x S = some (nI b, S)) ∨ ((∀ j, j < 300 → ¬ Hit (mP w t) x j) ∧ f_X9_runStart (nI t) x S = some (-9, S)) := by
  have h66 := hf.1.1
  have hz : ∀ b, (lN (ZwC w (wg (g0 w)) t b) = (0 : Int64)) ↔ ¬ mP w t b = true := fun b => by
    have := ZwC_le hf (g0 w) t b
    have e : (lN (ZwC w (wg (g0 w)) t b) = lN 0) ↔ ZwC w (wg (g0 w)) t b = 0 := pk_lEQ (by omega) (by omega)
    refine e.trans ?_
    unfold mP; simp
  unfold f_X9_runStart
  obtain ⟨r, e, h⟩ := pz_loop (F := fun q => fb_X9_runStart_5 (nI t) x q.1 q.2.1 q.2.2) (fun i s => s = (nI (cnt (stt (mP w t)) i), nI i, S) ∧ ∀ j, j < i → ¬ Hit (mP w t) x j) (fun r => (∃ b, FHit (mP w t) x b ∧ r = .inl (nI b, S)) ∨ ((∀ j, j < 300 → ¬ Hit (mP w t) x j) ∧ r = .inr S)) 300 (fun i s hi hs => by
      obtain ⟨rfl, q2⟩ := hs
      dsimp only
      have nx : ¬ Hit (mP w t) x i → ∀ j, j < i + 1 → ¬ Hit (mP w t) x j := fun h j hj => by
        by_cases z : j = i
        · rw [z]; exact h
        · exact q2 j (by omega)
      unfold fb_X9_runStart_5
      rw [if_neg (n300 hi), px_value (by omega) hi, pz_b2, hr i hi]
      by_cases c : mP w t i = true
      · rw [if_neg (fun z => (mP_le hf t i).mp z c)]
        by_cases d : i = 0
        · subst d
          have hs : stt (mP w t) 0 = true := by unfold stt; rw [c]; rfl
          rw [if_pos (show nI 0 = (0 : Int32) from rfl)]
          by_cases y : nI (cnt (stt (mP w t)) 0) = x
          · rw [if_pos y]
            exact Or.inr ⟨_, rfl, Or.inl ⟨0, ⟨by omega, ⟨hs, y⟩, q2⟩, rfl⟩⟩
          · rw [if_neg y, pz_b1, nI_1 0, cnt_y hs]
            exact Or.inl ⟨_, rfl, rfl, nx (fun h => y h.2)⟩
        · obtain ⟨k, rfl⟩ : ∃ k, i = k + 1 := ⟨i - 1, by omega⟩
          rw [if_neg (show ¬ nI (k + 1) = (0 : Int32) from fun z => by have := (nI_eq (b := 0) (by omega) (by omega)).mp z; omega), nI_pred, px_value (by omega) (by omega), pz_b2, hr k (by omega)]
          by_cases f : mP w t k = true
          · have hs : ¬ stt (mP w t) (k + 1) = true := by unfold stt; simp [f]
            rw [if_neg (fun z => (hz k).mp z f), pz_b1, I0, nI_1 (k + 1), cnt_n hs]
            exact Or.inl ⟨_, rfl, rfl, nx (fun h => hs h.1)⟩
          · have hs : stt (mP w t) (k + 1) = true := by unfold stt; simp [f, c]
            rw [if_pos ((hz k).mpr f)]
            by_cases y : nI (cnt (stt (mP w t)) (k + 1)) = x
            · rw [if_pos y]
              exact Or.inr ⟨_, rfl, Or.inl ⟨k + 1, ⟨by omega, ⟨hs, y⟩, q2⟩, rfl⟩⟩
            · rw [if_neg y, pz_b1, nI_1 (k + 1), cnt_y hs]
              exact Or.inl ⟨_, rfl, rfl, nx (fun h => y h.2)⟩
      · have hs : ¬ stt (mP w t) i = true := by unfold stt; simp [c]
        rw [if_pos ((mP_le hf t i).mpr c), pz_b1, I0, nI_1 i, cnt_n hs]
        exact Or.inl ⟨_, rfl, rfl, nx (fun h => hs h.1)⟩) (fun s hs => by
      obtain ⟨rfl, q2⟩ := hs
      dsimp only
      unfold fb_X9_runStart_5
      rw [if_pos y300]
      exact ⟨_, rfl, Or.inr ⟨q2, rfl⟩⟩) (s0 := ((0 : Int32), (0 : Int32), S)) ⟨rfl, fun j hj => by omega⟩ bd_K (by rw [pz_K]; omega)
  rw [e, pz_some]
  rcases h with ⟨b, h1, rfl⟩ | ⟨h1, rfl⟩
  · exact Or.inl ⟨b, h1, rfl⟩
  · exact Or.inr ⟨h1, rfl⟩
theorem px_runEnd {S : bd_T} {w : bw} (hf : wF w) {t : Nat} (ht : t < w 0 0) (hr : ∀ b, b < 300 → bd_J S 0 (300 * t + b) = lN (ZwC w (wg (g0 w)) t b)) {b : Nat} (hb : b < 300) (hP : mP w t b = true) : ∃ e, EndR (mP w t) b e ∧ f_X9_runEnd (nI t) (nI b) S = some (nI e, S) := by
  have h66 := hf.1.1
  unfold f_X9_runEnd
  obtain ⟨r, e, h⟩ := pz_loop (F := fun q => fb_X9_runEnd_2 (nI t) q.1 q.2) (fun i s => s = (nI (b + i), S) ∧ ∀ k, b ≤ k → k ≤ b + i → mP w t k = true) (fun r => ∃ e, EndR (mP w t) b e ∧ r = (nI e, S)) (299 - b) (fun i s hi hs => by
      obtain ⟨rfl, q2⟩ := hs
      dsimp only
      unfold fb_X9_runEnd_2
      rw [if_neg (show ¬ (299 : Int32) ≤ nI (b + i) from nI_ge (b := 299) (by omega) (by omega)), nI_1, px_value (by omega) (by omega), pz_b2, hr _ (by omega)]
      by_cases c : mP w t (b + i + 1) = true
      · rw [if_neg (fun z => (mP_le hf t _).mp z c)]
        refine Or.inl ⟨_, rfl, rfl, fun k h1 h2 => ?_⟩
        by_cases z : k = b + i + 1
        · rw [z]; exact c
        · exact q2 k h1 (by omega)
      · rw [if_pos ((mP_le hf t _).mpr c)]
        exact Or.inr ⟨_, rfl, b + i, ⟨by omega, by omega, q2, Or.inr c⟩, rfl⟩) (fun s hs => by
      obtain ⟨rfl, q2⟩ := hs
      dsimp only
      unfold fb_X9_runEnd_2
      rw [if_pos (show (299 : Int32) ≤ nI (b + (299 - b)) from nI_le (a := 299) (by omega) (by omega))]
      exact ⟨_, rfl, b + (299 - b), ⟨by omega, by omega, q2, Or.inl (by omega)⟩, rfl⟩) (s0 := (nI b, S)) ⟨rfl, fun k h1 h2 => by rw [show k = b by omega]; exact hP⟩ bd_K (by rw [pz_K]; omega)
  rw [e, pz_some]
  obtain ⟨e', h1, rfl⟩ := h
  exact ⟨e', h1, rfl⟩
