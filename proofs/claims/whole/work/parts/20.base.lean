/-! PLAIN FACTS: the state's fields and rows, the class's at and lay, loops -/
theorem pz_b2 {ρ α : Type} (r : ρ) (S : bd_T) (f : ρ → bd_T → Option α) : bd_b2 (some (r, S)) f = f r S := rfl
theorem pz_b1 {β α : Type} (x : β) (f : β → Option α) : bd_b1 x f = f x := rfl
theorem pz_si {α : Type} (S : bd_T) (k : Nat) (v : Int32) (f : bd_T → Option α) : (bd_si S k v).bind f = f (bd_pI S k v) := rfl
theorem pz_some {α β : Type} (z : α) (f : α → Option β) : (some z).bind f = f z := rfl
theorem pz_II (S : bd_T) (k j : Nat) (v : Int32) : bd_I (bd_pI S k v) j = if j = k then v else bd_I S j := rfl
theorem pz_AI (S : bd_T) (k : Nat) (v : Int32) : bd_A (bd_pI S k v) = bd_A S := rfl
theorem pz_JI (S : bd_T) (k : Nat) (v : Int32) : bd_J (bd_pI S k v) = bd_J S := rfl
theorem pz_IA (S : bd_T) (k i : Nat) (v : Int32) : bd_I (bd_pA S k i v) = bd_I S := rfl
theorem pz_AA (S : bd_T) (k i j : Nat) (v : Int32) : bd_A (bd_pA S k i v) j = if j = k then upd (bd_A S j) i v else bd_A S j := rfl
theorem pz_JA (S : bd_T) (k i : Nat) (v : Int32) : bd_J (bd_pA S k i v) = bd_J S := rfl
theorem pz_IJ (S : bd_T) (k i : Nat) (v : Int64) : bd_I (bd_pJ S k i v) = bd_I S := rfl
theorem pz_AJ (S : bd_T) (k i : Nat) (v : Int64) : bd_A (bd_pJ S k i v) = bd_A S := rfl
theorem pz_JJ (S : bd_T) (k i j : Nat) (v : Int64) : bd_J (bd_pJ S k i v) j = if j = k then vp_updL (bd_J S j) i v else bd_J S j := rfl
theorem pz_up (f : Nat → Int32) (k j : Nat) (v : Int32) : upd f k v j = if j = k then v else f j := rfl
theorem pz_upL (f : Nat → Int64) (k j : Nat) (v : Int64) : vp_updL f k v j = if j = k then v else f j := rfl
theorem pz_in {n N : Nat} (h : n < N) (hN : N < 2 ^ 31) : bd_in (nI n) N = true := by
  have := vp_in_nI h hN
  unfold vp_in at this
  simpa only [bd_in, decide_eq_true_eq] using this
theorem pz_ga {S : bd_T} {k n N : Nat} (h : n < N) (hN : N < 2 ^ 31) : bd_ga S k N (nI n) = some (bd_A S k n) := by
  unfold bd_ga
  rw [if_pos (pz_in h hN), nI_clamp (by omega)]
theorem pz_gj {S : bd_T} {k n N : Nat} (h : n < N) (hN : N < 2 ^ 31) : bd_gj S k N (nI n) = some (bd_J S k n) := by
  unfold bd_gj
  rw [if_pos (pz_in h hN), nI_clamp (by omega)]
theorem pz_sa {S : bd_T} {k n N : Nat} {v : Int32} (h : n < N) (hN : N < 2 ^ 31) : bd_sa S k N (nI n) v = some (bd_pA S k n v) := by
  unfold bd_sa
  rw [if_pos (pz_in h hN), nI_clamp (by omega)]
theorem pz_sj {S : bd_T} {k n N : Nat} {v : Int64} (h : n < N) (hN : N < 2 ^ 31) : bd_sj S k N (nI n) v = some (bd_pJ S k n v) := by
  unfold bd_sj
  rw [if_pos (pz_in h hN), nI_clamp (by omega)]
/-- the class's at and lay -/
theorem pz_ofNat (n : Nat) : Int32.ofNat n = nI n := rfl
theorem pz_at {k n : Nat} {S : bd_T} (h : n < cX_len k) (hN : cX_len k < 2 ^ 31) : f_X9_at k (nI n) S = some (bd_A S k n, S) := by
  unfold f_X9_at
  rw [if_neg (nI_pos (by omega)), pz_ofNat, if_neg (nI_ge (b := cX_len k) h hN), pz_ga h hN]
  rfl
theorem pz_at_out {k : Nat} {x : Int32} {S : bd_T} (h : x < 0 ∨ nI (cX_len k) ≤ x) : f_X9_at k x S = some (0, S) := by
  unfold f_X9_at
  by_cases h1 : x < 0
  · rw [if_pos h1]
  · rw [if_neg h1, pz_ofNat, if_pos (h.resolve_left h1)]
theorem pz_lay {k n : Nat} {v : Int32} {S : bd_T} (h : n < cX_len k) (hN : cX_len k < 2 ^ 31) : f_X9_lay k (nI n) v S = some ((), bd_pA S k n v) := by
  unfold f_X9_lay
  rw [if_neg (nI_pos (by omega)), pz_ofNat, if_neg (nI_ge (b := cX_len k) h hN), pz_sa h hN]
  rfl
theorem pz_atJ {k n : Nat} {S : bd_T} (h : n < cX_ljn k) (hN : cX_ljn k < 2 ^ 31) : f_X9_at_ k (nI n) S = some (bd_J S k n, S) := by
  unfold f_X9_at_
  rw [if_neg (nI_pos (by omega)), pz_ofNat, if_neg (nI_ge (b := cX_ljn k) h hN), pz_gj h hN]
  rfl
theorem pz_layJ {k n : Nat} {v : Int64} {S : bd_T} (h : n < cX_ljn k) (hN : cX_ljn k < 2 ^ 31) : f_X9_lay_ k (nI n) v S = some ((), bd_pJ S k n v) := by
  unfold f_X9_lay_
  rw [if_neg (nI_pos (by omega)), pz_ofNat, if_neg (nI_ge (b := cX_ljn k) h hN), pz_sj h hN]
  rfl
/-- a loop that counts: an invariant, an end -/
theorem pz_loop {σ τ : Type} {F : σ → Option (σ ⊕ τ)} (Inv : Nat → σ → Prop) (Post : τ → Prop) (N : Nat) (hs : ∀ i s, i < N → Inv i s → (∃ s', F s = some (.inl s') ∧ Inv (i + 1) s') ∨ ∃ r, F s = some (.inr r) ∧ Post r) (he : ∀ s, Inv N s → ∃ r, F s = some (.inr r) ∧ Post r) {s0 : σ} (h0 : Inv 0 s0) (n : Nat) (hn : N < n) : ∃ r, bd_lp n F s0 = some r ∧ Post r := by
  have key : ∀ (d i : Nat) (s : σ) (n : Nat), N = i + d → d < n → Inv i s → ∃ r, bd_lp n F s = some r ∧ Post r := by
    intro d
    induction d with
    | zero =>
      intro i s n hN hd hi
      obtain ⟨n, rfl⟩ : ∃ k, n = k + 1 := ⟨n - 1, by omega⟩
      have : i = N := by omega
      subst this
      obtain ⟨r, e, hp⟩ := he s hi
      exact ⟨r, by unfold bd_lp; rw [e]; rfl, hp⟩
    | succ d ih =>
      intro i s n hN hd hi
      obtain ⟨n, rfl⟩ : ∃ k, n = k + 1 := ⟨n - 1, by omega⟩
      rcases hs i s (by omega) hi with ⟨s', e, h'⟩ | ⟨r, e, hp⟩
      · obtain ⟨r, e2, hp⟩ := ih (i + 1) s' n (by omega) (by omega) h'
        exact ⟨r, by unfold bd_lp; rw [e]; exact e2, hp⟩
      · exact ⟨r, by unfold bd_lp; rw [e]; rfl, hp⟩
  exact key N 0 s0 n (by omega) hn h0
/-- a loop with one form of its state at each count -/
theorem pz_for {σ τ : Type} {F : σ → Option (σ ⊕ τ)} (st : Nat → σ) (N : Nat) (r : τ) (hs : ∀ i, i < N → F (st i) = some (.inl (st (i + 1)))) (he : F (st N) = some (.inr r)) (n : Nat) (hn : N < n) : bd_lp n F (st 0) = some r := by
  obtain ⟨r', e, h⟩ := pz_loop (F := F) (fun i s => s = st i) (fun r' => r' = r) N (fun i s hi h => Or.inl ⟨st (i + 1), by rw [h]; exact hs i hi, rfl⟩) (fun s h => ⟨r, by rw [h]; exact he, rfl⟩) rfl n hn
  rw [e, h]
theorem pz_K : bd_K = 20000 := rfl
/-- what a number is: below 0, or a Nat -/
theorem pz_num (x : Int32) : x < 0 ∨ ∃ n : Nat, n < 2 ^ 31 ∧ x = nI n := by
  by_cases h : x < 0
  · exact Or.inl h
  · exact Or.inr (nI_of h)
theorem pz_refuse {n : Nat} {x : Int32} {S : bd_T} (hx : x = -(nI (n + 1))) (hn : n < 6) : f_X9_refuse x S = some (x, bd_pA S 1 n (bd_A S 1 n + 1)) := by
  unfold f_X9_refuse
  have e : -x - 1 = nI n := by
    subst hx
    match n, hn with
    | 0, _ => rfl
    | 1, _ => rfl
    | 2, _ => rfl
    | 3, _ => rfl
    | 4, _ => rfl
    | 5, _ => rfl
  rw [e, pz_at (k := 1) (show n < 6 from hn) (by decide), pz_b2, pz_lay (k := 1) (show n < 6 from hn) (by decide), pz_b2]
theorem pz_no {n : Nat} {x : Int32} {M : bd_T} (hx : x = -(nI (n + 1))) (hn : n < 6) : f_X10_no x M = some (x, bd_pA M 0 (n + 1) (bd_A M 0 (n + 1) + 1)) := by
  have e : -x = nI (n + 1) := by
    subst hx
    match n, hn with
    | 0, _ => rfl
    | 1, _ => rfl
    | 2, _ => rfl
    | 3, _ => rfl
    | 4, _ => rfl
    | 5, _ => rfl
  unfold f_X10_no
  simp only [e, pz_ga (show n + 1 < 7 by omega) (by decide), pz_sa (show n + 1 < 7 by omega) (by decide), pz_some]
