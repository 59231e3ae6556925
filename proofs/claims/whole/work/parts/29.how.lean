/-! the class's two reckonings: sums, and least costs (none: no WAY) -/
def tad : Option Nat → Option Nat → Option Nat
  | none, b => b
  | some a, none => some a
  | some a, some b => some (min a b)
def tmu : Option Nat → Option Nat → Option Nat
  | some a, some b => some (a + b)
  | _, _ => none
theorem SRT : SR tad tmu none (some 0) := by
  refine ⟨?_, ?_, ?_, ?_, ?_, ?_, ?_, ?_⟩
  · intro a b; cases a <;> cases b <;> simp [tad, Nat.min_comm]
  · intro a b c; cases a <;> cases b <;> cases c <;> simp [tad, Nat.min_assoc]
  · intro a; rfl
  · intro a b; cases a <;> cases b <;> simp [tmu, Nat.add_comm]
  · intro a b c; cases a <;> cases b <;> cases c <;> simp [tmu, Nat.add_assoc]
  · intro a; cases a <;> simp [tmu]
  · intro a b c; cases a <;> cases b <;> cases c <;> (try simp [tmu, tad]) <;> (try omega)
  · intro a; cases a <;> rfl
def IMP : Nat := 1099511627776
def vL (x : Option Nat) : Int64 := lN (match x with
  | none => IMP
  | some c => min c IMP)
theorem vL_le (x : Option Nat) : ∃ c, vL x = lN c ∧ c ≤ IMP := by
  cases x with
  | none => exact ⟨_, rfl, Nat.le_refl _⟩
  | some c => exact ⟨_, rfl, Nat.min_le_right _ _⟩
theorem vL_min (a b : Option Nat) : (if vL b < vL a then vL b else vL a) = vL (tad a b) := by
  have hI : IMP < 2 ^ 62 := by decide
  cases a with
  | none =>
    cases b with
    | none => simp [vL, tad]
    | some b =>
      show (if lN (min b IMP) < lN IMP then _ else _) = lN (min b IMP)
      split
      · rfl
      · rename_i h
        rw [pk_lLT (by omega) (by omega)] at h
        show lN IMP = _
        rw [show min b IMP = IMP by omega]
  | some a =>
    cases b with
    | none =>
      show (if lN IMP < lN (min a IMP) then _ else _) = lN (min a IMP)
      split
      · rename_i h
        rw [pk_lLT (by omega) (by omega)] at h
        omega
      · rfl
    | some b =>
      show (if lN (min b IMP) < lN (min a IMP) then lN (min b IMP) else lN (min a IMP)) = lN (min (min a b) IMP)
      split
      · rename_i h
        rw [pk_lLT (by omega) (by omega)] at h
        congr 1; omega
      · rename_i h
        rw [pk_lLT (by omega) (by omega)] at h
        congr 1; omega
theorem both_C (x y : Nat) (S : bd_T) : f_X1_both (lN x) (lN y) S = some (lN (x * y), S) := by
  unfold f_X1_both
  rw [lN_mul]
theorem both_L (x y : Option Nat) (S : bd_T) : f_X3_both (vL x) (vL y) S = some (vL (tmu x y), S) := by
  have hI : IMP < 2 ^ 62 := by decide
  have e : (1099511627776 : Int64) = lN IMP := rfl
  unfold f_X3_both
  congr 2
  rw [e]
  cases x with
  | none =>
    obtain ⟨c, h1, h2⟩ := vL_le y
    rw [h1, show vL none = lN IMP from rfl, lN_add, if_neg (by rw [pk_lLT (by omega) (by omega)]; omega)]
    rfl
  | some a =>
    cases y with
    | none =>
      rw [show vL none = lN IMP from rfl, show vL (some a) = lN (min a IMP) from rfl, lN_add, if_neg (by rw [pk_lLT (by omega) (by omega)]; omega)]
      rfl
    | some b =>
      show (if lN (min a IMP) + lN (min b IMP) < lN IMP then lN (min a IMP) + lN (min b IMP) else lN IMP) = lN (min (a + b) IMP)
      rw [lN_add]
      split
      · rename_i h
        rw [pk_lLT (by omega) (by omega)] at h
        congr 1; omega
      · rename_i h
        rw [pk_lLT (by omega) (by omega)] at h
        congr 1; omega
theorem none_C (S : bd_T) : f_X1_none S = some (lN 0, S) := rfl
theorem none_L (S : bd_T) : f_X3_none S = some (vL none, S) := rfl
abbrev vC : Nat → Int64 := lN
abbrev adC : Nat → Nat → Nat := (· + ·)
abbrev muC : Nat → Nat → Nat := (· * ·)
abbrev adL : Option Nat → Option Nat → Option Nat := tad
abbrev muL : Option Nat → Option Nat → Option Nat := tmu
def rngX {α : Type} (ad : α → α → α) (ze : α) (f : Nat → α) (lo hi : Int) : α := sg ad ze (fun x => if lo ≤ (x : Int) ∧ (x : Int) ≤ hi then f x else ze) 300
/-! sums -/
def ldC (S : bd_T) (f : Nat → Nat) : Prop := ∀ j, j ≤ 300 → bd_J S 1 j = lN (sN f j)
def preC (S : bd_T) : Prop := bd_J S 1 0 = 0
theorem load_C {S : bd_T} {f : Nat → Nat} {t : Nat} (ht : t < 6) (hp : preC S) (hr : ∀ b, b < 300 → bd_J S 0 (300 * t + b) = lN (f b)) : ∃ S', f_X1_load 0 (nI t * 300) S = some ((), S') ∧ ldC S' f ∧ preC S' ∧ kp S S' [] [] [1] := by
  unfold f_X1_load
  rw [show (300 : Int32) = nI 300 from rfl, pk_mul]
  obtain ⟨r, e, h⟩ := pz_loop (F := fun q => fb_X1_load_5 0 (nI (t * 300)) q.1 q.2.1 q.2.2) (fun i s => s.1 = lN (sN f i) ∧ s.2.1 = nI i ∧ kp S s.2.2 [] [] [1] ∧ ∀ j, j ≤ i → bd_J s.2.2 1 j = lN (sN f j)) (fun r => kp S r [] [] [1] ∧ ∀ j, j ≤ 300 → bd_J r 1 j = lN (sN f j)) 300 (fun i s hi hs => by
      obtain ⟨q1, q2, q3, q4⟩ := hs
      obtain ⟨s1, s2, s3⟩ := s
      dsimp only at q1 q2 q3 q4 ⊢
      subst q1; subst q2
      left
      unfold fb_X1_load_5
      rw [if_neg (n300 hi), nI_add, pz_atJ (k := 0) (show t * 300 + i < 1800 by omega) (by decide), pz_b2, pz_b1, q3.2.2 0 (by decide), Nat.mul_comm t 300, hr i hi, lN_add, nI_1, pz_layJ (k := 1) (show i + 1 < 301 by omega) (by decide), pz_b2]
      refine ⟨_, rfl, rfl, rfl, q3.trans (kp_pJ _ _ _ _), fun j hj => ?_⟩
      show vp_updL (bd_J s3 1) (i + 1) _ j = _
      rw [pz_upL]
      by_cases z : j = i + 1
      · rw [if_pos z, z]; rfl
      · rw [if_neg z]; exact q4 j (by omega)) (fun s hs => by
      obtain ⟨q1, q2, q3, q4⟩ := hs
      obtain ⟨s1, s2, s3⟩ := s
      dsimp only at q1 q2 q3 q4 ⊢
      subst q1; subst q2
      unfold fb_X1_load_5
      rw [if_pos y300]
      exact ⟨_, rfl, q3, q4⟩) (s0 := ((0 : Int64), (0 : Int32), S)) ⟨rfl, rfl, kp.rfl', fun j hj => by
      have : j = 0 := by omega
      subst this; exact hp⟩ bd_K (by rw [pz_K]; omega)
  rw [e, pz_some]
  exact ⟨r, rfl, h.2, h.2 0 (by omega), h.1⟩
theorem over_C {S : bd_T} {f : Nat → Nat} (h : ldC S f) {l u : Nat} (h1 : l ≤ u) (h2 : u ≤ 299) : f_X1_over (nI l) (nI u) S = some (lN (rngX adC 0 f l u), S) := by
  unfold f_X1_over
  rw [nI_1, pz_atJ (k := 1) (show u + 1 < 301 by omega) (by decide), pz_b2, pz_atJ (k := 1) (show l < 301 by omega) (by decide), pz_b2, h _ (by omega), h _ (by omega), lN_sub (sN_mono (by omega))]
  exact pz_sl (rng_in (by omega) h2).symm
