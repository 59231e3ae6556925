/-! least costs: a table of the least of 2^k MINUTES from each on -/
def sgp (f : Nat → Option Nat) (P : Nat → Bool) : Option Nat := sg tad none (fun x => if P x = true then f x else none) 300
theorem tad_self (a : Option Nat) : tad a a = a := by cases a <;> simp [tad]
theorem sgp_or (f : Nat → Option Nat) (P Q R : Nat → Bool) (h : ∀ x, x < 300 → ((P x = true ∨ Q x = true) ↔ R x = true)) : tad (sgp f P) (sgp f Q) = sgp f R := by
  unfold sgp
  rw [← sg_add SRT]
  refine sg_congr (fun x hx => ?_)
  have := h x hx
  have hn : ∀ a, tad a none = a := fun a => by cases a <;> rfl
  by_cases h1 : P x = true
  · by_cases h2 : Q x = true
    · rw [if_pos h1, if_pos h2, if_pos (this.mp (Or.inl h1)), tad_self]
    · rw [if_pos h1, if_neg h2, if_pos (this.mp (Or.inl h1)), hn]
  · by_cases h2 : Q x = true
    · rw [if_neg h1, if_pos h2, if_pos (this.mp (Or.inr h2))]; rfl
    · rw [if_neg h1, if_neg h2, if_neg (fun z => by rcases this.mpr z with q | q <;> contradiction)]; rfl
theorem sgp_congr {f : Nat → Option Nat} {P Q : Nat → Bool} (h : ∀ x, x < 300 → (P x = true ↔ Q x = true)) : sgp f P = sgp f Q := by
  rw [← tad_self (sgp f P)]
  exact sgp_or f P P Q (fun x hx => by rw [or_self]; exact h x hx)
theorem sgp_one {f : Nat → Option Nat} {b : Nat} (hb : b < 300) : sgp f (fun x => decide (b ≤ x ∧ x < b + 1)) = f b := by
  unfold sgp
  simp only [decide_eq_true_eq]
  have : ∀ n, sg tad none (fun x => if b ≤ x ∧ x < b + 1 then f x else none) n = if b < n then f b else none := by
    intro n
    induction n with
    | zero => rfl
    | succ n ih =>
      show tad (sg tad none (fun x => if b ≤ x ∧ x < b + 1 then f x else none) n) (if b ≤ n ∧ n < b + 1 then f n else none) = _
      rw [ih]
      rcases Nat.lt_trichotomy b n with q | q | q
      · rw [if_pos q, if_neg (by omega), if_pos (by omega)]; cases f b <;> rfl
      · rw [if_neg (by omega), if_pos (by omega), if_pos (by omega), q]; rfl
      · rw [if_neg (by omega), if_neg (by omega), if_neg (by omega)]; rfl
  rw [this 300, if_pos hb]
def wnd (f : Nat → Option Nat) (lev b : Nat) : Option Nat := sgp f (fun x => decide (b ≤ x ∧ x < b + 2 ^ lev))
def ldL (S : bd_T) (f : Nat → Option Nat) : Prop := ∀ j, j < 2700 → bd_J S 2 j = vL (wnd f (j / 300) (j % 300))
def preL (_ : bd_T) : Prop := True
theorem nlz_S (x : Int32) (S Z : bd_T) : f_J6_numberOfLeadingZeros_0f7a4 x S = (f_J6_numberOfLeadingZeros_0f7a4 x Z).map (fun p => (p.1, S)) := by
  unfold f_J6_numberOfLeadingZeros_0f7a4
  simp only [pz_b1]
  repeat (first | rfl | split)
theorem nlz_all : ∀ n, n < 301 → 1 ≤ n → (f_J6_numberOfLeadingZeros_0f7a4 (nI n) bi_X).map Prod.fst = some (31 - nI (Nat.log2 n)) := by decide +kernel
theorem px_nlz {n : Nat} (S : bd_T) (h1 : 1 ≤ n) (h2 : n ≤ 300) : f_J6_numberOfLeadingZeros_0f7a4 (nI n) S = some (31 - nI (Nat.log2 n), S) := by
  have := nlz_all n (by omega) h1
  rw [nlz_S _ S bi_X]
  cases h : f_J6_numberOfLeadingZeros_0f7a4 (nI n) bi_X with
  | none => rw [h] at this; cases this
  | some p =>
    rw [h] at this
    simp only [Option.map_some, Option.some.injEq] at this
    simp only [Option.map_some, this]
theorem pow_lev {k : Nat} (h : k < 9) : 1 ≤ 2 ^ k ∧ 2 ^ k ≤ 256 := by
  rcases (show k = 0 ∨ k = 1 ∨ k = 2 ∨ k = 3 ∨ k = 4 ∨ k = 5 ∨ k = 6 ∨ k = 7 ∨ k = 8 by omega) with rfl | rfl | rfl | rfl | rfl | rfl | rfl | rfl | rfl <;> decide
theorem load_L {S : bd_T} {f : Nat → Option Nat} {t : Nat} (ht : t < 6) (_ : preL S) (hr : ∀ b, b < 300 → bd_J S 0 (300 * t + b) = vL (f b)) : ∃ S', f_X3_load 0 (nI t * 300) S = some ((), S') ∧ ldL S' f ∧ preL S' ∧ kp S S' [] [] [2] := by
  unfold f_X3_load
  rw [show (300 : Int32) = nI 300 from rfl, pk_mul]
  obtain ⟨r, e, h, hk⟩ := pz_loop (F := fun q => fb_X3_load_2 0 (nI (t * 300)) q.1 q.2) (fun i s => s.1 = nI i ∧ kp S s.2 [] [] [2] ∧ ∀ j, j < i → bd_J s.2 2 j = vL (f j)) (fun r => kp S r [] [] [2] ∧ ∀ j, j < 300 → bd_J r 2 j = vL (f j)) 300 (fun i s hi hs => by
      obtain ⟨q2, q3, q4⟩ := hs
      obtain ⟨s2, s3⟩ := s
      dsimp only at q2 q3 q4 ⊢
      subst q2
      left
      unfold fb_X3_load_2
      rw [if_neg (n300 hi), nI_add, pz_atJ (k := 0) (show t * 300 + i < 1800 by omega) (by decide), pz_b2, q3.2.2 0 (by decide), Nat.mul_comm t 300, hr i hi, pz_layJ (k := 2) (show i < 2700 by omega) (by decide), pz_b2, nI_1]
      refine ⟨_, rfl, rfl, q3.trans (kp_pJ _ _ _ _), fun j hj => ?_⟩
      show vp_updL (bd_J s3 2) i _ j = _
      rw [pz_upL]
      by_cases z : j = i
      · rw [if_pos z, z]
      · rw [if_neg z]; exact q4 j (by omega)) (fun s hs => by
      obtain ⟨q2, q3, q4⟩ := hs
      obtain ⟨s2, s3⟩ := s
      dsimp only at q2 q3 q4 ⊢
      subst q2
      unfold fb_X3_load_2
      rw [if_pos y300]
      exact ⟨_, rfl, q3, q4⟩) (s0 := ((0 : Int32), S)) ⟨rfl, kp.rfl', fun j hj => by omega⟩ bd_K (by rw [pz_K]; omega)
  rw [e, pz_some]
  obtain ⟨r2, e2, h2, hk2⟩ := pz_loop (F := fun q => fb_X3_load_34 0 q.1 q.2) (fun i s => s.1 = nI (300 + i) ∧ kp S s.2 [] [] [2] ∧ ∀ j, j < 300 + i → bd_J s.2 2 j = vL (wnd f (j / 300) (j % 300))) (fun r => kp S r [] [] [2] ∧ ldL r f) 2400 (fun i s hi hs => by
      obtain ⟨q2, q3, q4⟩ := hs
      obtain ⟨s2, s3⟩ := s
      dsimp only at q2 q3 q4 ⊢
      subst q2
      left
      obtain ⟨w1, w2⟩ := pow_lev (k := i / 300) (by omega)
      have m1 : (300 + i) / 300 = i / 300 + 1 := by omega
      have m2 : (300 + i) % 300 = i % 300 := by omega
      have m3 : 300 + i - (300 + i) / 300 * 300 = i % 300 := by omega
      have m4 : (300 + i) / 300 * 300 ≤ 300 + i := Nat.div_mul_le_self _ _
      unfold fb_X3_load_34
      rw [if_neg (show ¬ (2700 : Int32) ≤ nI (300 + i) from nI_ge (b := 2700) (by omega) (by omega)), pz_b1, show (300 : Int32) = nI 300 from rfl, pk_sub (by omega), Nat.add_sub_cancel_left, pz_b1, pk_div (by omega) (by omega) (by omega), pk_div (by omega) (by omega) (by omega), nI_shl (by omega), pz_atJ (k := 2) (show i < 2700 by omega) (by decide), pz_b2, pk_mul, pk_sub m4, m3, nI_add, q4 i (by omega)]
      by_cases c : 300 ≤ i % 300 + 2 ^ (i / 300)
      · rw [if_pos (nI_le c (by omega)), pz_layJ (k := 2) (show 300 + i < 2700 by omega) (by decide), pz_b2, nI_1]
        refine ⟨_, rfl, rfl, q3.trans (kp_pJ _ _ _ _), fun j hj => ?_⟩
        show vp_updL (bd_J s3 2) (300 + i) _ j = _
        rw [pz_upL]
        by_cases z : j = 300 + i
        · rw [if_pos z, z, m1, m2, if_neg (fun h => Int64.lt_irrefl h)]
          refine congrArg vL (sgp_congr (fun x hx => by
          simp only [decide_eq_true_eq]
          rw [Nat.pow_succ]
          omega))
        · rw [if_neg z]; exact q4 j (by omega)
      · rw [if_neg (nI_ge (by omega) (by omega)), nI_add, pz_atJ (k := 2) (show i + 2 ^ (i / 300) < 2700 by omega) (by decide), pz_b2, q4 (i + 2 ^ (i / 300)) (by omega), pz_layJ (k := 2) (show 300 + i < 2700 by omega) (by decide), pz_b2, nI_1]
        refine ⟨_, rfl, rfl, q3.trans (kp_pJ _ _ _ _), fun j hj => ?_⟩
        show vp_updL (bd_J s3 2) (300 + i) _ j = _
        rw [pz_upL]
        by_cases z : j = 300 + i
        · rw [if_pos z, z, m1, m2, vL_min]
          have n1 : (i + 2 ^ (i / 300)) / 300 = i / 300 := by omega
          have n2 : (i + 2 ^ (i / 300)) % 300 = i % 300 + 2 ^ (i / 300) := by omega
          rw [n1, n2]
          refine congrArg vL (sgp_or f _ _ _ (fun x hx => ?_))
          simp only [decide_eq_true_eq]
          rw [Nat.pow_succ]
          omega
        · rw [if_neg z]; exact q4 j (by omega)) (fun s hs => by
      obtain ⟨q2, q3, q4⟩ := hs
      obtain ⟨s2, s3⟩ := s
      dsimp only at q2 q3 q4 ⊢
      subst q2
      unfold fb_X3_load_34
      rw [if_pos (show (2700 : Int32) ≤ nI (300 + 2400) from Int32.le_refl _)]
      exact ⟨_, rfl, q3, q4⟩) (s0 := ((300 : Int32), r)) ⟨rfl, h, fun j hj => by
      have n1 : j / 300 = 0 := by omega
      have n2 : j % 300 = j := by omega
      rw [hk j (by omega), n1, n2]
      exact congrArg vL (sgp_one (by omega)).symm⟩ bd_K (by rw [pz_K]; omega)
  show ∃ S', (bd_lp bd_K (fun q => fb_X3_load_34 0 q.1 q.2) ((300 : Int32), r)).bind _ = _ ∧ _
  rw [e2, pz_some]
  exact ⟨r2, rfl, hk2, trivial, h2⟩
theorem over_L {S : bd_T} {f : Nat → Option Nat} (h : ldL S f) {l u : Nat} (h1 : l ≤ u) (h2 : u ≤ 299) : f_X3_over (nI l) (nI u) S = some (vL (rngX adL none f l u), S) := by
  have hn : u - l + 1 ≠ 0 := by omega
  have g1 : 2 ^ Nat.log2 (u - l + 1) ≤ u - l + 1 := Nat.log2_self_le hn
  have g2 : u - l + 1 < 2 ^ (Nat.log2 (u - l + 1) + 1) := Nat.lt_log2_self
  have g3 : Nat.log2 (u - l + 1) < 9 := by
    rw [Nat.log2_lt hn]
    omega
  obtain ⟨w1, w2⟩ := pow_lev g3
  rw [Nat.pow_succ] at g2
  unfold f_X3_over
  rw [pk_sub h1, nI_1, px_nlz S (by omega) (by omega), pz_b2, pz_b1]
  generalize hk : Nat.log2 (u - l + 1) = k at g1 g2 g3 w1 w2
  have e1 : (31 : Int32) - (31 - nI k) = nI k := by
    rw [show (31 : Int32) = nI 31 from rfl, pk_sub (show k ≤ 31 by omega), pk_sub (by omega)]
    congr 1; omega
  rw [e1, pz_b1, show (300 : Int32) = nI 300 from rfl, pk_mul, nI_add, pz_atJ (k := 2) (show k * 300 + l < 2700 by omega) (by decide), pz_b2, nI_add, nI_1, nI_shl (by omega), pk_sub (by omega), pz_atJ (k := 2) (show k * 300 + u + 1 - 2 ^ k < 2700 by omega) (by decide), pz_b2, h _ (by omega), h _ (by omega), vL_min]
  have a1 : (k * 300 + l) / 300 = k := by omega
  have a2 : (k * 300 + l) % 300 = l := by omega
  have a3 : (k * 300 + u + 1 - 2 ^ k) / 300 = k := by omega
  have a4 : (k * 300 + u + 1 - 2 ^ k) % 300 = u + 1 - 2 ^ k := by omega
  rw [a1, a2, a3, a4]
  have : tad (wnd f k l) (wnd f k (u + 1 - 2 ^ k)) = rngX adL none f l u := by
    have e : rngX adL none f l u = sgp f (fun x => decide ((l : Int) ≤ (x : Int) ∧ (x : Int) ≤ (u : Int))) := by
      unfold rngX sgp
      simp only [decide_eq_true_eq]
    rw [e]
    refine sgp_or f _ _ _ (fun x hx => ?_)
    simp only [decide_eq_true_eq]
    omega
  rw [this]
theorem ldk_L {S S' : bd_T} {f : Nat → Option Nat} (h : kp S S' [] [] [0]) (hl : ldL S f) : ldL S' f := fun j hj => by rw [h.2.2 2 (by decide)]; exact hl j hj
theorem prek_L {S S' : bd_T} (_ : kp S S' [] [] [0]) (_ : preL S) : preL S' := trivial
