theorem SRN : SR (α := Nat) (· + ·) (· * ·) 0 1 := ⟨Nat.add_comm, Nat.add_assoc, Nat.zero_add, Nat.mul_comm, Nat.mul_assoc, Nat.one_mul, Nat.mul_add, Nat.zero_mul⟩
abbrev sN (f : Nat → Nat) (n : Nat) : Nat := sg (· + ·) 0 f n
/-- a JOINING: may t begin at x, when the one that it is joined to began at y -/
def rlw (w : bw) (t x y : Nat) : Bool := if w 5 t = 0 then decide (x = y + w 6 t) else if w 5 t = 1 then decide (y + w 6 t ≤ x) else if w 5 t = 2 then decide (x + w 6 t ≤ y) else decide (x ≤ y + w 6 t ∧ y ≤ x + w 6 t)
def pr0 (w : bw) (t : Nat) : Nat := w 4 t - 1
def ed0 (w : bw) (t : Nat) : Bool := decide (w 4 t ≠ 0)
def wg (g : Nat → Nat → Bool) (t b : Nat) : Nat := if g t b = true then 1 else 0
def PhN (w : bw) (ac ed : Nat → Bool) (wt : Nat → Nat → Nat) : (Nat → Nat) → Nat := Phi (· * ·) 0 1 (w 0 0) (pr0 w) (rlw w) ac ed wt
def eN (m : Nat → Bool) (φ : (Nat → Nat) → Nat) (n : Nat) (a : Nat → Nat) : Nat := evn (· + ·) 0 m φ n a
/-- how many WAYS there are, with minutes that g lets stand -/
def Ways (w : bw) (g : Nat → Nat → Bool) : Nat := eN (fun _ => true) (PhN w (fun _ => true) (ed0 w) (wg g)) (w 0 0) (fun _ => 0)
/-- a sum over a piece of the MINUTES -/
def rng (f : Nat → Nat) (lo hi : Int) : Nat := sN (fun x => if lo ≤ (x : Int) ∧ (x : Int) ≤ hi then f x else 0) 300
theorem sN_mono {f : Nat → Nat} {a b : Nat} (h : a ≤ b) : sN f a ≤ sN f b := by
  obtain ⟨d, rfl⟩ : ∃ d, b = a + d := ⟨b - a, by omega⟩
  induction d with
  | zero => exact Nat.le_refl _
  | succ d ih => exact Nat.le_trans (ih (by omega)) (Nat.le_add_right _ _)
theorem sN_piece (f : Nat → Nat) (l h : Nat) (n : Nat) (hlh : l ≤ h + 1) : sN (fun x => if (l : Int) ≤ (x : Int) ∧ (x : Int) ≤ (h : Int) then f x else 0) n = sN f (min n (h + 1)) - sN f (min n l) := by
  induction n with
  | zero => simp [sN, sg]
  | succ n ih =>
    show sN _ n + _ = _
    rw [ih]
    dsimp only
    by_cases c : l ≤ n ∧ n ≤ h
    · rw [if_pos (by omega)]
      have e1 : min (n + 1) (h + 1) = n + 1 := by omega
      have e2 : min n (h + 1) = n := by omega
      have e3 : min (n + 1) l = l := by omega
      have e4 : min n l = l := by omega
      rw [e1, e2, e3, e4]
      have : sN f l ≤ sN f n := sN_mono c.1
      show _ = sN f n + f n - _
      omega
    · rw [if_neg (by omega)]
      by_cases c2 : n < l
      · have e1 : min (n + 1) (h + 1) = n + 1 := by omega
        have e2 : min n (h + 1) = n := by omega
        have e3 : min (n + 1) l = n + 1 := by omega
        have e4 : min n l = n := by omega
        rw [e1, e2, e3, e4]; omega
      · have e1 : min (n + 1) (h + 1) = h + 1 := by omega
        have e2 : min n (h + 1) = h + 1 := by omega
        have e3 : min (n + 1) l = l := by omega
        have e4 : min n l = l := by omega
        rw [e1, e2, e3, e4]; omega
theorem rng_in {f : Nat → Nat} {l h : Nat} (h1 : l ≤ h + 1) (h2 : h ≤ 299) : rng f l h = sN f (h + 1) - sN f l := by
  unfold rng
  rw [sN_piece f l h 300 h1, show min 300 (h + 1) = h + 1 by omega, show min 300 l = l by omega]
theorem rng_clip {f : Nat → Nat} {lo hi lo' hi' : Int} (h : ∀ x : Nat, x < 300 → ((lo ≤ (x : Int) ∧ (x : Int) ≤ hi) ↔ (lo' ≤ (x : Int) ∧ (x : Int) ≤ hi'))) : rng f lo hi = rng f lo' hi' := by
  unfold rng
  apply sg_congr
  intro x hx
  by_cases c : lo ≤ (x : Int) ∧ (x : Int) ≤ hi
  · rw [if_pos c, if_pos ((h x hx).mp c)]
  · rw [if_neg c, if_neg (fun z => c ((h x hx).mpr z))]
theorem rng_none {f : Nat → Nat} {lo hi : Int} (h : ∀ x : Nat, x < 300 → ¬ (lo ≤ (x : Int) ∧ (x : Int) ≤ hi)) : rng f lo hi = 0 := by
  unfold rng
  exact (sg_congr (g := fun _ => 0) (fun x hx => if_neg (h x hx))).trans (sg_zero SRN 300)
theorem rng_rel {f : Nat → Nat} {lo hi : Int} {P : Nat → Bool} (h : ∀ x : Nat, x < 300 → ((lo ≤ (x : Int) ∧ (x : Int) ≤ hi) ↔ P x = true)) : rng f lo hi = sN (fun x => f x * (if P x = true then 1 else 0)) 300 := by
  unfold rng
  apply sg_congr
  intro x hx
  by_cases c : P x = true
  · rw [if_pos ((h x hx).mpr c), if_pos c, Nat.mul_one]
  · rw [if_neg (fun z => c ((h x hx).mp z)), if_neg c, Nat.mul_zero]
theorem pz_sl {a b : Nat} {M : bd_T} (h : a = b) : (some (lN a, M) : Option (Int64 × bd_T)) = some (lN b, M) := by rw [h]
/-! the reference's between and joined -/
theorem pm_between {M : bd_T} {f : Nat → Nat} (hb : ∀ j, j ≤ 300 → bd_J M 1 j = lN (sN f j)) {x y : Int32} {lo hi : Int} (hx : x.toInt = lo) (hy : y.toInt = hi) (h1 : -1000 ≤ lo) (h2 : lo ≤ 1000) (h3 : -1000 ≤ hi) (h4 : hi ≤ 1000) : f_X10_between x y M = some (lN (rng f lo hi), M) := by
  have t0 : (0 : Int32).toInt = 0 := rfl
  have t3 : (300 : Int32).toInt = 300 := rfl
  have t9 : (299 : Int32).toInt = 299 := rfl
  have go : ∀ (l h : Nat), l ≤ h → h ≤ 299 → ((bd_gj M 1 301 (nI h + 1)).bind (fun (z1 : Int64) => (bd_gj M 1 301 (nI l)).bind (fun (z2 : Int64) => some ((z1 - z2), M)))) = some (lN (rng f l h), M) := by
    intro l h hl hh
    rw [nI_1, pz_gj (show h + 1 < 301 by omega) (by decide), pz_some, pz_gj (show l < 301 by omega) (by decide), pz_some, hb _ (by omega), hb _ (by omega), lN_sub (sN_mono (by omega)), rng_in (by omega) hh]
  unfold f_X10_between
  by_cases c1 : 0 ≤ lo
  · have ex : x = nI lo.toNat := ti_eq (by omega) (by omega)
    rw [if_pos (by rw [Int32.le_iff_toInt_le, hx, t0]; exact c1)]
    by_cases c2 : hi < 300
    · rw [if_pos (by rw [Int32.lt_iff_toInt_lt, hy, t3]; exact c2)]
      by_cases c3 : lo ≤ hi
      · have ey : y = nI hi.toNat := ti_eq (by omega) (by omega)
        rw [if_pos (by rw [Int32.le_iff_toInt_le, hx, hy]; exact c3), ex, ey, go _ _ (by omega) (by omega)]
        exact pz_sl (rng_clip (fun z _ => by omega))
      · rw [if_neg (by rw [Int32.le_iff_toInt_le, hx, hy]; exact c3), rng_none (fun z _ => by omega)]
        rfl
    · rw [if_neg (by rw [Int32.lt_iff_toInt_lt, hy, t3]; exact c2)]
      by_cases c3 : lo ≤ 299
      · rw [if_pos (by rw [Int32.le_iff_toInt_le, hx, t9]; exact c3), ex]
        refine (go lo.toNat 299 (by omega) (by omega)).trans ?_
        exact pz_sl (rng_clip (fun z _ => by omega))
      · rw [if_neg (by rw [Int32.le_iff_toInt_le, hx, t9]; exact c3), rng_none (fun z _ => by omega)]
        rfl
  · rw [if_neg (by rw [Int32.le_iff_toInt_le, hx, t0]; exact c1)]
    by_cases c2 : hi < 300
    · rw [if_pos (by rw [Int32.lt_iff_toInt_lt, hy, t3]; exact c2)]
      by_cases c3 : 0 ≤ hi
      · have ey : y = nI hi.toNat := ti_eq (by omega) (by omega)
        rw [if_pos (by rw [Int32.le_iff_toInt_le, hy, t0]; exact c3), ey]
        refine (go 0 hi.toNat (by omega) (by omega)).trans ?_
        exact pz_sl (rng_clip (fun z _ => by omega))
      · rw [if_neg (by rw [Int32.le_iff_toInt_le, hy, t0]; exact c3), rng_none (fun z _ => by omega)]
        rfl
    · rw [if_neg (by rw [Int32.lt_iff_toInt_lt, hy, t3]; exact c2)]
      refine (go 0 299 (by omega) (by omega)).trans ?_
      exact pz_sl (rng_clip (fun z _ => by omega))
theorem ti_nadd {a b : Nat} (ha : a ≤ 1000) (hb : b ≤ 1000) : (nI a + nI b).toInt = (a : Int) + b := by
  rw [nI_add, nI_toInt (by omega)]; omega
theorem ti_nsub {a b : Nat} (ha : a ≤ 1000) (hb : b ≤ 1000) : (nI a - nI b).toInt = (a : Int) - b := pk_sub_toInt (by omega) (by omega)
theorem pm_joined {M : bd_T} {w : bw} (hw : wM M w) (hf : wF w) {f : Nat → Nat} (hb : ∀ j, j ≤ 300 → bd_J M 1 j = lN (sN f j)) {t m : Nat} (ht : t < w 0 0) (hj : w 4 t ≠ 0) (hm : m < 300) : f_X10_joined (nI t) (nI m) M = some (lN (sN (fun x => f x * (if rlw w t x m = true then 1 else 0)) 300), M) := by
  obtain ⟨h1, h2, h3, h4, h5, h6⟩ := hf.2.2.2.1 t ht
  obtain ⟨g5, g6⟩ := (hw.2.2.2.2.2.2.1 t ht).2.2.2.2 hj
  have g5 : bd_A M 13 t = nI (w 5 t) := g5
  have g6 : bd_A M 14 t = nI (w 6 t) := g6
  have ht6 : t < 6 := Nat.lt_of_lt_of_le ht hf.1.1
  have hl0 : nI (w 5 t) = 0 ↔ w 5 t = 0 := nI_eq (b := 0) (by omega) (by omega)
  have hl1 : nI (w 5 t) = 1 ↔ w 5 t = 1 := nI_eq (b := 1) (by omega) (by omega)
  have hl2 : nI (w 5 t) = 2 ↔ w 5 t = 2 := nI_eq (b := 2) (by omega) (by omega)
  have ea := ti_nadd (a := m) (b := w 6 t) (by omega) (by omega)
  have es := ti_nsub (a := m) (b := w 6 t) (by omega) (by omega)
  unfold f_X10_joined
  rw [pz_ga ht6 (by decide), pz_some, pz_ga ht6 (by decide), pz_some, g5, g6]
  by_cases c0 : w 5 t = 0
  · rw [if_pos (hl0.mpr c0), pm_between hb ea ea (by omega) (by omega) (by omega) (by omega), pz_b2]
    exact pz_sl (rng_rel (fun x hx => by unfold rlw; rw [if_pos c0]; simp; omega))
  · rw [if_neg (fun z => c0 (hl0.mp z))]
    by_cases c1 : w 5 t = 1
    · rw [if_pos (hl1.mpr c1), pm_between hb ea (show (299 : Int32).toInt = 299 from rfl) (by omega) (by omega) (by omega) (by omega), pz_b2]
      exact pz_sl (rng_rel (fun x hx => by unfold rlw; rw [if_neg c0, if_pos c1]; simp; omega))
    · rw [if_neg (fun z => c1 (hl1.mp z))]
      by_cases c2 : w 5 t = 2
      · rw [if_pos (hl2.mpr c2), pm_between hb (show (0 : Int32).toInt = 0 from rfl) es (by omega) (by omega) (by omega) (by omega), pz_b2]
        exact pz_sl (rng_rel (fun x hx => by unfold rlw; rw [if_neg c0, if_neg c1, if_pos c2]; simp; omega))
      · rw [if_neg (fun z => c2 (hl2.mp z)), pm_between hb es ea (by omega) (by omega) (by omega) (by omega), pz_b2]
        exact pz_sl (rng_rel (fun x hx => by unfold rlw; rw [if_neg c0, if_neg c1, if_neg c2]; simp; omega))
/-! the reference's canOf -/
def gd (w : bw) (fr tt : Nat → Nat) (lo t b : Nat) : Bool := decide (fr t ≤ b ∧ b ≤ tt t) && decide (∀ k, k < w 0 6 → w 9 k = t → w 13 k = 0 → lo.testBit k = false → lets w k b = true)
theorem lo_bit {lo k : Nat} (h : lo < 1024) (hk : k < 10) : ((nI lo >>> (nI k &&& 31)) &&& 1 = 0) ↔ lo.testBit k = false := by
  have hs : ∀ k, k < 10 → ((nI k &&& 31).toBitVec.smod 32).toNat = k := by decide +kernel
  rw [pk_shrN (by omega) _ k (hs k hk), pk_andN (by have := Nat.div_le_self lo (2 ^ k); omega) 1 rfl, Nat.testBit_eq_decide_div_mod_eq]
  have h2 : lo / 2 ^ k % 2 < 2 := Nat.mod_lt _ (by decide)
  rw [show (0 : Int32) = nI 0 from rfl, nI_eq (by omega) (by omega), Nat.pow_one]
  simp
/-- the reference's bounds and LOOKS that are left out -/
def frM (M : bd_T) (w : bw) (fr tt : Nat → Nat) (lo : Nat) : Prop := (∀ t, t < w 0 0 → bd_A M 15 t = nI (fr t) ∧ bd_A M 16 t = nI (tt t) ∧ fr t ≤ 300 ∧ tt t ≤ 300) ∧ bd_I M 9 = nI lo ∧ lo < 1024
theorem pm_canOf {M : bd_T} {w : bw} (hw : wM M w) (hf : wF w) (hl : lM M w) {fr tt : Nat → Nat} {lo : Nat} (hfr : frM M w fr tt lo) {t b : Nat} (ht : t < w 0 0) (hb : b < 300) : f_X10_canOf (nI t) (nI b) M = some (if gd w fr tt lo t b = true then 1 else 0, M) := by
  obtain ⟨a1, a2, a3, a4⟩ := hfr.1 t ht
  have ht6 : t < 6 := Nat.lt_of_lt_of_le ht hf.1.1
  have h10 := hf.1.2.2.2.2
  have h66 := hf.1.1
  have e8 : bd_I M 8 = nI (w 0 6) := hw.2.2.2.2.1
  unfold f_X10_canOf gd
  rw [pz_ga ht6 (by decide), pz_some, a1]
  by_cases c1 : b < fr t
  · rw [if_pos (nI_lt c1 (by omega)), if_neg]
    simp; omega
  · rw [if_neg (nI_nlt (by omega) (by omega)), pz_ga ht6 (by decide), pz_some, a2]
    by_cases c2 : b ≤ tt t
    · rw [if_pos (nI_le c2 (by omega))]
      obtain ⟨r, e, h⟩ := pz_loop (F := fun q => fb_X10_canOf_24 (nI t) (nI b) q.1 q.2) (fun i s => s = (nI i, M) ∧ ∀ k, k < i → w 9 k = t → w 13 k = 0 → lo.testBit k = false → lets w k b = true) (fun r => Sum.elim (fun z => some z) (fun r => (some ((1 : Int32), r) : Option (Int32 × bd_T))) r = some (if (∀ k, k < w 0 6 → w 9 k = t → w 13 k = 0 → lo.testBit k = false → lets w k b = true) then 1 else 0, M)) (w 0 6) (fun i s hi hs => by
          obtain ⟨q1, q2⟩ := hs
          subst q1
          dsimp only
          have hk10 : i < 10 := by omega
          obtain ⟨h1, h2, h3, h4, h5⟩ := hf.2.2.2.2 i hi
          obtain ⟨g1, -, -, -, g5⟩ := hw.2.2.2.2.2.2.2 i hi
          have g1 : bd_A M 7 i = nI (w 9 i) := g1
          have g5 : bd_A M 11 i = nI (w 13 i) := g5
          have next : (w 9 i = t → w 13 i = 0 → lo.testBit i = false → lets w i b = true) → ∀ k, k < i + 1 → w 9 k = t → w 13 k = 0 → lo.testBit k = false → lets w k b = true := by
            intro hh k hk
            by_cases z : k = i
            · subst z; exact hh
            · exact q2 k (by omega)
          unfold fb_X10_canOf_24
          rw [e8, if_neg (nI_ge hi (by omega)), pz_ga hk10 (by decide), pz_some, g1]
          by_cases z1 : w 9 i = t
          · rw [if_pos (by rw [z1])]
            unfold f_X10_counts
            rw [pz_ga hk10 (by decide), pz_some, g5]
            by_cases z2 : w 13 i = 0
            · rw [if_pos (by rw [z2]; rfl), hfr.2.1]
              by_cases z3 : lo.testBit i = false
              · rw [if_pos ((lo_bit hfr.2.2 hk10).mpr z3), pz_b2, if_neg (by decide), show (300 : Int32) = nI 300 from rfl, pk_mul, nI_add, pz_ga (show 300 * i + b < 3000 by omega) (by decide), pz_some, hl.2 i b hi hb]
                by_cases z4 : lets w i b = true
                · rw [if_pos z4, if_neg (by decide)]
                  exact Or.inl ⟨_, rfl, by rw [nI_1], next (fun _ _ _ => z4)⟩
                · rw [if_neg z4, if_pos rfl]
                  refine Or.inr ⟨_, rfl, ?_⟩
                  show some _ = _
                  rw [if_neg (fun hall => z4 (hall i hi z1 z2 z3))]
              · rw [if_neg (fun h => z3 ((lo_bit hfr.2.2 hk10).mp h)), pz_b2, if_pos rfl]
                exact Or.inl ⟨_, rfl, by rw [nI_1], next (fun _ _ h => absurd h z3)⟩
            · rw [if_neg (show ¬ nI (w 13 i) = 0 from fun h => z2 ((nI_eq (b := 0) (by omega) (by omega)).mp h)), pz_b2, if_pos rfl]
              exact Or.inl ⟨_, rfl, by rw [nI_1], next (fun _ h => absurd h z2)⟩
          · rw [if_neg (fun h => z1 ((nI_eq (by omega) (by omega)).mp h))]
            exact Or.inl ⟨_, rfl, by rw [nI_1], next (fun h => absurd h z1)⟩) (fun s hs => by
          obtain ⟨q1, q2⟩ := hs
          subst q1
          dsimp only
          unfold fb_X10_canOf_24
          rw [e8, if_pos (Int32.le_refl _)]
          refine ⟨_, rfl, ?_⟩
          show some _ = _
          rw [if_pos q2]) (s0 := ((0 : Int32), M)) ⟨rfl, fun k h => by omega⟩ bd_K (by rw [pz_K]; omega)
      rw [e, pz_some]
      refine h.trans ?_
      congr 2
      have : (decide (fr t ≤ b ∧ b ≤ tt t)) = true := by simp; omega
      rw [this, Bool.true_and]
      simp only [decide_eq_true_eq]
    · rw [if_neg (nI_ge (by omega) (by omega)), if_neg]
      simp; omega
