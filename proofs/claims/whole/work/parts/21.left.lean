/-! THE WORLD, in plain numbers: w 0 = (THINGS, ROOM, is a WINDOW, from, to, candidates, LOOKS); w 1 LAW, 2 BEGINNING, 3 PACE, 4 the joined one and 1 (0: none), 5 KIND, 6 n; 7, 8 candidates; 9 a LOOK's THING, 10 MINUTE, 11 LOW, 12 HIGH, 13 DOUBTED -/
abbrev bw : Type := Nat → Nat → Nat
def bsum (P : Nat → Bool) : Nat → Nat
  | 0 => 0
  | n + 1 => bsum P n + if P n = true then 2 ^ n else 0
def wdb (w : bw) (n : Nat) : Nat := bsum (fun k => decide (w 13 k = 1)) n
def wF (w : bw) : Prop := (w 0 0 ≤ 6 ∧ w 0 1 ≤ 9999 ∧ w 0 2 ≤ 1 ∧ w 0 5 ≤ 4 ∧ w 0 6 ≤ 10) ∧ (w 0 2 = 1 → w 0 3 ≤ w 0 4 ∧ w 0 4 ≤ 299) ∧ (∀ i, i < w 0 5 → w 7 i ≤ w 8 i ∧ w 8 i ≤ 299) ∧ (∀ t, t < w 0 0 → w 1 t ≤ 5 ∧ w 2 t ≤ 9999 ∧ w 3 t ≤ 99 ∧ w 4 t ≤ t ∧ w 5 t ≤ 3 ∧ w 6 t ≤ 299) ∧ (∀ k, k < w 0 6 → w 9 k < w 0 0 ∧ w 10 k ≤ 299 ∧ w 11 k ≤ w 12 k ∧ w 12 k ≤ 9999 ∧ w 13 k ≤ 1)
/-- the class's cells of a world -/
def wXg (I : Nat → Int32) (A : Nat → Nat → Int32) (w : bw) : Prop := I 0 = nI (w 0 1) ∧ ((w 0 2 = 0 ∧ I 1 = 0 ∧ I 2 = -1) ∨ (w 0 2 = 1 ∧ I 1 = nI (w 0 3) ∧ I 2 = nI (w 0 4))) ∧ I 3 = nI (w 0 5) ∧ I 4 = nI (w 0 0) ∧ I 5 = nI (w 0 6) ∧ I 6 = nI (wdb w (w 0 6)) ∧ (∀ i, i < w 0 5 → A 0 i = nI (w 7 i) ∧ A 1 i = nI (w 8 i)) ∧ (∀ t, t < w 0 0 → A 2 t = nI (w 1 t) ∧ A 3 t = nI (w 2 t) ∧ A 4 t = nI (w 3 t) ∧ A 5 t = nI (w 4 t) - 1 ∧ A 6 t = nI (w 5 t) ∧ A 7 t = nI (w 6 t)) ∧ (∀ k, k < w 0 6 → A 8 k = nI (w 9 k) ∧ A 9 k = nI (w 10 k) ∧ A 10 k = nI (w 11 k) ∧ A 11 k = nI (w 12 k))
/-- the reference's -/
def wMg (I : Nat → Int32) (A : Nat → Nat → Int32) (w : bw) : Prop := I 0 = nI (w 0 1) ∧ ((w 0 2 = 0 ∧ I 1 = -1 ∧ I 2 = -1) ∨ (w 0 2 = 1 ∧ I 1 = nI (w 0 3) ∧ I 2 = nI (w 0 4))) ∧ I 3 = nI (w 0 5) ∧ I 4 = nI (w 0 0) ∧ I 5 = nI (w 0 6) ∧ (∀ i, i < w 0 5 → A 0 i = nI (w 7 i) ∧ A 1 i = nI (w 8 i)) ∧ (∀ t, t < w 0 0 → A 2 t = nI (w 1 t) ∧ A 3 t = nI (w 2 t) ∧ A 4 t = nI (w 3 t) ∧ A 5 t = nI (w 4 t) - 1 ∧ (w 4 t ≠ 0 → A 6 t = nI (w 5 t) ∧ A 7 t = nI (w 6 t))) ∧ (∀ k, k < w 0 6 → A 8 k = nI (w 9 k) ∧ A 9 k = nI (w 10 k) ∧ A 10 k = nI (w 11 k) ∧ A 11 k = nI (w 12 k) ∧ A 12 k = nI (w 13 k))
def eXI (S : bd_T) : Nat → Int32 := fun i => bd_I S (([2, 3, 4, 5, 17, 18, 19] : List Nat).getD i 0)
def eXA (S : bd_T) : Nat → Nat → Int32 := fun c => bd_A S (([2, 3, 11, 12, 13, 14, 15, 16, 17, 18, 19, 20] : List Nat).getD c 0)
def ePI (S : bd_T) : Nat → Int32 := fun i => bd_I S (([6, 7, 8, 9, 20, 21, 22] : List Nat).getD i 0)
def ePA (S : bd_T) : Nat → Nat → Int32 := fun c => bd_A S (([5, 6, 21, 22, 23, 24, 25, 26, 27, 28, 29, 30] : List Nat).getD c 0)
def eMI (M : bd_T) : Nat → Int32 := fun i => bd_I M (([3, 4, 5, 6, 2, 8] : List Nat).getD i 0)
def eMA (M : bd_T) : Nat → Nat → Int32 := fun c => bd_A M (([5, 6, 2, 3, 4, 12, 13, 14, 7, 8, 9, 10, 11] : List Nat).getD c 0)
def eKI (M : bd_T) : Nat → Int32 := fun i => bd_A M 19 (([95, 96, 97, 98, 94, 99] : List Nat).getD i 0)
def eKA (M : bd_T) : Nat → Nat → Int32 := fun c i => bd_A M 19 (([18, 22, 0, 6, 12, 76, 82, 88, 26, 36, 46, 56, 66] : List Nat).getD c 0 + i)
abbrev wX (S : bd_T) (w : bw) : Prop := wXg (eXI S) (eXA S) w
abbrev wM (M : bd_T) (w : bw) : Prop := wMg (eMI M) (eMA M) w
/-! LEFT -/
def wop (w : bw) (m : Nat) : Bool := decide (w 0 2 = 1 ∧ w 0 3 ≤ m ∧ m ≤ w 0 4)
def near (r v h : Nat) : Nat := if v < r then v + (r - v) * h / 100 else v - (v - r) * h / 100
def nrs (r : Nat) (hp : Nat → Nat) (v b : Nat) : Nat → Nat
  | 0 => v
  | n + 1 => near r (nrs r hp v b n) (hp (b + n))
def cop (w : bw) (b : Nat) : Nat → Nat
  | 0 => 0
  | n + 1 => cop w b n + if wop w (b + n) then 1 else 0
def wIn (w : bw) (t : Nat) : Nat := if 2 * w 3 t < 100 then 2 * w 3 t else 100
def wHp (w : bw) (t : Nat) : Nat → Nat := fun m => if wop w m then wIn w t else w 3 t
def LV (w : bw) (t b a : Nat) : Nat :=
  if w 1 t = 0 then w 2 t - w 3 t * a else if w 1 t = 1 then nrs (w 0 1) (fun _ => w 3 t) (w 2 t) b a else if w 1 t = 2 then w 2 t - w 3 t * 10 * (a / 10) else if w 1 t = 3 then w 2 t - w 3 t * cop w b a else if w 1 t = 4 then nrs (w 0 1) (wHp w t) (w 2 t) b a else w 2 t
theorem mul_div_le {x h : Nat} (hh : h ≤ 100) : x * h / 100 ≤ x := by
  have h1 : x * h ≤ x * 100 := Nat.mul_le_mul_left x hh
  omega
theorem near_le {r v h : Nat} (hr : r ≤ 9999) (hv : v ≤ 9999) (hh : h ≤ 100) : near r v h ≤ 9999 := by
  unfold near
  have h1 := mul_div_le (x := r - v) hh
  split <;> omega
theorem nrs_le {r : Nat} {hp : Nat → Nat} {v b : Nat} (hr : r ≤ 9999) (hv : v ≤ 9999) (hh : ∀ m, hp m ≤ 100) (n : Nat) : nrs r hp v b n ≤ 9999 := by
  induction n with
  | zero => exact hv
  | succ n ih => exact near_le hr ih (hh _)
theorem near_fix {r v i o : Nat} (h : near r v i = v) (ho : o ≤ i) : near r v o = v := by
  unfold near at h ⊢
  split at h
  · rename_i hlt
    rw [if_pos hlt]
    have h1 : (r - v) * o ≤ (r - v) * i := Nat.mul_le_mul_left _ ho
    omega
  · rename_i hlt
    rw [if_neg hlt]
    have h1 : (v - r) * o ≤ (v - r) * i := Nat.mul_le_mul_left _ ho
    by_cases hv : v = 0
    · omega
    · omega
theorem nrs_stay {r : Nat} {hp : Nat → Nat} {v b i0 : Nat} (i : Nat) (h : near r (nrs r hp v b i) i0 = nrs r hp v b i) (hh : ∀ m, hp m ≤ i0) (d : Nat) : nrs r hp v b (i + d) = nrs r hp v b i := by
  induction d with
  | zero => rfl
  | succ d ih =>
    show near r (nrs r hp v b (i + d)) (hp (b + (i + d))) = _
    rw [ih]
    exact near_fix h (hh _)
theorem pz_neg_add {a b : Nat} (h : b ≤ a) : nI a + -(nI b) = nI (a - b) := by
  rw [← Int32.sub_eq_add_neg]
  exact pk_sub h
theorem pz_sub_neg {a b : Nat} (h : a ≤ b) : nI a - nI b = -(nI (b - a)) := by
  have := pk_sub (a := b) (b := a) h
  rw [← this, Int32.neg_sub]
theorem pz_near {r v h : Nat} (hr : r ≤ 9999) (hv : v ≤ 9999) (hh : h ≤ 100) : nI v + (nI r - nI v) * nI h / 100 = nI (near r v h) := by
  unfold near
  have hb : (r - v) * h ≤ 9999 * 100 := Nat.mul_le_mul (by omega) hh
  have hb2 : (v - r) * h ≤ 9999 * 100 := Nat.mul_le_mul (by omega) hh
  by_cases hlt : v < r
  · rw [if_pos hlt, pk_sub (by omega), pk_mul, show (100 : Int32) = nI 100 from rfl, pk_div (by omega) (by omega) (by omega), nI_add]
  · rw [if_neg hlt, pz_sub_neg (by omega), Int32.neg_mul, pk_mul, sb_ndiv (by omega)]
    have := mul_div_le (x := v - r) hh
    exact pz_neg_add (by omega)
