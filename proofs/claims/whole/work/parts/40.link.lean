/-! what the sums say: all WAYS, WAYS with one MINUTE, whether there is one -/
section LINK
variable {α : Type} {ad mu : α → α → α} {ze on : α}
theorem evn_congr_P {m : Nat → Bool} {φ ψ : (Nat → Nat) → α} {P : (Nat → Nat) → Prop} (hP : ∀ a i x, m i = true → x < 300 → P a → P (fup a i x)) (h : ∀ a, P a → φ a = ψ a) (n : Nat) : ∀ a, P a → evn ad ze m φ n a = evn ad ze m ψ n a := by
  induction n with
  | zero => exact h
  | succ n ih =>
    intro a ha
    unfold evn
    by_cases c : m n = true
    · rw [if_pos c, if_pos c]
      exact sg_congr (fun x hx => ih _ (hP a n x c hx ha))
    · rw [if_neg c, if_neg c]
      exact ih a ha
theorem evn_at (R : SR ad mu ze on) {φ : (Nat → Nat) → α} {g n : Nat} (hg : g < n) (a : Nat → Nat) : evn ad ze (fun _ => true) φ n a = sg ad ze (fun b => evn ad ze (unm (fun _ => true) g) φ n (fup a g b)) 300 := by
  rw [evn_rm R n hg rfl (m' := unm (fun _ => true) g) (fun i => rfl), evn_in R n (Or.inr (unm_v _ _))]
/-- a' differs from a in the variables of a mask alone -/
def Rch (m : Nat → Bool) (n : Nat) (a a' : Nat → Nat) : Prop := ∀ i, (i < n ∧ m i = true → a' i < 300) ∧ (¬ (i < n ∧ m i = true) → a' i = a i)
theorem sg_or {Q : α → Prop} (h0 : ¬ Q ze) (h1 : ∀ x y, Q (ad x y) ↔ Q x ∨ Q y) (f : Nat → α) (n : Nat) : Q (sg ad ze f n) ↔ ∃ i, i < n ∧ Q (f i) := by
  induction n with
  | zero => exact ⟨fun h => absurd h h0, fun ⟨i, hi, _⟩ => by omega⟩
  | succ n ih =>
    show Q (ad _ _) ↔ _
    rw [h1, ih]
    constructor
    · rintro (⟨i, hi, h⟩ | h)
      · exact ⟨i, by omega, h⟩
      · exact ⟨n, by omega, h⟩
    · rintro ⟨i, hi, h⟩
      by_cases z : i = n
      · subst z; exact Or.inr h
      · exact Or.inl ⟨i, by omega, h⟩
theorem evn_or {Q : α → Prop} (h0 : ¬ Q ze) (h1 : ∀ x y, Q (ad x y) ↔ Q x ∨ Q y) {m : Nat → Bool} (φ : (Nat → Nat) → α) (n : Nat) : ∀ a, Q (evn ad ze m φ n a) ↔ ∃ a', Rch m n a a' ∧ Q (φ a') := by
  induction n with
  | zero =>
    intro a
    constructor
    · intro h
      exact ⟨a, fun i => ⟨fun z => by omega, fun _ => rfl⟩, h⟩
    · rintro ⟨a', h, q⟩
      have : a' = a := funext (fun i => (h i).2 (by omega))
      subst this; exact q
  | succ n ih =>
    intro a
    unfold evn
    by_cases c : m n = true
    · rw [if_pos c, sg_or h0 h1]
      constructor
      · rintro ⟨x, hx, h⟩
        obtain ⟨a', r, q⟩ := (ih _).mp h
        refine ⟨a', fun i => ⟨fun z => ?_, fun z => ?_⟩, q⟩
        · by_cases y : i = n
          · subst y
            rw [(r i).2 (by omega)]
            unfold fup; rw [if_pos rfl]; exact hx
          · exact (r i).1 ⟨by omega, z.2⟩
        · have y : i ≠ n := fun y => z ⟨by omega, by rw [y]; exact c⟩
          rw [(r i).2 (fun q => z ⟨by omega, q.2⟩)]
          unfold fup; rw [if_neg y]
      · rintro ⟨a', r, q⟩
        refine ⟨a' n, (r n).1 ⟨by omega, c⟩, (ih _).mpr ⟨a', fun i => ⟨fun z => (r i).1 ⟨by omega, z.2⟩, fun z => ?_⟩, q⟩⟩
        unfold fup
        by_cases y : i = n
        · rw [if_pos y, y]
        · rw [if_neg y]
          exact (r i).2 (fun q => z ⟨by omega, q.2⟩)
    · rw [if_neg c, ih]
      constructor
      · rintro ⟨a', r, q⟩
        refine ⟨a', fun i => ⟨fun z => ?_, fun z => (r i).2 (fun y => z ⟨by omega, y.2⟩)⟩, q⟩
        have : i ≠ n := fun y => c (by rw [← y]; exact z.2)
        exact (r i).1 ⟨by omega, z.2⟩
      · rintro ⟨a', r, q⟩
        refine ⟨a', fun i => ⟨fun z => (r i).1 ⟨by omega, z.2⟩, fun z => (r i).2 (fun y => z ⟨?_, y.2⟩)⟩, q⟩
        have : i ≠ n := fun x => c (by rw [← x]; exact y.2)
        omega
theorem evn_zero (R : SR ad mu ze on) {m : Nat → Bool} (n : Nat) : ∀ a, evn ad ze m (fun _ => ze) n a = ze := by
  induction n with
  | zero => exact fun _ => rfl
  | succ n ih =>
    intro a
    unfold evn
    split
    · rw [sg_congr (g := fun _ => ze) (fun x _ => ih _)]; exact sg_zero R 300
    · exact ih a
end LINK
theorem rng_all {f : Nat → Nat} : rngX adC 0 f (0 : Nat) (299 : Nat) = sN f 300 := sg_congr (fun x hx => if_pos ⟨by omega, by omega⟩)
theorem ways_at {w : bw} {g : Nat} (hg : g < w 0 0) (gg : Nat → Nat → Bool) : Ways w gg = sN (ZwC w (wg gg) g) 300 := evn_at SRN hg _
def dom (a : Nat → Nat) : Prop := ∀ i, a i < 300
theorem dom0 : dom (fun _ => 0) := fun _ => Nat.zero_lt_succ _
theorem dom_up {a : Nat → Nat} {i x : Nat} (hx : x < 300) (h : dom a) : dom (fup a i x) := fun j => by
  unfold fup; split
  · exact hx
  · exact h j
theorem Phi_w {α : Type} {mu : α → α → α} {ze on : α} {n : Nat} {pr : Nat → Nat} {rl : Nat → Nat → Nat → Bool} {ac ed : Nat → Bool} {wt wt' : Nat → Nat → α} {a : Nat → Nat} (h : ∀ t, t < n → wt t (a t) = wt' t (a t)) : Phi mu ze on n pr rl ac ed wt a = Phi mu ze on n pr rl ac ed wt' a := by
  unfold Phi
  exact congrArg (fun z => mu z _) (pg_congr (fun t ht => by rw [h t ht]))
theorem Ways_congr {w : bw} {g g' : Nat → Nat → Bool} (h : ∀ t b, t < w 0 0 → b < 300 → g t b = g' t b) : Ways w g = Ways w g' := by
  refine evn_congr_P (P := dom) (fun a i x _ hx ha => dom_up hx ha) (fun a ha => ?_) _ _ dom0
  exact Phi_w (fun t ht => by unfold wg; rw [h t _ ht (ha t)])
/-- with one THING at one MINUTE -/
def at1 (g : Nat → Nat → Bool) (v m : Nat) : Nat → Nat → Bool := fun t b => g t b && (decide (t ≠ v) || decide (b = m))
theorem ways_one {w : bw} {v m : Nat} (hv : v < w 0 0) (hm : m < 300) (g : Nat → Nat → Bool) : Ways w (at1 g v m) = ZwC w (wg g) v m := by
  rw [ways_at hv]
  have e : ∀ b, b < 300 → ZwC w (wg (at1 g v m)) v b = if b = m then ZwC w (wg g) v m else 0 := fun b hb => by
    by_cases c : b = m
    · subst c
      rw [if_pos rfl]
      refine evn_congr_P (P := fun a => a v = b) (fun a i x hi hx ha => ?_) (fun a ha => ?_) _ _ (if_pos rfl)
      · have : i ≠ v := fun z => by rw [z, unm_v] at hi; cases hi
        show (if v = i then x else a v) = b
        rw [if_neg (fun z => this z.symm)]; exact ha
      · refine Phi_w (fun t ht => ?_)
        unfold wg at1
        by_cases z : t = v
        · subst z; simp [ha]
        · simp [z]
    · rw [if_neg c]
      refine Eq.trans ?_ (evn_zero SRN (m := unm (fun _ => true) v) (w 0 0) (fup (fun _ => 0) v b))
      refine evn_congr_P (P := fun a => a v = b) (fun a i x hi hx ha => ?_) (fun a ha => ?_) _ _ (if_pos rfl)
      · have : i ≠ v := fun z => by rw [z, unm_v] at hi; cases hi
        show (if v = i then x else a v) = b
        rw [if_neg (fun z => this z.symm)]; exact ha
      · rw [Phi_ac SRN hv rfl]
        have : wg (at1 g v m) v (a v) = 0 := by unfold wg at1; rw [ha]; simp [c]
        rw [this, Nat.zero_mul]
  rw [show sN (ZwC w (wg (at1 g v m)) v) 300 = sN (fun b => if b = m then ZwC w (wg g) v m else 0) 300 from sg_congr e]
  have k : ∀ n c, sN (fun b => if b = m then c else 0) n = if m < n then c else 0 := by
    intro n c
    induction n with
    | zero => rfl
    | succ n ih =>
      show sN _ n + (if n = m then c else 0) = _
      rw [ih]
      rcases Nat.lt_trichotomy m n with q | q | q
      · rw [if_pos q, if_neg (by omega), if_pos (by omega)]; rfl
      · rw [if_neg (by omega), if_pos q.symm, if_pos (by omega)]; omega
      · rw [if_neg (by omega), if_neg (by omega), if_neg (by omega)]
  rw [k, if_pos hm]
/-! bounds -/
theorem sN_bound {f : Nat → Nat} {c : Nat} (h : ∀ i, f i ≤ c) (n : Nat) : sN f n ≤ n * c := by
  induction n with
  | zero => exact Nat.le_of_eq (Nat.zero_mul c).symm
  | succ n ih =>
    show sN f n + f n ≤ _
    rw [Nat.succ_mul]
    exact Nat.add_le_add ih (h n)
theorem eN_bound {m : Nat → Bool} {φ : (Nat → Nat) → Nat} (h : ∀ a, φ a ≤ 1) (n : Nat) : ∀ a, evn (· + ·) 0 m φ n a ≤ 300 ^ n := by
  induction n with
  | zero => exact h
  | succ n ih =>
    intro a
    unfold evn
    split
    · refine Nat.le_trans (sN_bound (fun x => ih _) 300) ?_
      rw [Nat.pow_succ, Nat.mul_comm]; exact Nat.le_refl _
    · exact Nat.le_trans (ih a) (Nat.pow_le_pow_right (by omega) (by omega))
theorem pg_le1 {f : Nat → Nat} (h : ∀ i, f i ≤ 1) (n : Nat) : pg (· * ·) 1 f n ≤ 1 := by
  induction n with
  | zero => exact Nat.le_refl _
  | succ n ih => exact Nat.mul_le_mul ih (h n)
theorem PhN_one {w : bw} {ac ed : Nat → Bool} {g : Nat → Nat → Bool} (a : Nat → Nat) : Phi (· * ·) 0 1 (w 0 0) (pr0 w) (rlw w) ac ed (wg g) a ≤ 1 := by
  show _ ≤ 1 * 1
  refine Nat.mul_le_mul (pg_le1 (fun i => ?_) _) (pg_le1 (fun i => ?_) _)
  · split
    · unfold wg; split <;> omega
    · omega
  · split
    · split <;> omega
    · omega
theorem pow6 {n : Nat} (h : n ≤ 6) : 300 ^ n ≤ 729000000000000 := Nat.le_trans (Nat.pow_le_pow_right (by omega) h) (by decide)
theorem Ways_le {w : bw} (hf : wF w) (g : Nat → Nat → Bool) : Ways w g ≤ 729000000000000 := Nat.le_trans (eN_bound PhN_one _ _) (pow6 hf.1.1)
theorem ZwC_le {w : bw} (hf : wF w) (g : Nat → Nat → Bool) (v b : Nat) : ZwC w (wg g) v b ≤ 729000000000000 := Nat.le_trans (eN_bound PhN_one _ _) (pow6 hf.1.1)
