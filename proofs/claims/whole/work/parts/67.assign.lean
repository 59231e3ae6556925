/-! assignments of MINUTES: what the sums and the least costs say of them -/
def al (p : Nat → Bool) : Nat → Bool
  | 0 => true
  | n + 1 => al p n && p n
theorem al_iff {p : Nat → Bool} {n : Nat} : al p n = true ↔ ∀ k, k < n → p k = true := by
  induction n with
  | zero => exact ⟨fun _ k hk => absurd hk (Nat.not_lt_zero _), fun _ => rfl⟩
  | succ n ih =>
    show (al p n && p n) = true ↔ _
    rw [Bool.and_eq_true, ih]
    constructor
    · rintro ⟨a, b⟩ k hk
      by_cases z : k = n
      · rw [z]; exact b
      · exact a k (by omega)
    · intro h
      exact ⟨fun k hk => h k (by omega), h n (by omega)⟩
def er (w : bw) (a : Nat → Nat) : Bool := al (fun t => !ed0 w t || rlw w t (a t) (a (pr0 w t))) (w 0 0)
def vd (w : bw) (g : Nat → Nat → Bool) (a : Nat → Nat) : Bool := al (fun t => g t (a t)) (w 0 0) && er w a
theorem pg_ind {f : Nat → Nat} {p : Nat → Bool} (n : Nat) (h : ∀ t, t < n → f t = if p t = true then 1 else 0) : pg (· * ·) 1 f n = if al p n = true then 1 else 0 := by
  induction n with
  | zero => rfl
  | succ n ih =>
    show pg (· * ·) 1 f n * f n = if (al p n && p n) = true then 1 else 0
    rw [ih (fun t ht => h t (by omega)), h n (by omega)]
    cases al p n <;> cases p n <;> rfl
theorem Phi_vd {w : bw} {g : Nat → Nat → Bool} (a : Nat → Nat) : Phi (· * ·) 0 1 (w 0 0) (pr0 w) (rlw w) (fun _ => true) (ed0 w) (wg g) a = if vd w g a = true then 1 else 0 := by
  unfold Phi
  rw [pg_ind (p := fun t => g t (a t)) (w 0 0) (fun t ht => by rw [if_pos rfl]; rfl), pg_ind (f := fun t => if ed0 w t = true then (if rlw w t (a t) (a (pr0 w t)) = true then 1 else 0) else 1) (p := fun t => !ed0 w t || rlw w t (a t) (a (pr0 w t))) (w 0 0) (fun t ht => by
    cases ed0 w t <;> cases rlw w t (a t) (a (pr0 w t)) <;> rfl)]
  show _ = if (al (fun t => g t (a t)) (w 0 0) && er w a) = true then 1 else 0
  unfold er
  cases al (fun t => g t (a t)) (w 0 0) <;> cases al (fun t => !ed0 w t || rlw w t (a t) (a (pr0 w t))) (w 0 0) <;> rfl
theorem pg_T {f : Nat → Option Nat} {p : Nat → Bool} {c : Nat → Nat} (n : Nat) (h : ∀ t, t < n → f t = if p t = true then some (c t) else none) : pg tmu (some 0) f n = if al p n = true then some (sN c n) else none := by
  induction n with
  | zero => rfl
  | succ n ih =>
    show tmu (pg tmu (some 0) f n) (f n) = if (al p n && p n) = true then some (sN c n + c n) else none
    rw [ih (fun t ht => h t (by omega)), h n (by omega)]
    cases al p n <;> cases p n <;> rfl
def wk (g : Nat → Nat → Bool) (κ : Nat → Nat → Nat) (t b : Nat) : Option Nat := if g t b = true then some (κ t b) else none
theorem sN_0 (n : Nat) : sN (fun _ => 0) n = 0 := sg_zero SRN n
theorem Phi_L {w : bw} {g : Nat → Nat → Bool} {κ : Nat → Nat → Nat} (a : Nat → Nat) : Phi tmu none (some 0) (w 0 0) (pr0 w) (rlw w) (fun _ => true) (ed0 w) (wk g κ) a = if vd w g a = true then some (sN (fun t => κ t (a t)) (w 0 0)) else none := by
  unfold Phi
  rw [pg_T (p := fun t => g t (a t)) (c := fun t => κ t (a t)) (w 0 0) (fun t ht => by rw [if_pos rfl]; rfl), pg_T (f := fun t => if ed0 w t = true then (if rlw w t (a t) (a (pr0 w t)) = true then some 0 else none) else some 0) (p := fun t => !ed0 w t || rlw w t (a t) (a (pr0 w t))) (c := fun _ => 0) (w 0 0) (fun t ht => by
    cases ed0 w t <;> cases rlw w t (a t) (a (pr0 w t)) <;> rfl), sN_0]
  show _ = if (al (fun t => g t (a t)) (w 0 0) && er w a) = true then _ else none
  unfold er
  cases al (fun t => g t (a t)) (w 0 0) <;> cases al (fun t => !ed0 w t || rlw w t (a t) (a (pr0 w t))) (w 0 0) <;> rfl
def Box (w : bw) (a : Nat → Nat) : Prop := Rch (fun _ => true) (w 0 0) (fun _ => 0) a
theorem Box_lt {w : bw} {a : Nat → Nat} (h : Box w a) {t : Nat} (ht : t < w 0 0) : a t < 300 := (h t).1 ⟨ht, rfl⟩
theorem sum_pos {w : bw} (f : (Nat → Nat) → Nat) : 0 < evn (· + ·) 0 (fun _ => true) f (w 0 0) (fun _ => 0) ↔ ∃ a, Box w a ∧ 0 < f a := evn_or (Q := fun x => 0 < x) (Nat.lt_irrefl 0) (fun x y => by show 0 < x + y ↔ _; omega) f (w 0 0) (fun _ => 0)
theorem Ways_pos {w : bw} {g : Nat → Nat → Bool} : 0 < Ways w g ↔ ∃ a, Box w a ∧ vd w g a = true := by
  refine (sum_pos (w := w) (Phi (· * ·) 0 1 (w 0 0) (pr0 w) (rlw w) (fun _ => true) (ed0 w) (wg g))).trans (exists_congr (fun a => and_congr_right (fun _ => ?_)))
  rw [Phi_vd]
  by_cases c : vd w g a = true
  · rw [if_pos c]; exact ⟨fun _ => c, fun _ => Nat.one_pos⟩
  · rw [if_neg c]; exact ⟨fun z => absurd z (Nat.lt_irrefl 0), fun z => absurd z c⟩
def leK (K : Nat) (x : Option Nat) : Prop := ∃ c, x = some c ∧ c ≤ K
theorem leK_none (K : Nat) : ¬ leK K none := fun ⟨c, h, _⟩ => by cases h
theorem leK_some (K c : Nat) : leK K (some c) ↔ c ≤ K := ⟨fun ⟨d, h, h2⟩ => by cases h; exact h2, fun h => ⟨c, rfl, h⟩⟩
theorem leK_tad (K : Nat) (x y : Option Nat) : leK K (tad x y) ↔ leK K x ∨ leK K y := by
  cases x with
  | none => exact ⟨Or.inr, fun h => h.elim (fun z => absurd z (leK_none K)) id⟩
  | some a =>
    cases y with
    | none => exact ⟨Or.inl, fun h => h.elim id (fun z => absurd z (leK_none K))⟩
    | some b =>
      show leK K (some (min a b)) ↔ _
      rw [leK_some, leK_some, leK_some]; omega
theorem ZwL_wk {w : bw} {g : Nat → Nat → Bool} {κ : Nat → Nat → Nat} {v b K : Nat} : leK K (ZwL w (wk g κ) v b) ↔ ∃ a, Rch (unm (fun _ => true) v) (w 0 0) (fup (fun _ => 0) v b) a ∧ vd w g a = true ∧ sN (fun t => κ t (a t)) (w 0 0) ≤ K := by
  refine (evn_or (Q := leK K) (leK_none K) (leK_tad K) _ (w 0 0) _).trans (exists_congr (fun a => and_congr_right (fun _ => ?_)))
  rw [Phi_L]
  by_cases c : vd w g a = true
  · rw [if_pos c, leK_some]; exact ⟨fun h => ⟨c, h⟩, fun h => h.2⟩
  · rw [if_neg c]; exact ⟨fun z => absurd z (leK_none K), fun z => absurd z.1 c⟩
theorem rch_box {w : bw} {v b : Nat} {a : Nat → Nat} (hv : v < w 0 0) : (b < 300 ∧ Rch (unm (fun _ => true) v) (w 0 0) (fup (fun _ => 0) v b) a) ↔ Box w a ∧ a v = b := by
  constructor
  · rintro ⟨hb, h⟩
    have av : a v = b := by
      rw [(h v).2 (fun z => by rw [unm_v] at z; cases z.2)]
      exact if_pos rfl
    refine ⟨fun i => ⟨fun z => ?_, fun z => ?_⟩, av⟩
    · by_cases c : i = v
      · rw [c, av]; exact hb
      · exact (h i).1 ⟨z.1, by rw [unm_ne c]⟩
    · have hi : ¬ i < w 0 0 := fun q => z ⟨q, rfl⟩
      rw [(h i).2 (fun q => hi q.1)]
      exact if_neg (by omega)
  · rintro ⟨h, av⟩
    refine ⟨by rw [← av]; exact Box_lt h hv, fun i => ⟨fun z => (h i).1 ⟨z.1, rfl⟩, fun z => ?_⟩⟩
    by_cases c : i = v
    · rw [c, av]; exact (if_pos rfl).symm
    · have hi : ¬ i < w 0 0 := fun q => z ⟨q, by rw [unm_ne c]⟩
      rw [(h i).2 (fun q => hi q.1)]
      exact (if_neg c).symm
theorem Zbox {w : bw} {g : Nat → Nat → Bool} {κ : Nat → Nat → Nat} {v b K : Nat} (hv : v < w 0 0) (hb : b < 300) : leK K (ZwL w (wk g κ) v b) ↔ ∃ a, Box w a ∧ a v = b ∧ vd w g a = true ∧ sN (fun t => κ t (a t)) (w 0 0) ≤ K := by
  rw [ZwL_wk]
  constructor
  · rintro ⟨a, h, h2⟩
    obtain ⟨x, y⟩ := (rch_box hv).mp ⟨hb, h⟩
    exact ⟨a, x, y, h2⟩
  · rintro ⟨a, x, y, h2⟩
    exact ⟨a, ((rch_box hv).mpr ⟨x, y⟩).2, h2⟩
theorem sN_single {c : Nat → Nat} {o n : Nat} (ho : o < n) : sN (fun t => if t = o then c t else 0) n = c o := by
  have k : ∀ n, sN (fun t => if t = o then c t else 0) n = if o < n then c o else 0 := fun n => by
    induction n with
    | zero => rfl
    | succ n ih =>
      show sN _ n + (if n = o then c n else 0) = _
      rw [ih]
      rcases Nat.lt_trichotomy o n with q | q | q
      · rw [if_pos q, if_neg (by omega), if_pos (by omega)]; rfl
      · rw [if_neg (by omega), if_pos q.symm, if_pos (by omega), q]; omega
      · rw [if_neg (by omega), if_neg (by omega), if_neg (by omega)]
  rw [k, if_pos ho]
theorem eN_sum {m : Nat → Bool} (φ : Nat → (Nat → Nat) → Nat) (k n : Nat) : ∀ a, sN (fun i => evn (· + ·) 0 m (φ i) n a) k = evn (· + ·) 0 m (fun a => sN (fun i => φ i a) k) n a := by
  induction n with
  | zero => exact fun _ => rfl
  | succ n ih =>
    intro a
    unfold evn
    by_cases c : m n = true
    · simp only [if_pos c]
      rw [show sN (fun i => sg (· + ·) 0 (fun x => evn (· + ·) 0 m (φ i) n (fup a n x)) 300) k = sg (· + ·) 0 (fun x => sN (fun i => evn (· + ·) 0 m (φ i) n (fup a n x)) k) 300 from sg_swap SRN _ k 300]
      exact sg_congr (fun x _ => ih _)
    · simp only [if_neg c]
      exact ih a
theorem eN_add {m : Nat → Bool} (φ ψ : (Nat → Nat) → Nat) (n : Nat) : ∀ a, evn (· + ·) 0 m (fun a => φ a + ψ a) n a = evn (· + ·) 0 m φ n a + evn (· + ·) 0 m ψ n a := by
  induction n with
  | zero => exact fun _ => rfl
  | succ n ih =>
    intro a
    unfold evn
    by_cases c : m n = true
    · rw [if_pos c, if_pos c, if_pos c]
      rw [sg_congr (fun x _ => ih _)]
      exact sg_add SRN _ _ 300
    · rw [if_neg c, if_neg c, if_neg c]
      exact ih a
