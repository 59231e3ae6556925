/-! SUMS over all rows of MINUTES, in any commutative semiring; one variable after another is summed out -/
def SR {α : Type} (ad mu : α → α → α) (ze on : α) : Prop := (∀ a b, ad a b = ad b a) ∧ (∀ a b c, ad (ad a b) c = ad a (ad b c)) ∧ (∀ a, ad ze a = a) ∧ (∀ a b, mu a b = mu b a) ∧ (∀ a b c, mu (mu a b) c = mu a (mu b c)) ∧ (∀ a, mu on a = a) ∧ (∀ a b c, mu a (ad b c) = ad (mu a b) (mu a c)) ∧ ∀ a, mu ze a = ze
def fup (a : Nat → Nat) (v x : Nat) : Nat → Nat := fun j => if j = v then x else a j
theorem fup_comm {a : Nat → Nat} {v u x y : Nat} (h : v ≠ u) : fup (fup a v x) u y = fup (fup a u y) v x := by
  funext j
  unfold fup
  by_cases h1 : j = u
  · subst h1; rw [if_pos rfl, if_neg (fun z => h z.symm), if_pos rfl]
  · rw [if_neg h1]; split <;> simp [*]
theorem fup_same {a : Nat → Nat} {v x y : Nat} : fup (fup a v x) v y = fup a v y := by
  funext j
  unfold fup
  by_cases h : j = v <;> simp [h]
section SUMS
variable {α : Type} {ad mu : α → α → α} {ze on : α}
def sg (ad : α → α → α) (ze : α) (f : Nat → α) : Nat → α
  | 0 => ze
  | n + 1 => ad (sg ad ze f n) (f n)
def pg (mu : α → α → α) (on : α) (f : Nat → α) : Nat → α
  | 0 => on
  | n + 1 => mu (pg mu on f n) (f n)
theorem sg_congr {f g : Nat → α} {n : Nat} (h : ∀ i, i < n → f i = g i) : sg ad ze f n = sg ad ze g n := by
  induction n with
  | zero => rfl
  | succ n ih => show ad _ _ = ad _ _; rw [ih (fun i hi => h i (by omega)), h n (by omega)]
theorem pg_congr {f g : Nat → α} {n : Nat} (h : ∀ i, i < n → f i = g i) : pg mu on f n = pg mu on g n := by
  induction n with
  | zero => rfl
  | succ n ih => show mu _ _ = mu _ _; rw [ih (fun i hi => h i (by omega)), h n (by omega)]
theorem sg_add (R : SR ad mu ze on) (f g : Nat → α) (n : Nat) : sg ad ze (fun i => ad (f i) (g i)) n = ad (sg ad ze f n) (sg ad ze g n) := by
  obtain ⟨h1, h2, h3, -⟩ := R
  induction n with
  | zero => show ze = ad ze ze; rw [h3]
  | succ n ih =>
    show ad (sg ad ze _ n) (ad (f n) (g n)) = ad (ad (sg ad ze f n) (f n)) (ad (sg ad ze g n) (g n))
    rw [ih, h2, h2, ← h2 (sg ad ze g n), h1 (sg ad ze g n) (f n), h2]
theorem sg_zero (R : SR ad mu ze on) (n : Nat) : sg ad ze (fun _ => ze) n = ze := by
  induction n with
  | zero => rfl
  | succ n ih => show ad _ ze = ze; rw [ih, R.2.2.1]
theorem sg_mul (R : SR ad mu ze on) (c : α) (f : Nat → α) (n : Nat) : mu c (sg ad ze f n) = sg ad ze (fun i => mu c (f i)) n := by
  obtain ⟨h1, h2, h3, h4, h5, h6, h7, h8⟩ := R
  induction n with
  | zero => show mu c ze = ze; rw [h4, h8]
  | succ n ih => show mu c (ad _ _) = ad _ _; rw [h7, ih]
theorem sg_swap (R : SR ad mu ze on) (f : Nat → Nat → α) (n k : Nat) : sg ad ze (fun i => sg ad ze (fun j => f i j) k) n = sg ad ze (fun j => sg ad ze (fun i => f i j) n) k := by
  induction n with
  | zero => show ze = _; exact (sg_zero R k).symm
  | succ n ih =>
    show ad _ _ = _
    rw [ih]
    exact (sg_add R _ _ k).symm
theorem pg_split (R : SR ad mu ze on) {f : Nat → α} {n v : Nat} (hv : v < n) : pg mu on f n = mu (f v) (pg mu on (fun i => if i = v then on else f i) n) := by
  obtain ⟨h1, h2, h3, h4, h5, h6, h7, h8⟩ := R
  induction n with
  | zero => omega
  | succ n ih =>
    show mu (pg mu on f n) (f n) = mu (f v) (mu (pg mu on _ n) _)
    by_cases h : v = n
    · subst h
      dsimp only
      rw [if_pos rfl, h4 _ on, h6, h4]
      congr 1
      exact pg_congr (fun i hi => by rw [if_neg (by omega)])
    · dsimp only
      rw [ih (by omega), if_neg (show ¬ n = v from fun z => h z.symm), h5]
/-- the sum over the variables of a mask, below n -/
def evn (ad : α → α → α) (ze : α) (m : Nat → Bool) (φ : (Nat → Nat) → α) : Nat → (Nat → Nat) → α
  | 0, a => φ a
  | n + 1, a => if m n = true then sg ad ze (fun x => evn ad ze m φ n (fup a n x)) 300 else evn ad ze m φ n a
theorem evn_congr {m m' : Nat → Bool} {φ ψ : (Nat → Nat) → α} (n : Nat) (hm : ∀ i, i < n → m i = m' i) (h : ∀ a, φ a = ψ a) : ∀ a, evn ad ze m φ n a = evn ad ze m' ψ n a := by
  induction n with
  | zero => exact h
  | succ n ih =>
    intro a
    have := ih (fun i hi => hm i (by omega))
    unfold evn
    rw [← hm n (by omega)]
    split
    · exact sg_congr (fun x _ => this _)
    · exact this a
theorem evn_in (R : SR ad mu ze on) {m : Nat → Bool} {φ : (Nat → Nat) → α} {v : Nat} (n : Nat) (hv : n ≤ v ∨ m v = false) : ∀ a, sg ad ze (fun x => evn ad ze m φ n (fup a v x)) 300 = evn ad ze m (fun a => sg ad ze (fun x => φ (fup a v x)) 300) n a := by
  induction n with
  | zero => exact fun a => rfl
  | succ n ih =>
    intro a
    have ih := ih (hv.imp (fun h => by omega) id)
    unfold evn
    by_cases hm : m n = true
    · simp only [hm, if_true]
      rw [sg_swap R]
      apply sg_congr
      intro x _
      rw [← ih]
      apply sg_congr
      intro y _
      have hne : v ≠ n := by
        rintro rfl
        rcases hv with h | h
        · omega
        · rw [h] at hm; cases hm
      rw [fup_comm hne]
    · simp only [hm, if_false]
      exact ih a
theorem evn_rm (R : SR ad mu ze on) {m m' : Nat → Bool} {φ : (Nat → Nat) → α} {v : Nat} (n : Nat) (hv : v < n) (hm : m v = true) (hm' : ∀ i, m' i = if i = v then false else m i) : ∀ a, evn ad ze m φ n a = evn ad ze m' (fun a => sg ad ze (fun x => φ (fup a v x)) 300) n a := by
  induction n with
  | zero => omega
  | succ n ih =>
    intro a
    by_cases h : v = n
    · subst h
      have e1 : evn ad ze m φ (v + 1) a = sg ad ze (fun x => evn ad ze m φ v (fup a v x)) 300 := by
        show (if _ then _ else _) = _; rw [if_pos hm]
      have e2 : ∀ ψ, evn ad ze m' ψ (v + 1) a = evn ad ze m' ψ v a := fun ψ => by
        show (if _ then _ else _) = _; rw [if_neg (by rw [hm' v, if_pos rfl]; decide)]
      rw [e1, e2, evn_in R v (Or.inl (Nat.le_refl _))]
      exact evn_congr v (fun i hi => by rw [hm' i, if_neg (by omega)]) (fun _ => rfl) a
    · have ih := ih (by omega)
      have e : m' n = m n := by rw [hm' n, if_neg (fun z => h z.symm)]
      unfold evn
      rw [e]
      split
      · exact sg_congr (fun x _ => ih _)
      · exact ih a
/-- unary weights of active THINGS, and active JOININGS: t to pr t -/
def Phi (mu : α → α → α) (ze on : α) (n : Nat) (pr : Nat → Nat) (rl : Nat → Nat → Nat → Bool) (ac ed : Nat → Bool) (wt : Nat → Nat → α) (a : Nat → Nat) : α := mu (pg mu on (fun t => if ac t = true then wt t (a t) else on) n) (pg mu on (fun t => if ed t = true then (if rl t (a t) (a (pr t)) = true then on else ze) else on) n)
theorem Phi_off {n : Nat} {pr : Nat → Nat} {rl : Nat → Nat → Nat → Bool} {ac ed : Nat → Bool} {wt : Nat → Nat → α} {v : Nat} (h1 : ac v = false) (h2 : ∀ t, t < n → ed t = true → t ≠ v ∧ pr t ≠ v) (a : Nat → Nat) (x : Nat) : Phi mu ze on n pr rl ac ed wt (fup a v x) = Phi mu ze on n pr rl ac ed wt a := by
  unfold Phi
  congr 1
  · apply pg_congr
    intro t _
    by_cases h : t = v
    · subst h; rw [h1]; rfl
    · simp [fup, h]
  · apply pg_congr
    intro t ht
    by_cases h : ed t = true
    · obtain ⟨g1, g2⟩ := h2 t ht h
      simp [h, fup, g1, g2]
    · simp [h]
def unm (m : Nat → Bool) (v : Nat) : Nat → Bool := fun i => if i = v then false else m i
theorem unm_v (m : Nat → Bool) (v : Nat) : unm m v v = false := if_pos rfl
theorem unm_ne {m : Nat → Bool} {v i : Nat} (h : i ≠ v) : unm m v i = m i := if_neg h
def wup (wt : Nat → Nat → α) (u : Nat) (g : Nat → α) : Nat → Nat → α := fun t => if t = u then g else wt t
theorem Phi_ac (R : SR ad mu ze on) {n : Nat} {pr : Nat → Nat} {rl : Nat → Nat → Nat → Bool} {ac ed : Nat → Bool} {wt : Nat → Nat → α} {v : Nat} (hv : v < n) (h : ac v = true) (a : Nat → Nat) : Phi mu ze on n pr rl ac ed wt a = mu (wt v (a v)) (Phi mu ze on n pr rl (unm ac v) ed wt a) := by
  unfold Phi
  rw [pg_split R hv, if_pos h, R.2.2.2.2.1]
  congr 2
  apply pg_congr
  intro t _
  by_cases q : t = v
  · subst q; rw [if_pos rfl, unm_v]; rfl
  · rw [if_neg q, unm_ne q]
theorem Phi_ed (R : SR ad mu ze on) {n : Nat} {pr : Nat → Nat} {rl : Nat → Nat → Nat → Bool} {ac ed : Nat → Bool} {wt : Nat → Nat → α} {e : Nat} (he : e < n) (h : ed e = true) (a : Nat → Nat) : Phi mu ze on n pr rl ac ed wt a = mu (if rl e (a e) (a (pr e)) = true then on else ze) (Phi mu ze on n pr rl ac (unm ed e) wt a) := by
  obtain ⟨h1, h2, h3, h4, h5, h6, h7, h8⟩ := id R
  unfold Phi
  rw [pg_split R (f := fun t => if ed t = true then (if rl t (a t) (a (pr t)) = true then on else ze) else on) he, if_pos h, ← h5, h4 (pg mu on (fun t => if ac t = true then wt t (a t) else on) n), h5]
  congr 2
  apply pg_congr
  intro t _
  by_cases q : t = e
  · subst q; rw [if_pos rfl, unm_v]; rfl
  · rw [if_neg q, unm_ne q]
theorem Phi_wt (R : SR ad mu ze on) {n : Nat} {pr : Nat → Nat} {rl : Nat → Nat → Nat → Bool} {ac ed : Nat → Bool} {wt : Nat → Nat → α} {u : Nat} (hu : u < n) (h : ac u = true) (g : Nat → α) (a : Nat → Nat) : Phi mu ze on n pr rl ac ed (wup wt u (fun y => mu (wt u y) (g y))) a = mu (g (a u)) (Phi mu ze on n pr rl ac ed wt a) := by
  obtain ⟨h1, h2, h3, h4, h5, h6, h7, h8⟩ := id R
  rw [Phi_ac R hu h, Phi_ac R (wt := wt) hu h]
  have e : Phi mu ze on n pr rl (unm ac u) ed (wup wt u (fun y => mu (wt u y) (g y))) a = Phi mu ze on n pr rl (unm ac u) ed wt a := by
    unfold Phi
    congr 1
    apply pg_congr
    intro t _
    by_cases q : t = u
    · subst q; rw [unm_v]; rfl
    · unfold wup; rw [if_neg q]
  rw [e]
  unfold wup
  rw [if_pos rfl, h4 (wt u (a u)), h5]
/-- v goes over its one JOINING e to u -/
theorem elim1 (R : SR ad mu ze on) {n : Nat} {pr : Nat → Nat} {rl : Nat → Nat → Nat → Bool} {ac ed m : Nat → Bool} {wt : Nat → Nat → α} {v u e : Nat} (hv : v < n) (hu : u < n) (he : e < n) (huv : u ≠ v) (h1 : ac v = true) (h2 : ac u = true) (h3 : ed e = true) (hm : m v = true) (hends : (e = v ∧ pr e = u) ∨ (e = u ∧ pr e = v)) (hoth : ∀ t, t < n → ed t = true → t ≠ e → t ≠ v ∧ pr t ≠ v) (a : Nat → Nat) :
    evn ad ze m (Phi mu ze on n pr rl ac ed wt) n a = evn ad ze (unm m v) (Phi mu ze on n pr rl (unm ac v) (unm ed e) (wup wt u (fun y => mu (wt u y) (sg ad ze (fun x => mu (wt v x) (if (if e = v then rl e x y else rl e y x) = true then on else ze)) 300)))) n a := by
  obtain ⟨g1, g2, g3, g4, g5, g6, g7, g8⟩ := id R
  rw [evn_rm R n hv hm (m' := unm m v) (fun i => rfl)]
  apply evn_congr n (fun _ _ => rfl)
  intro a
  rw [Phi_wt R hu (by rw [unm_ne huv]; exact h2) (fun y => sg ad ze (fun x => mu (wt v x) (if (if e = v then rl e x y else rl e y x) = true then on else ze)) 300), g4, sg_mul R]
  apply sg_congr
  intro x _
  rw [Phi_ed R he h3, Phi_ac R hv h1, Phi_off (v := v) (unm_v ac v) (fun t ht hed => by
    by_cases q : t = e
    · subst q; rw [unm_v] at hed; cases hed
    · rw [unm_ne q] at hed; exact hoth t ht hed q)]
  rw [← g5, g4]
  congr 1
  rw [g4]
  congr 1
  · unfold fup; rw [if_pos rfl]
  · rcases hends with ⟨q1, q2⟩ | ⟨q1, q2⟩
    · subst q1
      rw [if_pos rfl, q2]
      unfold fup
      rw [if_pos rfl, if_neg huv]
    · subst q1
      rw [if_neg huv, q2]
      unfold fup
      rw [if_pos rfl, if_neg huv]
/-- v, that no active JOINING touches, goes to u -/
theorem elim0 (R : SR ad mu ze on) {n : Nat} {pr : Nat → Nat} {rl : Nat → Nat → Nat → Bool} {ac ed m : Nat → Bool} {wt : Nat → Nat → α} {v u : Nat} (hv : v < n) (hu : u < n) (huv : u ≠ v) (h1 : ac v = true) (h2 : ac u = true) (hm : m v = true) (hoth : ∀ t, t < n → ed t = true → t ≠ v ∧ pr t ≠ v) (a : Nat → Nat) :
    evn ad ze m (Phi mu ze on n pr rl ac ed wt) n a = evn ad ze (unm m v) (Phi mu ze on n pr rl (unm ac v) ed (wup wt u (fun y => mu (wt u y) (sg ad ze (wt v) 300)))) n a := by
  obtain ⟨g1, g2, g3, g4, g5, g6, g7, g8⟩ := id R
  rw [evn_rm R n hv hm (m' := unm m v) (fun i => rfl)]
  apply evn_congr n (fun _ _ => rfl)
  intro a
  rw [Phi_wt R hu (by rw [unm_ne huv]; exact h2) (fun _ => sg ad ze (wt v) 300), g4, sg_mul R]
  apply sg_congr
  intro x _
  rw [Phi_ac R hv h1, Phi_off (v := v) (unm_v ac v) hoth, g4]
  congr 1
  unfold fup
  rw [if_pos rfl]
/-- v, that no active JOINING touches, summed alone -/
theorem elimS (R : SR ad mu ze on) {n : Nat} {pr : Nat → Nat} {rl : Nat → Nat → Nat → Bool} {ac ed m : Nat → Bool} {wt : Nat → Nat → α} {v : Nat} (hv : v < n) (h1 : ac v = true) (hm : m v = true) (hoth : ∀ t, t < n → ed t = true → t ≠ v ∧ pr t ≠ v) (a : Nat → Nat) :
    evn ad ze m (Phi mu ze on n pr rl ac ed wt) n a = mu (sg ad ze (wt v) 300) (evn ad ze (unm m v) (Phi mu ze on n pr rl (unm ac v) ed wt) n a) := by
  obtain ⟨g1, g2, g3, g4, g5, g6, g7, g8⟩ := id R
  have pull : ∀ (c : α) (m : Nat → Bool) (φ : (Nat → Nat) → α) (n : Nat) (a : Nat → Nat), mu c (evn ad ze m φ n a) = evn ad ze m (fun a => mu c (φ a)) n a := by
    intro c m φ n
    induction n with
    | zero => exact fun a => rfl
    | succ n ih =>
      intro a
      unfold evn
      split
      · rw [sg_mul R]; exact sg_congr (fun x _ => ih _)
      · exact ih a
  rw [evn_rm R n hv hm (m' := unm m v) (fun i => rfl), pull]
  apply evn_congr n (fun _ _ => rfl)
  intro a
  rw [g4, sg_mul R]
  apply sg_congr
  intro x _
  rw [Phi_ac R hv h1, Phi_off (v := v) (unm_v ac v) hoth, g4]
  congr 1
  unfold fup
  rw [if_pos rfl]
end SUMS
