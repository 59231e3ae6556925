section EVN
variable {α : Type} {ad mu : α → α → α} {ze on : α}
theorem evn_none {m : Nat → Bool} {φ : (Nat → Nat) → α} (n : Nat) (h : ∀ i, i < n → m i = false) : ∀ a, evn ad ze m φ n a = φ a := by
  induction n with
  | zero => exact fun a => rfl
  | succ n ih =>
    intro a
    unfold evn
    rw [if_neg (by rw [h n (by omega)]; decide)]
    exact ih (fun i hi => h i (by omega)) a
theorem pg_one (R : SR ad mu ze on) (n : Nat) : pg mu on (fun _ => on) n = on := by
  induction n with
  | zero => rfl
  | succ n ih => show mu _ on = on; rw [ih, R.2.2.2.2.2.1]
theorem Phi_congr {n : Nat} {pr : Nat → Nat} {rl : Nat → Nat → Nat → Bool} {ac ed ac' ed' : Nat → Bool} {wt wt' : Nat → Nat → α} (h1 : ∀ t, t < n → ac t = ac' t) (h2 : ∀ t, t < n → ed t = ed' t) (h3 : ∀ t b, t < n → ac t = true → wt t b = wt' t b) (a : Nat → Nat) : Phi mu ze on n pr rl ac ed wt a = Phi mu ze on n pr rl ac' ed' wt' a := by
  unfold Phi
  congr 1
  · apply pg_congr
    intro t ht
    rw [← h1 t ht]
    by_cases c : ac t = true
    · rw [if_pos c, if_pos c, h3 t _ ht c]
    · rw [if_neg c, if_neg c]
  · apply pg_congr
    intro t ht
    rw [← h2 t ht]
theorem Phi_none (R : SR ad mu ze on) {n : Nat} {pr : Nat → Nat} {rl : Nat → Nat → Nat → Bool} {ac ed : Nat → Bool} {wt : Nat → Nat → α} (h1 : ∀ t, t < n → ac t = false) (h2 : ∀ t, t < n → ed t = false) (a : Nat → Nat) : Phi mu ze on n pr rl ac ed wt a = on := by
  unfold Phi
  rw [pg_congr (g := fun _ => on) (fun t ht => by rw [h1 t ht]; rfl), pg_congr (f := fun t => if ed t = true then (if rl t (a t) (a (pr t)) = true then on else ze) else on) (g := fun _ => on) (fun t ht => by rw [h2 t ht]; rfl), pg_one R, R.2.2.2.2.2.1]
end EVN
def ltm (r : Nat) : Nat → Bool := fun i => decide (i < r)
def edm (w : bw) (r : Nat) : Nat → Bool := fun t => decide (t < r) && ed0 w t
def gm (g : Nat → Nat → Bool) (mw : Nat → Nat → Nat) : Nat → Nat → Nat := fun s b => if g s b = true then mw s b else 0
theorem unm_lt (r i : Nat) : unm (ltm (r + 1)) r i = ltm r i := by
  unfold unm ltm
  by_cases h : i = r
  · subst h; simp
  · rw [if_neg h]; simp; omega
theorem par_neg : ¬ (0 : Int32) ≤ nI 0 - 1 := by decide
theorem par_pos {x : Nat} (h : x ≠ 0) (hx : x < 1000) : nI x - 1 = nI (x - 1) ∧ (0 : Int32) ≤ nI x - 1 := by
  obtain ⟨y, rfl⟩ : ∃ y, x = y + 1 := ⟨x - 1, by omega⟩
  rw [nI_pred]
  exact ⟨rfl, nI_pos' (by omega)⟩
/-- the invariant of the reference's sum: r THINGS are left -/
def wInv (w : bw) (g : Nat → Nat → Bool) (r A : Nat) (mw : Nat → Nat → Nat) : Prop := Ways w g = A * eN (ltm r) (PhN w (ltm r) (edm w r) (gm g mw)) (w 0 0) (fun _ => 0)
theorem wInv_root {w : bw} (hf : wF w) {g : Nat → Nat → Bool} {r A : Nat} {mw : Nat → Nat → Nat} (hr : r + 1 ≤ w 0 0) (h : wInv w g (r + 1) A mw) (hj : w 4 r = 0) : wInv w g r (A * sN (gm g mw r) 300) mw := by
  unfold wInv at h ⊢
  rw [h, Nat.mul_assoc]
  congr 1
  unfold eN PhN
  rw [elimS SRN (v := r) (by omega) (by unfold ltm; simp) (by unfold ltm; simp) (fun t ht hed => by
    have h4 := (hf.2.2.2.1 t ht).2.2.2.1
    unfold edm ed0 at hed
    unfold pr0
    simp only [Bool.and_eq_true, decide_eq_true_eq] at hed
    have : t ≠ r := by rintro rfl; exact hed.2 hj
    omega)]
  congr 1
  apply evn_congr _ (fun i _ => unm_lt r i)
  intro a
  apply Phi_congr (fun t _ => unm_lt r t)
  · intro t ht
    unfold edm
    by_cases z : t = r
    · subst z; simp [ed0, hj]
    · congr 1; simp; omega
  · intros; rfl
theorem wInv_joined {w : bw} (hf : wF w) {g : Nat → Nat → Bool} {r A : Nat} {mw : Nat → Nat → Nat} (hr : r + 1 ≤ w 0 0) (h : wInv w g (r + 1) A mw) (hj : w 4 r ≠ 0) : wInv w g r A (fun s y => if s = w 4 r - 1 then mw s y * sN (fun x => gm g mw r x * (if rlw w r x y = true then 1 else 0)) 300 else mw s y) := by
  have h4 := (hf.2.2.2.1 r (by omega)).2.2.2.1
  unfold wInv at h ⊢
  rw [h]
  congr 1
  unfold eN PhN
  rw [elim1 SRN (v := r) (u := w 4 r - 1) (e := r) (by omega) (by omega) (by omega) (by omega) (by unfold ltm; simp) (by unfold ltm; simp; omega) (by unfold edm ed0; simp [hj]) (by unfold ltm; simp) (Or.inl ⟨rfl, rfl⟩) (fun t ht hed hne => by
    have h4 := (hf.2.2.2.1 t ht).2.2.2.1
    unfold edm ed0 at hed
    unfold pr0
    simp only [Bool.and_eq_true, decide_eq_true_eq] at hed
    omega)]
  apply evn_congr _ (fun i _ => unm_lt r i)
  intro a
  apply Phi_congr (fun t _ => unm_lt r t)
  · intro t ht
    unfold edm
    by_cases z : t = r
    · subst z; rw [unm_v]; simp
    · rw [unm_ne z]; congr 1; simp; omega
  · intro t b ht hac
    unfold wup gm
    simp only [if_true]
    by_cases z : t = w 4 r - 1
    · rw [if_pos z, if_pos z, ← z]
      split
      · rfl
      · exact Nat.zero_mul _
    · rw [if_neg z, if_neg z]
theorem pm_waysOf {M : bd_T} {w : bw} (hw : wM M w) (hf : wF w) (hl : lM M w) {fr tt : Nat → Nat} {lo : Nat} (hfr : frM M w fr tt lo) : ∃ M', f_X10_waysOf M = some (lN (Ways w (gd w fr tt lo)), M') ∧ kp M M' [] [] [0, 1] := by
  have h66 := hf.1.1
  have keep : ∀ {M' : bd_T}, kp M M' [] [] [0, 1] → wM M' w ∧ lM M' w ∧ frM M' w fr tt lo := fun {M'} hk =>
    ⟨wM_kp hk (by decide) (by decide) hw, ⟨by rw [hk.1 7 (by decide)]; exact hl.1, fun k b h1 h2 => by rw [hk.2.1 20 (by decide)]; exact hl.2 k b h1 h2⟩,
     ⟨fun t ht => by rw [hk.2.1 15 (by decide), hk.2.1 16 (by decide)]; exact hfr.1 t ht, by rw [hk.1 9 (by decide)]; exact hfr.2.1, hfr.2.2⟩⟩
  have e2 : ∀ {M' : bd_T}, kp M M' [] [] [0, 1] → bd_I M' 2 = nI (w 0 0) := fun hk => (keep hk).1.2.2.2.1
  unfold f_X10_waysOf
  obtain ⟨r, e, h⟩ := pz_loop (F := fun q => fb_X10_waysOf_2 q.1 q.2) (fun i s => s.1 = nI i ∧ kp M s.2 [] [] [0, 1] ∧ ∀ j, j < i → bd_J s.2 0 j = 1) (fun r => kp M r [] [] [0, 1] ∧ ∀ j, j < 300 * w 0 0 → bd_J r 0 j = 1) (300 * w 0 0) (fun i s hi hs => by
      obtain ⟨q1, q2, q3⟩ := hs
      obtain ⟨s1, s2⟩ := s
      dsimp only at q1 q2 q3 ⊢
      subst q1
      left
      unfold fb_X10_waysOf_2
      rw [e2 q2, show (300 : Int32) = nI 300 from rfl, pk_mul, if_neg (nI_ge hi (by omega)), pz_sj (show i < 1800 by omega) (by decide), pz_some]
      refine ⟨_, rfl, nI_1 i, q2.trans ((kp_pJ _ _ _ _).mono (by decide) (by decide) (by decide)), fun j hj => ?_⟩
      show vp_updL (bd_J s2 0) i _ j = _
      rw [pz_upL]
      by_cases z : j = i
      · rw [if_pos z]
      · rw [if_neg z]; exact q3 j (by omega)) (fun s hs => by
      obtain ⟨q1, q2, q3⟩ := hs
      obtain ⟨s1, s2⟩ := s
      dsimp only at q1 q2 q3 ⊢
      subst q1
      unfold fb_X10_waysOf_2
      rw [e2 q2, show (300 : Int32) = nI 300 from rfl, pk_mul, if_pos (Int32.le_refl _)]
      exact ⟨_, rfl, q2, q3⟩) (s0 := ((0 : Int32), M)) ⟨rfl, kp.rfl', fun j h => by omega⟩ bd_K (by rw [pz_K]; omega)
  rw [e, pz_some]
  dsimp only
  rw [pz_b1, e2 h.1]
  obtain ⟨r', e', h'⟩ := pz_loop (F := fun q => fb_X10_waysOf_36 q.1 q.2.1 q.2.2) (fun i s => s.2.1 = nI (w 0 0 - i) - 1 ∧ kp M s.2.2 [] [] [0, 1] ∧ ∃ (A : Nat) (mw : Nat → Nat → Nat), s.1 = lN A ∧ (∀ t b, t < w 0 0 - i → b < 300 → bd_J s.2.2 0 (300 * t + b) = lN (mw t b)) ∧ wInv w (gd w fr tt lo) (w 0 0 - i) A mw) (fun r => kp M r.2 [] [] [0, 1] ∧ r.1 = lN (Ways w (gd w fr tt lo))) (w 0 0) (fun i s hi hs => by
      obtain ⟨q1, q2, A, mw, q3, q4, q5⟩ := hs
      obtain ⟨s1, s2, s3⟩ := s
      dsimp only at q1 q2 q3 q4 q5 ⊢
      obtain ⟨v, hv⟩ : ∃ v, w 0 0 - i = v + 1 := ⟨w 0 0 - i - 1, by omega⟩
      have hv2 : w 0 0 - (i + 1) = v := by omega
      rw [hv] at q1 q4 q5
      rw [nI_pred] at q1
      subst q1; subst q3
      left
      have hvn : v < w 0 0 := by omega
      obtain ⟨k1, k2, k3⟩ := keep q2
      unfold fb_X10_waysOf_36
      rw [if_neg (nI_pos (by omega)), show bd_sj s3 1 301 0 0 = some (bd_pJ s3 1 0 0) from pz_sj (n := 0) (by decide) (by decide), pz_some]
      -- below
      obtain ⟨r, e, h⟩ := pz_loop (F := fun q => fb_X10_waysOf_50 (lN A) (nI v) q.1 q.2) (fun j s => s.1 = nI j ∧ kp s3 s.2 [] [] [1] ∧ ∀ x, x ≤ j → bd_J s.2 1 x = lN (sN (gm (gd w fr tt lo) mw v) x)) (fun r => kp s3 r [] [] [1] ∧ ∀ x, x ≤ 300 → bd_J r 1 x = lN (sN (gm (gd w fr tt lo) mw v) x)) 300 (fun j s hj hs => by
          obtain ⟨p1, p2, p3⟩ := hs
          obtain ⟨y1, y2⟩ := s
          dsimp only at p1 p2 p3 ⊢
          subst p1
          left
          obtain ⟨k1, k2, k3⟩ := keep (q2.trans (p2.mono (by decide) (by decide) (by decide)))
          unfold fb_X10_waysOf_50
          rw [if_neg (n300 hj), pz_gj (show j < 301 by omega) (by decide), pz_some, p3 j (Nat.le_refl _), pm_canOf k1 hf k2 k3 hvn hj, pz_b2]
          have hset : ∀ (z : Int64), z = lN (gm (gd w fr tt lo) mw v j) → ∀ x, x ≤ j + 1 → bd_J (bd_pJ y2 1 (j + 1) (lN (sN (gm (gd w fr tt lo) mw v) j) + z)) 1 x = lN (sN (gm (gd w fr tt lo) mw v) x) := by
            intro z hz x hx
            show vp_updL (bd_J y2 1) (j + 1) _ x = _
            rw [pz_upL]
            by_cases c : x = j + 1
            · rw [if_pos c, c, hz, lN_add]; rfl
            · rw [if_neg c]; exact p3 x (by omega)
          by_cases c : gd w fr tt lo v j = true
          · rw [if_pos c, if_neg (by decide), show (300 : Int32) = nI 300 from rfl, pk_mul, nI_add, pz_gj (show 300 * v + j < 1800 by omega) (by decide), pz_some, nI_1, pz_sj (show j + 1 < 301 by omega) (by decide), pz_some]
            refine ⟨_, rfl, rfl, p2.trans (kp_pJ _ _ _ _), hset _ ?_⟩
            rw [p2.2.2 0 (by decide), q4 v j (by omega) hj]
            unfold gm
            rw [if_pos c]
          · rw [if_neg c, if_pos rfl, nI_1, pz_sj (show j + 1 < 301 by omega) (by decide), pz_some]
            refine ⟨_, rfl, rfl, p2.trans (kp_pJ _ _ _ _), hset _ ?_⟩
            unfold gm
            rw [if_neg c]; rfl) (fun s hs => by
          obtain ⟨p1, p2, p3⟩ := hs
          obtain ⟨y1, y2⟩ := s
          dsimp only at p1 p2 p3 ⊢
          subst p1
          unfold fb_X10_waysOf_50
          rw [if_pos y300]
          exact ⟨_, rfl, p2, p3⟩) (s0 := ((0 : Int32), bd_pJ s3 1 0 0)) ⟨rfl, kp_pJ _ _ _ _, fun x hx => by
            have : x = 0 := by omega
            subst this; rfl⟩ bd_K (by rw [pz_K]; omega)
      rw [e, pz_some]
      dsimp only
      have hkr : kp M r [] [] [0, 1] := q2.trans (h.1.mono (by decide) (by decide) (by decide))
      obtain ⟨k1, k2, k3⟩ := keep hkr
      have e12 : bd_A r 12 v = nI (w 4 v) - 1 := (k1.2.2.2.2.2.2.1 v hvn).2.2.2.1
      have h4 := (hf.2.2.2.1 v hvn).2.2.2.1
      rw [pz_ga (show v < 6 by omega) (by decide), pz_some, e12]
      by_cases c : w 4 v = 0
      · rw [if_neg (by rw [c]; exact par_neg), show (300 : Int32) = nI 300 from rfl, pz_gj (show 300 < 301 by omega) (by decide), pz_some, pz_b1, h.2 300 (Nat.le_refl _), lN_mul]
        refine ⟨_, rfl, ?_, hkr, _, mw, rfl, ?_, ?_⟩
        · dsimp only
          rw [hv2, Int32.sub_eq_add_neg]
        · intro t b ht hb
          rw [h.1.2.2 0 (by decide)]
          exact q4 t b (by omega) hb
        · rw [hv2]
          exact wInv_root hf (by omega) q5 c
      · obtain ⟨c1, c2⟩ := par_pos c (show w 4 v < 1000 by omega)
        rw [if_pos c2]
        obtain ⟨r2, e2', h2'⟩ := pz_loop (F := fun q => fb_X10_waysOf_134 (lN A) (nI v) q.1 q.2) (fun j s => s.1 = nI j ∧ kp r s.2 [] [] [0] ∧ ∀ t b, t < v → b < 300 → bd_J s.2 0 (300 * t + b) = lN (if t = w 4 v - 1 ∧ b < j then mw t b * sN (fun x => gm (gd w fr tt lo) mw v x * (if rlw w v x b = true then 1 else 0)) 300 else mw t b)) (fun r' => kp r r' [] [] [0] ∧ ∀ t b, t < v → b < 300 → bd_J r' 0 (300 * t + b) = lN (if t = w 4 v - 1 then mw t b * sN (fun x => gm (gd w fr tt lo) mw v x * (if rlw w v x b = true then 1 else 0)) 300 else mw t b)) 300 (fun j s hj hs => by
            obtain ⟨p1, p2, p3⟩ := hs
            obtain ⟨y1, y2⟩ := s
            dsimp only at p1 p2 p3 ⊢
            subst p1
            left
            have hky : kp M y2 [] [] [0, 1] := hkr.trans (p2.mono (by decide) (by decide) (by decide))
            obtain ⟨k1, k2, k3⟩ := keep hky
            have e12 : bd_A y2 12 v = nI (w 4 v) - 1 := (k1.2.2.2.2.2.2.1 v hvn).2.2.2.1
            unfold fb_X10_waysOf_134
            rw [if_neg (n300 hj), pz_ga (show v < 6 by omega) (by decide), pz_some, e12, c1, show (300 : Int32) = nI 300 from rfl, pk_mul, nI_add, pz_gj (show 300 * (w 4 v - 1) + j < 1800 by omega) (by decide), pz_some, pm_joined k1 hf (f := gm (gd w fr tt lo) mw v) (fun x hx => by rw [p2.2.2 1 (by decide)]; exact h.2 x hx) hvn c hj, pz_b2, p3 (w 4 v - 1) j (by omega) hj, if_neg (by omega), lN_mul, pz_sj (show 300 * (w 4 v - 1) + j < 1800 by omega) (by decide), pz_some]
            refine ⟨_, rfl, nI_1 j, p2.trans (kp_pJ _ _ _ _), fun t b ht hb => ?_⟩
            show vp_updL (bd_J y2 0) (300 * (w 4 v - 1) + j) _ (300 * t + b) = _
            rw [pz_upL]
            by_cases z : t = w 4 v - 1 ∧ b = j
            · obtain ⟨z1, z2⟩ := z
              subst z2
              rw [if_pos (by omega), if_pos ⟨z1, by omega⟩, z1]
            · rw [if_neg (by omega), p3 t b ht hb]
              by_cases y : t = w 4 v - 1 ∧ b < j
              · rw [if_pos y, if_pos ⟨y.1, by omega⟩]
              · rw [if_neg y, if_neg (by omega)]) (fun s hs => by
            obtain ⟨p1, p2, p3⟩ := hs
            obtain ⟨y1, y2⟩ := s
            dsimp only at p1 p2 p3 ⊢
            subst p1
            unfold fb_X10_waysOf_134
            rw [if_pos y300]
            refine ⟨_, rfl, p2, fun t b ht hb => ?_⟩
            rw [p3 t b ht hb]
            by_cases y : t = w 4 v - 1
            · rw [if_pos ⟨y, hb⟩, if_pos y]
            · rw [if_neg (fun h => y h.1), if_neg y]) (s0 := ((0 : Int32), r)) ⟨rfl, kp.rfl', fun t b ht hb => by
              rw [if_neg (by omega), h.1.2.2 0 (by decide)]; exact q4 t b (by omega) hb⟩ bd_K (by rw [pz_K]; omega)
        rw [e2', pz_some]
        refine ⟨_, rfl, ?_, hkr.trans (h2'.1.mono (by decide) (by decide) (by decide)), A, (fun t b => if t = w 4 v - 1 then mw t b * sN (fun x => gm (gd w fr tt lo) mw v x * (if rlw w v x b = true then 1 else 0)) 300 else mw t b), rfl, ?_, ?_⟩
        · dsimp only
          rw [hv2, Int32.sub_eq_add_neg]
        · intro t b ht hb
          exact h2'.2 t b (by omega) hb
        · rw [hv2]
          exact wInv_joined hf (by omega) q5 c) (fun s hs => by
      obtain ⟨q1, q2, A, mw, q3, q4, q5⟩ := hs
      obtain ⟨s1, s2, s3⟩ := s
      dsimp only at q1 q2 q3 q4 q5 ⊢
      rw [Nat.sub_self] at q1 q5
      subst q1; subst q3
      unfold fb_X10_waysOf_36
      rw [if_pos (by decide)]
      refine ⟨_, rfl, q2, ?_⟩
      dsimp only
      rw [q5]
      unfold eN PhN
      rw [evn_none _ (fun i _ => by unfold ltm; simp), Phi_none SRN (fun t _ => by unfold ltm; simp) (fun t _ => by unfold edm; simp), Nat.mul_one]) (s0 := ((1 : Int64), nI (w 0 0) - 1, r)) ⟨rfl, h.1, 1, fun _ _ => 1, rfl, fun t b ht hb => h.2 _ (by omega), by
        unfold wInv Ways eN
        rw [Nat.one_mul, Nat.sub_zero]
        apply evn_congr _ (fun i hi => by unfold ltm; simp [hi])
        intro a
        unfold PhN
        apply Phi_congr
        · intro t ht; unfold ltm; simp [ht]
        · intro t ht; unfold edm; simp [ht]
        · intros; rfl⟩ bd_K (by rw [pz_K]; omega)
  rw [e', pz_some]
  obtain ⟨r1, r2⟩ := r'
  dsimp only at h' ⊢
  rw [h'.2]
  exact ⟨r2, rfl, h'.1⟩
