theorem prefp_L {S S' : bd_T} (h : kp S S' [16] [10] []) (hp : preL S) : preL S' := trivial
/-- all WAYS with the THING goal at b -/
def ZwL (w : bw) (wt : Nat → Nat → Option Nat) (g b : Nat) : Option Nat := evn adL none (unm (fun _ => true) g) (Phi muL none (some 0) (w 0 0) (pr0 w) (rlw w) (fun _ => true) (ed0 w) wt) (w 0 0) (fup (fun _ => 0) g b)
def gIL (w : bw) (wt0 : Nat → Nat → Option Nat) (g : Nat) (ac ed : Nat → Bool) (wt : Nat → Nat → Option Nat) : Prop := ∀ b, ZwL w wt0 g b = evn adL none (unm ac g) (Phi muL none (some 0) (w 0 0) (pr0 w) (rlw w) ac ed wt) (w 0 0) (fup (fun _ => 0) g b)
theorem gI_congr_L {w : bw} {wt0 wt : Nat → Nat → Option Nat} {g : Nat} {ac ed ac' ed' : Nat → Bool} (h : gIL w wt0 g ac ed wt) (h1 : ∀ i, i < w 0 0 → ac i = ac' i) (h2 : ∀ i, i < w 0 0 → ed i = ed' i) : gIL w wt0 g ac' ed' wt := by
  intro b
  rw [h b]
  refine evn_congr _ (fun i hi => ?_) (fun a => Phi_congr h1 h2 (fun _ _ _ _ => rfl) a) _
  unfold unm
  rw [h1 i hi]
theorem gI_1_L {w : bw} {wt0 wt : Nat → Nat → Option Nat} {g : Nat} {ac ed : Nat → Bool} (h : gIL w wt0 g ac ed wt) {v u e : Nat} (hv : v < w 0 0) (hu : u < w 0 0) (he : e < w 0 0) (huv : u ≠ v) (hvg : v ≠ g) (h1 : ac v = true) (h2 : ac u = true) (h3 : ed e = true) (hends : (e = v ∧ pr0 w e = u) ∨ (e = u ∧ pr0 w e = v)) (hoth : ∀ t, t < w 0 0 → ed t = true → t ≠ e → t ≠ v ∧ pr0 w t ≠ v) : gIL w wt0 g (unm ac v) (unm ed e) (wup wt u (fun y => muL (wt u y) (sg adL none (fun x => muL (wt v x) (if (if e = v then rlw w e x y else rlw w e y x) = true then (some 0) else none)) 300))) := by
  intro b
  rw [h b, elim1 SRT hv hu he huv h1 h2 h3 (by rw [unm_ne hvg]; exact h1) hends hoth]
  exact evn_congr _ (fun i _ => unm_comm _ _ _ _) (fun _ => rfl) _
theorem gI_0_L {w : bw} {wt0 wt : Nat → Nat → Option Nat} {g : Nat} {ac ed : Nat → Bool} (h : gIL w wt0 g ac ed wt) {v u : Nat} (hv : v < w 0 0) (hu : u < w 0 0) (huv : u ≠ v) (hvg : v ≠ g) (h1 : ac v = true) (h2 : ac u = true) (hoth : ∀ t, t < w 0 0 → ed t = true → t ≠ v ∧ pr0 w t ≠ v) : gIL w wt0 g (unm ac v) ed (wup wt u (fun y => muL (wt u y) (sg adL none (wt v) 300))) := by
  intro b
  rw [h b, elim0 SRT hv hu huv h1 h2 (by rw [unm_ne hvg]; exact h1) hoth]
  exact evn_congr _ (fun i _ => unm_comm _ _ _ _) (fun _ => rfl) _
theorem px_gather_L {S : bd_T} {w : bw} (hw : wX S w) (hf : wF w) {wt : Nat → Nat → Option Nat} {g : Nat} (hg : g < w 0 0) (hp : preL S) (hr : rwL S w wt) : ∃ S', f_X2_gather_b1 (nI g) S = some ((), S') ∧ (∀ b, b < 300 → bd_J S' 0 (300 * g + b) = vL (ZwL w wt g b)) ∧ preL S' ∧ kp S S' [16] [10] [0, 2] := by
  have h66 := hf.1.1
  have h4 : ∀ t, t < w 0 0 → w 4 t ≤ t := fun t ht => (hf.2.2.2.1 t ht).2.2.2.1
  have hpr : ∀ t, t < w 0 0 → ed0 w t = true → pr0 w t < t := fun t ht he => by
    have := h4 t ht
    unfold ed0 at he; unfold pr0
    simp only [decide_eq_true_eq] at he
    omega
  obtain ⟨S1, len, e1, hP, h16, h10, k1⟩ := px_findPath hw hf hg
  have p1 : preL S1 := prefp_L k1 hp
  have r1 : rwL S1 w wt := fun t b ht hb => by rw [k1.2.2 0 (by decide)]; exact hr t b ht hb
  have hw1 : wX S1 w := wX_kp k1 (by decide) (by decide) hw
  obtain ⟨P1, P2, P3, P4, P5, P6⟩ := id hP
  have pn : ∀ j, j < len → pth w g j < w 0 0 := fun j hj => by have := P5 j hj; omega
  have pinj : ∀ i j, i < len → j < len → pth w g i = pth w g j → i = j := fun i j hi hj h => by
    rcases Nat.lt_trichotomy i j with q | q | q
    · have := P6 i j q hj; omega
    · exact q
    · have := P6 j i q hi; omega
  -- facts that stay
  have st : ∀ {S' : bd_T}, kp S1 S' [] [] [0, 2] → wX S' w ∧ bd_I S' 16 = nI len ∧ (∀ j, j < len → bd_A S' 10 j = nI (pth w g j)) ∧ bd_I S' 17 = nI (w 0 0) := fun {S'} hk =>
    ⟨wX_kp hk (by decide) (by decide) hw1, by rw [hk.1 16 (by decide)]; exact h16, fun j hj => by rw [hk.2.1 10 (by decide)]; exact h10 j hj, by rw [hk.1 17 (by decide)]; exact hw1.2.2.2.1⟩
  unfold f_X2_gather_b1
  rw [e1, pz_b2, pz_b1, show bd_I S1 17 = nI (w 0 0) from hw1.2.2.2.1]
  have hn1 : nI (w 0 0) - 1 = nI (w 0 0 - 1) := by
    obtain ⟨y, hy⟩ : ∃ y, w 0 0 = y + 1 := ⟨w 0 0 - 1, by omega⟩
    rw [hy, nI_pred]; rfl
  rw [hn1]
  -- first: what is not on the way goes down
  obtain ⟨S2, e2, k2, p2, wt2, r2, g2⟩ := pz_loop (F := fun q => fb_X2_gather_b1_14 (nI g) q.1 q.2) (fun i s => s.1 = nI (w 0 0 - 1 - i) ∧ kp S1 s.2 [] [] [0, 2] ∧ preL s.2 ∧ ∃ wt', rwL s.2 w wt' ∧ gIL w wt g (ac1 w g len (w 0 0 - 1 - i)) (ed1 w g len (w 0 0 - 1 - i)) wt') (fun r => kp S1 r [] [] [0, 2] ∧ preL r ∧ ∃ wt', rwL r w wt' ∧ gIL w wt g (ac1 w g len 0) (ed1 w g len 0) wt') (w 0 0 - 1) (fun i s hi hs => by
      obtain ⟨q1, q2, q3, wt', q4, q5⟩ := hs
      obtain ⟨s1, s2⟩ := s
      dsimp only at q1 q2 q3 q4 q5 ⊢
      obtain ⟨t, ht⟩ : ∃ t, w 0 0 - 1 - i = t + 1 := ⟨w 0 0 - 1 - i - 1, by omega⟩
      have ht2 : w 0 0 - 1 - (i + 1) = t := by omega
      rw [ht] at q1 q5
      rw [ht2]
      subst q1
      left
      have htn : t + 1 < w 0 0 := by omega
      obtain ⟨w2, i16, a10, i17⟩ := st q2
      have e14 : bd_A s2 14 (t + 1) = nI (w 4 (t + 1)) - 1 := (w2.2.2.2.2.2.2.2.1 (t + 1) htn).2.2.2.1
      have ed : nI (t + 1) + -1 = nI t := by rw [← Int32.sub_eq_add_neg]; exact nI_pred t
      unfold fb_X2_gather_b1_14
      rw [if_neg (nI_nle (by omega) (by omega)), pz_at (k := 14) (show t + 1 < 6 by omega) (by decide), pz_b2, e14]
      have h4t := h4 (t + 1) htn
      by_cases c : w 4 (t + 1) = 0
      · rw [if_pos (by rw [c]; decide)]
        refine ⟨_, rfl, ed, q2, q3, wt', q4, gI_congr_L q5 (fun j _ => ?_) (fun j _ => ?_)⟩
        · unfold ac1
          by_cases z : j = t + 1
          · subst z; simp [c]
          · congr 1; simp; omega
        · unfold ed1
          by_cases z : j = t + 1
          · subst z; simp [ed0, c]
          · congr 2; simp; omega
      · obtain ⟨c1, c2⟩ := par_pos c (show w 4 (t + 1) < 1000 by omega)
        rw [if_neg (by rw [c1]; exact nI_pos (by omega)), px_onPath hP (by omega) (by omega) i16 a10, pz_b2]
        by_cases d : onp w g len (t + 1) = true
        · rw [if_pos d, if_neg (by decide)]
          refine ⟨_, rfl, ed, q2, q3, wt', q4, gI_congr_L q5 (fun j _ => ?_) (fun j _ => ?_)⟩
          · unfold ac1
            by_cases z : j = t + 1
            · subst z; simp [d]
            · congr 1; simp; omega
          · unfold ed1
            by_cases z : j = t + 1
            · subst z; simp [d]
            · congr 2; simp; omega
        · rw [if_neg d, if_pos rfl]
          obtain ⟨S', e', p', k', r'⟩ := bring1_L w2 hf htn c q3 q4
          rw [e', pz_b2]
          have hd : onp w g len (t + 1) = false := by simpa using d
          refine ⟨_, rfl, ed, q2.trans k', p', _, r', ?_⟩
          have := gI_1_L q5 (v := t + 1) (u := w 4 (t + 1) - 1) (e := t + 1) htn (by omega) htn (by omega) (fun z => d (onp_iff.mpr ⟨0, by omega, z.symm⟩)) (by unfold ac1; simp) (by unfold ac1; simp; omega) (by unfold ed1 ed0; simp [c]) (Or.inl ⟨rfl, rfl⟩) (fun j hj hed hne => ⟨hne, fun hpj => by
            unfold ed1 at hed
            simp only [Bool.and_eq_true, Bool.or_eq_true, decide_eq_true_eq] at hed
            have h5 := hpr j hj hed.1
            rcases hed.2 with h6 | h6
            · omega
            · obtain ⟨k, hk, hk2⟩ := onp_iff.mp h6
              have hk3 : k + 1 < len := by
                rcases Nat.lt_or_ge (k + 1) len with q | q
                · exact q
                · exfalso
                  have : k = len - 1 := by omega
                  subst this
                  have h7 := hed.1
                  unfold ed0 at h7
                  rw [← hk2] at h7
                  simp [P4] at h7
              exact d (onp_iff.mpr ⟨k + 1, hk3, by show w 4 (pth w g k) - 1 = _; rw [hk2]; exact hpj⟩)⟩)
          simp only [if_true] at this
          refine gI_congr_L this (fun j _ => ?_) (fun j _ => ?_)
          · unfold ac1
            by_cases z : j = t + 1
            · subst z; rw [unm_v]; simp [c, hd]
            · rw [unm_ne z]; congr 1; simp; omega
          · unfold ed1
            by_cases z : j = t + 1
            · subst z; rw [unm_v]; simp [hd]
            · rw [unm_ne z]; congr 2; simp; omega) (fun s hs => by
      obtain ⟨q1, q2, q3, wt', q4, q5⟩ := hs
      obtain ⟨s1, s2⟩ := s
      dsimp only at q1 q2 q3 q4 q5 ⊢
      rw [Nat.sub_self] at q1 q5
      subst q1
      unfold fb_X2_gather_b1_14
      rw [if_pos (by decide)]
      exact ⟨_, rfl, q2, q3, wt', q4, q5⟩) (s0 := (nI (w 0 0 - 1), S1)) ⟨rfl, kp.rfl', p1, wt, r1, fun b => by
        unfold ZwL
        refine evn_congr _ (fun i hi => ?_) (fun a => Phi_congr (fun t ht => ?_) (fun t ht => ?_) (fun _ _ _ _ => rfl) a) _
        · unfold unm ac1
          have : decide (i ≤ w 0 0 - 1 - 0) = true := by simp; omega
          rw [this]; rfl
        · unfold ac1
          have : decide (t ≤ w 0 0 - 1 - 0) = true := by simp; omega
          rw [this]; rfl
        · unfold ed1
          have : decide (t ≤ w 0 0 - 1 - 0) = true := by simp; omega
          rw [this]; simp⟩ bd_K (by rw [pz_K]; omega)
  rw [e2, pz_some]
  try dsimp only
  -- second: along the way to the goal
  have hl1 : nI len - 1 = nI (len - 1) := by
    obtain ⟨y, hy⟩ : ∃ y, len = y + 1 := ⟨len - 1, by omega⟩
    rw [hy, nI_pred]; rfl
  rw [pz_b1, (st k2).2.1, hl1]
  have g2' : gIL w wt g (ac2 w g len (len - 1)) (ed2 w g (len - 1)) wt2 := gI_congr_L g2 (fun i hi => by
      unfold ac1 ac2
      rw [show len - 1 + 1 = len by omega]
      by_cases z : w 4 i = 0
      · by_cases y : i = pth w g (len - 1)
        · have : onp w g len i = true := onp_iff.mpr ⟨len - 1, by omega, y.symm⟩
          simp [this]
        · simp [z, y]
      · have : ¬ i ≤ 0 := by rintro h; have := h4 i hi; omega
        simp [z, this]) (fun i hi => by
      unfold ed1 ed2
      by_cases z : w 4 i = 0
      · have h1 : ed0 w i = false := by unfold ed0; simp [z]
        have h2 : onp w g (len - 1) i = false := by
          cases hh : onp w g (len - 1) i with
          | false => rfl
          | true =>
            obtain ⟨k, hk, hk2⟩ := onp_iff.mp hh
            exact absurd (hk2 ▸ z) (P3 k (by omega))
        rw [h1, h2]; rfl
      · have h1 : ed0 w i = true := by unfold ed0; simp [z]
        have h0 : ¬ i ≤ 0 := by rintro h; have := h4 i hi; omega
        rw [h1]
        simp only [h0, decide_false, Bool.false_or, Bool.true_and]
        cases hh : onp w g len i with
        | false =>
          cases h3 : onp w g (len - 1) i with
          | false => rfl
          | true =>
            obtain ⟨k, hk, hk2⟩ := onp_iff.mp h3
            rw [onp_iff.mpr ⟨k, by omega, hk2⟩] at hh; cases hh
        | true =>
          obtain ⟨k, hk, hk2⟩ := onp_iff.mp hh
          have : k ≠ len - 1 := by rintro rfl; exact z (hk2 ▸ P4)
          exact (onp_iff.mpr ⟨k, by omega, hk2⟩).symm)
  obtain ⟨S3, e3, k3, p3, wt3, r3, g3⟩ := pz_loop (F := fun q => fb_X2_gather_b1_63 (nI g) q.1 q.2) (fun i s => s.1 = nI (len - 1 - i) ∧ kp S1 s.2 [] [] [0, 2] ∧ preL s.2 ∧ ∃ wt', rwL s.2 w wt' ∧ gIL w wt g (ac2 w g len (len - 1 - i)) (ed2 w g (len - 1 - i)) wt') (fun r => kp S1 r [] [] [0, 2] ∧ preL r ∧ ∃ wt', rwL r w wt' ∧ gIL w wt g (ac2 w g len 0) (ed2 w g 0) wt') (len - 1) (fun i s hi hs => by
      obtain ⟨q1, q2, q3, wt', q4, q5⟩ := hs
      obtain ⟨s1, s2⟩ := s
      dsimp only at q1 q2 q3 q4 q5 ⊢
      obtain ⟨j, hj⟩ : ∃ j, len - 1 - i = j + 1 := ⟨len - 1 - i - 1, by omega⟩
      have hj2 : len - 1 - (i + 1) = j := by omega
      rw [hj] at q1 q5
      rw [hj2]
      subst q1
      left
      obtain ⟨w2, i16, a10, i17⟩ := st q2
      have ed : nI (j + 1) + -1 = nI j := by rw [← Int32.sub_eq_add_neg]; exact nI_pred j
      have hjn := pn j (by omega)
      have hjn1 := pn (j + 1) (by omega)
      have hcj := P3 j (by omega)
      have hlt := P6 j (j + 1) (by omega) (by omega)
      unfold fb_X2_gather_b1_63
      rw [if_neg (nI_nle (by omega) (by omega)), nI_pred, pz_at (k := 10) (show j < 6 by omega) (by decide), pz_b2, a10 j (by omega)]
      obtain ⟨S', e', p', k', r'⟩ := bring0_L w2 hf hjn hcj q3 q4
      rw [e', pz_b2]
      refine ⟨_, rfl, ed, q2.trans k', p', _, r', ?_⟩
      have := gI_1_L q5 (v := pth w g (j + 1)) (u := pth w g j) (e := pth w g j) hjn1 hjn hjn (by omega) (fun z => by have := pinj (j + 1) 0 (by omega) (by omega) z; omega) (by unfold ac2; rw [onp_iff.mpr ⟨j + 1, by omega, rfl⟩]; simp) (by unfold ac2; rw [onp_iff.mpr ⟨j, by omega, rfl⟩]; simp) (by unfold ed2; exact onp_iff.mpr ⟨j, by omega, rfl⟩) (Or.inr ⟨rfl, rfl⟩) (fun t ht hed hne => by
        obtain ⟨k, hk, hk2⟩ := onp_iff.mp hed
        have hkj : k ≠ j := by rintro rfl; exact hne hk2.symm
        refine ⟨fun z => ?_, fun z => ?_⟩
        · have := pinj k (j + 1) (by omega) (by omega) (hk2.trans z); omega
        · have hz : pth w g (k + 1) = pth w g (j + 1) := by
            rw [← z, ← hk2]; rfl
          have := pinj (k + 1) (j + 1) (by omega) (by omega) hz; omega)
      simp only [if_neg (show ¬ pth w g j = pth w g (j + 1) by omega)] at this
      refine gI_congr_L this (fun t _ => ?_) (fun t _ => ?_)
      · by_cases z : t = pth w g (j + 1)
        · subst z
          rw [unm_v]
          symm
          have h1 : onp w g (j + 1) (pth w g (j + 1)) = false := by
            cases hh : onp w g (j + 1) (pth w g (j + 1)) with
            | false => rfl
            | true =>
              obtain ⟨k, hk, hk2⟩ := onp_iff.mp hh
              have := pinj k (j + 1) (by omega) (by omega) hk2; omega
          unfold ac2
          rw [h1]
          by_cases y : j + 1 = len - 1
          · rw [← y]; simp
          · have := P3 (j + 1) (by omega)
            simp [this]
        · rw [unm_ne z]
          unfold ac2
          congr 1
          cases hh : onp w g (j + 1 + 1) t with
          | false =>
            cases h3 : onp w g (j + 1) t with
            | false => rfl
            | true =>
              obtain ⟨k, hk, hk2⟩ := onp_iff.mp h3
              rw [onp_iff.mpr ⟨k, by omega, hk2⟩] at hh; cases hh
          | true =>
            obtain ⟨k, hk, hk2⟩ := onp_iff.mp hh
            have : k ≠ j + 1 := by rintro rfl; exact z hk2.symm
            exact (onp_iff.mpr ⟨k, by omega, hk2⟩).symm
      · by_cases z : t = pth w g j
        · subst z
          rw [unm_v]
          symm
          cases hh : ed2 w g j (pth w g j) with
          | false => rfl
          | true =>
            obtain ⟨k, hk, hk2⟩ := onp_iff.mp hh
            have := pinj k j (by omega) (by omega) hk2; omega
        · rw [unm_ne z]
          unfold ed2
          cases hh : onp w g (j + 1) t with
          | false =>
            cases h3 : onp w g j t with
            | false => rfl
            | true =>
              obtain ⟨k, hk, hk2⟩ := onp_iff.mp h3
              rw [onp_iff.mpr ⟨k, by omega, hk2⟩] at hh; cases hh
          | true =>
            obtain ⟨k, hk, hk2⟩ := onp_iff.mp hh
            have : k ≠ j := by rintro rfl; exact z hk2.symm
            exact (onp_iff.mpr ⟨k, by omega, hk2⟩).symm) (fun s hs => by
      obtain ⟨q1, q2, q3, wt', q4, q5⟩ := hs
      obtain ⟨s1, s2⟩ := s
      dsimp only at q1 q2 q3 q4 q5 ⊢
      rw [Nat.sub_self] at q1 q5
      subst q1
      unfold fb_X2_gather_b1_63
      rw [if_pos (by decide)]
      exact ⟨_, rfl, q2, q3, wt', q4, q5⟩) (s0 := (nI (len - 1), S2)) ⟨rfl, k2, p2, wt2, r2, g2'⟩ bd_K (by rw [pz_K]; omega)
  rw [e3, pz_some]
  try dsimp only
  -- third: the other roots
  obtain ⟨w3, i16, a10, i17⟩ := st k3
  rw [i16, hl1, pz_at (k := 10) (show len - 1 < 6 by omega) (by decide), pz_b2, a10 (len - 1) (by omega)]
  have hfar := pn (len - 1) (by omega)
  have g3' : gIL w wt g (ac3 w g len 0) (fun _ => false) wt3 := gI_congr_L g3 (fun i hi => by
      unfold ac2 ac3
      have : onp w g (0 + 1) i = decide (i = g) := by
        unfold onp
        simp [pth, eq_comm]
      rw [this]; simp) (fun i hi => by unfold ed2 onp; simp)
  obtain ⟨S4, e4, k4, p4, wt4, r4, g4⟩ := pz_loop (F := fun q => fb_X2_gather_b1_110 (nI g) (nI (pth w g (len - 1))) q.1 q.2) (fun i s => s.1 = nI i ∧ kp S1 s.2 [] [] [0, 2] ∧ preL s.2 ∧ ∃ wt', rwL s.2 w wt' ∧ gIL w wt g (ac3 w g len i) (fun _ => false) wt') (fun r => kp S1 r [] [] [0, 2] ∧ preL r ∧ ∃ wt', rwL r w wt' ∧ gIL w wt g (ac3 w g len (w 0 0)) (fun _ => false) wt') (w 0 0) (fun t s ht hs => by
      obtain ⟨q1, q2, q3, wt', q4, q5⟩ := hs
      obtain ⟨s1, s2⟩ := s
      dsimp only at q1 q2 q3 q4 q5 ⊢
      subst q1
      left
      obtain ⟨w2, i16, a10, i17⟩ := st q2
      have e14 : bd_A s2 14 t = nI (w 4 t) - 1 := (w2.2.2.2.2.2.2.2.1 t ht).2.2.2.1
      have h4t := h4 t ht
      unfold fb_X2_gather_b1_110
      rw [i17, if_neg (nI_ge ht (by omega)), pz_at (k := 14) (show t < 6 by omega) (by decide), pz_b2, e14]
      by_cases c : w 4 t = 0
      · rw [if_neg (by rw [c]; exact par_neg)]
        by_cases d : t = pth w g (len - 1)
        · rw [if_pos (by rw [d])]
          refine ⟨_, rfl, nI_1 t, q2, q3, wt', q4, gI_congr_L q5 (fun j _ => ?_) (fun j _ => rfl)⟩
          unfold ac3
          by_cases z : j = t
          · subst z; simp [← d]
          · congr 3; simp; omega
        · rw [if_neg (fun z => d ((nI_eq (by omega) (by omega)).mp z))]
          have htg : t ≠ g := by
            rintro rfl
            have : len - 1 = 0 := by
              rcases Nat.eq_zero_or_pos (len - 1) with q | q
              · exact q
              · exact absurd c (P3 0 (by omega))
            rw [this] at d
            exact d rfl
          obtain ⟨S', e', p', k', r'⟩ := bringAll_L hf ht hg q3 q4
          rw [e', pz_b2]
          refine ⟨_, rfl, nI_1 t, q2.trans k', p', _, r', ?_⟩
          have := gI_0_L q5 (v := t) (u := g) ht hg (fun z => htg z.symm) htg (by unfold ac3; simp [c, d]) (by unfold ac3; simp) (fun j _ h => by cases h)
          refine gI_congr_L this (fun j _ => ?_) (fun j _ => rfl)
          unfold ac3
          by_cases z : j = t
          · subst z; rw [unm_v]; simp [htg]
          · rw [unm_ne z]; congr 3; simp; omega
      · obtain ⟨c1, c2⟩ := par_pos c (show w 4 t < 1000 by omega)
        rw [if_pos c2]
        refine ⟨_, rfl, nI_1 t, q2, q3, wt', q4, gI_congr_L q5 (fun j _ => ?_) (fun j _ => rfl)⟩
        unfold ac3
        by_cases z : j = t
        · subst z; simp [c]
        · congr 3; simp; omega) (fun s hs => by
      obtain ⟨q1, q2, q3, wt', q4, q5⟩ := hs
      obtain ⟨s1, s2⟩ := s
      dsimp only at q1 q2 q3 q4 q5 ⊢
      subst q1
      obtain ⟨w2, i16, a10, i17⟩ := st q2
      unfold fb_X2_gather_b1_110
      rw [i17, if_pos (Int32.le_refl _)]
      exact ⟨_, rfl, q2, q3, wt', q4, q5⟩) (s0 := ((0 : Int32), S3)) ⟨rfl, k3, p3, wt3, r3, g3'⟩ bd_K (by rw [pz_K]; omega)
  rw [e4, pz_some]
  refine ⟨S4, rfl, fun b hb => ?_, p4, (k1.mono (by decide) (by decide) (by decide)).trans (k4.mono (by decide) (by decide) (by decide))⟩
  rw [r4 g b hg hb, g4 b, evn_none _ (fun i hi => by
    by_cases z : i = g
    · subst z; exact unm_v _ _
    · rw [unm_ne z]
      unfold ac3
      have : ¬ w 0 0 ≤ i := by omega
      simp [z, this])]
  rw [Phi_ac SRT hg (by unfold ac3; simp), Phi_none SRT (fun t ht => by
    by_cases z : t = g
    · subst z; exact unm_v _ _
    · rw [unm_ne z]
      unfold ac3
      have : ¬ w 0 0 ≤ t := by omega
      simp [z, this]) (fun _ _ => rfl)]
  congr 1
  have : fup (fun _ => 0) g b g = b := if_pos rfl
  rw [this]
  obtain ⟨g1, g2, g3, g4, g5, g6, g7, g8⟩ := SRT
  exact ((g4 (wt4 g b) (some 0)).trans (g6 _)).symm
