/-! ahead -/
theorem vL_n : vL none = lN IMP := rfl
theorem vL_s {c : Nat} (h : c ≤ IMP) : vL (some c) = lN c := congrArg lN (Nat.min_eq_left h)
def ka (o : Nat) (late : Bool) (t b : Nat) : Nat := if t = o then (if late = true then 299 - b else b) else 0
theorem ka_sum {w : bw} {o : Nat} (ho : o < w 0 0) (late : Bool) (a : Nat → Nat) : sN (fun t => ka o late t (a t)) (w 0 0) = if late = true then 299 - a o else a o := sN_single (c := fun t => if late = true then 299 - a t else a t) ho
theorem setM_row {S : bd_T} {w : bw} (hw : wX S w) (hf : wF w) (hl : lX S w) {t o : Nat} (ht : t < w 0 0) (ho : o < w 0 0) (late : Bool) {x2 : Int32} (hx : x2 = if late = true then 1 else 0) : ∃ S', bd_lp bd_K (fun q => fb_X9_setMinutes_19 (nI o) x2 (nI t) q.1 q.2) ((0 : Int32), S) = some S' ∧ kp S S' [] [] [0] ∧ (∀ b, b < 300 → bd_J S' 0 (300 * t + b) = vL (wk (g0 w) (ka o late) t b)) ∧ ∀ j, j < 300 * t → bd_J S' 0 j = bd_J S 0 j := by
  have h66 := hf.1.1
  refine pz_loop (F := fun q => fb_X9_setMinutes_19 (nI o) x2 (nI t) q.1 q.2) (fun i s => s.1 = nI i ∧ kp S s.2 [] [] [0] ∧ (∀ b, b < i → bd_J s.2 0 (300 * t + b) = vL (wk (g0 w) (ka o late) t b)) ∧ ∀ j, j < 300 * t → bd_J s.2 0 j = bd_J S 0 j) (fun r => kp S r [] [] [0] ∧ (∀ b, b < 300 → bd_J r 0 (300 * t + b) = vL (wk (g0 w) (ka o late) t b)) ∧ ∀ j, j < 300 * t → bd_J r 0 j = bd_J S 0 j) 300 (fun i s hi hs => ?_) (fun s hs => ?_) (s0 := ((0 : Int32), S)) ⟨rfl, kp.rfl', fun b hb => by omega, fun j hj => rfl⟩ bd_K (by rw [pz_K]; omega)
  · obtain ⟨q1, q2, q3, q4⟩ := hs
    obtain ⟨s1, s2⟩ := s
    dsimp only at q1 q2 q3 q4 ⊢
    subst q1
    left
    have hw2 := wX_kp q2 (by decide) (by decide) hw
    have hl2 := lX_kp q2 (by decide) hl
    have fin : ∀ v : Int64, v = vL (wk (g0 w) (ka o late) t i) → ∃ s', (some (.inl (nI i + 1, bd_pJ s2 0 (300 * t + i) v)) : Option ((Int32 × bd_T) ⊕ bd_T)) = some (.inl s') ∧ s'.1 = nI (i + 1) ∧ kp S s'.2 [] [] [0] ∧ (∀ b, b < i + 1 → bd_J s'.2 0 (300 * t + b) = vL (wk (g0 w) (ka o late) t b)) ∧ ∀ j, j < 300 * t → bd_J s'.2 0 j = bd_J S 0 j := fun v hv => by
      refine ⟨_, rfl, nI_1 i, q2.trans (kp_pJ _ _ _ _), fun b hb => ?_, fun j hj => ?_⟩
      · show vp_updL (bd_J s2 0) (300 * t + i) v (300 * t + b) = _
        rw [pz_upL]
        by_cases z : b = i
        · subst z; rw [if_pos rfl]; exact hv
        · rw [if_neg (by omega)]; exact q3 b (by omega)
      · show vp_updL (bd_J s2 0) (300 * t + i) v j = _
        rw [pz_upL, if_neg (by omega)]; exact q4 j hj
    have no : spk w t i ≠ 0 → (1099511627776 : Int64) = vL (wk (g0 w) (ka o late) t i) := fun d => by
      unfold wk g0
      rw [decide_eq_false d, if_neg (by decide)]; rfl
    have yes : spk w t i = 0 → lN (ka o late t i) = vL (wk (g0 w) (ka o late) t i) := fun d => by
      unfold wk g0
      rw [decide_eq_true d, if_pos rfl, vL_s]
      unfold ka IMP
      split
      · split <;> omega
      · omega
    have hto : (nI t = nI o) ↔ t = o := nI_eq (by omega) (by omega)
    unfold fb_X9_setMinutes_19
    rw [if_neg (n300 hi)]
    cases late with
    | false =>
      have hx : x2 = 0 := hx
      subst hx
      rw [if_pos (show (0 : Int32) = 0 from rfl), pz_b1, px_speaking hw2 hf hl2 ht hi, pz_b2]
      by_cases d : spk w t i = 0
      · rw [if_pos ((spk_z hf t i).mpr d)]
        by_cases e : t = o
        · rw [if_pos (hto.mpr e), px_set (by omega) hi, pz_b2, nI_l (by omega)]
          exact fin _ (by rw [← yes d]; unfold ka; rw [if_pos e, if_neg (by decide)])
        · rw [if_neg (fun z => e (hto.mp z)), px_set (by omega) hi, pz_b2]
          exact fin _ (by rw [← yes d]; unfold ka; rw [if_neg e]; rfl)
      · rw [if_neg (fun z => d ((spk_z hf t i).mp z)), px_set (by omega) hi, pz_b2]
        exact fin _ (no d)
    | true =>
      have hx : x2 = 1 := hx
      subst hx
      rw [if_neg (show ¬ (1 : Int32) = 0 by decide), pz_b1, px_speaking hw2 hf hl2 ht hi, pz_b2, show (299 : Int32) - nI i = nI (299 - i) from pk_sub (a := 299) (by omega)]
      by_cases d : spk w t i = 0
      · rw [if_pos ((spk_z hf t i).mpr d)]
        by_cases e : t = o
        · rw [if_pos (hto.mpr e), px_set (by omega) hi, pz_b2, nI_l (by omega)]
          exact fin _ (by rw [← yes d]; unfold ka; rw [if_pos e, if_pos rfl])
        · rw [if_neg (fun z => e (hto.mp z)), px_set (by omega) hi, pz_b2]
          exact fin _ (by rw [← yes d]; unfold ka; rw [if_neg e]; rfl)
      · rw [if_neg (fun z => d ((spk_z hf t i).mp z)), px_set (by omega) hi, pz_b2]
        exact fin _ (no d)
  · obtain ⟨q1, q2, q3, q4⟩ := hs
    obtain ⟨s1, s2⟩ := s
    dsimp only at q1 q2 q3 q4 ⊢
    subst q1
    unfold fb_X9_setMinutes_19
    rw [if_pos y300]
    exact ⟨_, rfl, q2, q3, q4⟩
theorem px_setMinutes {S : bd_T} {w : bw} (hw : wX S w) (hf : wF w) (hl : lX S w) {o : Nat} (ho : o < w 0 0) (late : Bool) {x2 : Int32} (hx : x2 = if late = true then 1 else 0) : ∃ S', f_X9_setMinutes (nI o) x2 S = some ((), S') ∧ rwL S' w (wk (g0 w) (ka o late)) ∧ kp S S' [] [] [0] := by
  have h66 := hf.1.1
  unfold f_X9_setMinutes
  obtain ⟨r, e, h⟩ := pz_loop (F := fun q => fb_X9_setMinutes_2 (nI o) x2 q.1 q.2) (fun i s => s.1 = nI i ∧ kp S s.2 [] [] [0] ∧ ∀ t b, t < i → b < 300 → bd_J s.2 0 (300 * t + b) = vL (wk (g0 w) (ka o late) t b)) (fun r => rwL r w (wk (g0 w) (ka o late)) ∧ kp S r [] [] [0]) (w 0 0) (fun i s hi hs => by
      obtain ⟨q1, q2, q3⟩ := hs
      obtain ⟨s1, s2⟩ := s
      dsimp only at q1 q2 q3 ⊢
      subst q1
      left
      have hw2 := wX_kp q2 (by decide) (by decide) hw
      have hl2 := lX_kp q2 (by decide) hl
      have e1 : bd_I s2 17 = nI (w 0 0) := hw2.2.2.2.1
      unfold fb_X9_setMinutes_2
      obtain ⟨S', e', k', r', b'⟩ := setM_row hw2 hf hl2 hi ho late hx
      rw [e1, if_neg (nI_ge hi (by omega)), e', pz_some, nI_1]
      refine ⟨_, rfl, rfl, q2.trans k', fun t b ht hb => ?_⟩
      by_cases z : t = i
      · subst z; exact r' b hb
      · rw [b' _ (by omega)]; exact q3 t b (by omega) hb) (fun s hs => by
      obtain ⟨q1, q2, q3⟩ := hs
      obtain ⟨s1, s2⟩ := s
      dsimp only at q1 q2 q3 ⊢
      subst q1
      have hw2 := wX_kp q2 (by decide) (by decide) hw
      have e1 : bd_I s2 17 = nI (w 0 0) := hw2.2.2.2.1
      unfold fb_X9_setMinutes_2
      rw [e1, if_pos (Int32.le_refl _)]
      exact ⟨_, rfl, q3, q2⟩) (s0 := ((0 : Int32), S)) ⟨rfl, kp.rfl', fun t b ht => by omega⟩ bd_K (by rw [pz_K]; omega)
  rw [e, pz_some]
  exact ⟨r, rfl, h.1, h.2⟩
def Bef (w : bw) (one o : Nat) : Prop := ∃ a, Box w a ∧ vd w (g0 w) a = true ∧ a one < a o
def Aft (w : bw) (one o : Nat) : Prop := ∃ a, Box w a ∧ vd w (g0 w) a = true ∧ a o ≤ a one
def hitB (w : bw) (one o b : Nat) : Prop := ∃ c, ZwL w (wk (g0 w) (ka o true)) one b = some c ∧ c + b < 299
def hitA (w : bw) (one o b : Nat) : Prop := leK b (ZwL w (wk (g0 w) (ka o false)) one b)
theorem hitB_iff {w : bw} {one o : Nat} (h1 : one < w 0 0) (ho : o < w 0 0) : (∃ b, b < 300 ∧ hitB w one o b) ↔ Bef w one o := by
  constructor
  · rintro ⟨b, hb, c, hc, hl⟩
    obtain ⟨a, a1, a2, a3, a4⟩ := (Zbox h1 hb).mp (⟨c, hc, Nat.le_refl c⟩ : leK c (ZwL w (wk (g0 w) (ka o true)) one b))
    rw [ka_sum ho, if_pos rfl] at a4
    have := Box_lt a1 ho
    exact ⟨a, a1, a3, by omega⟩
  · rintro ⟨a, a1, a3, a4⟩
    have b1 := Box_lt a1 h1
    have b2 := Box_lt a1 ho
    obtain ⟨c, hc, hl⟩ := (Zbox (κ := ka o true) (g := g0 w) (K := 299 - a o) h1 b1).mpr ⟨a, a1, rfl, a3, by rw [ka_sum ho, if_pos rfl]; exact Nat.le_refl _⟩
    exact ⟨a one, b1, c, hc, by omega⟩
theorem hitA_iff {w : bw} {one o : Nat} (h1 : one < w 0 0) (ho : o < w 0 0) : (∃ b, b < 300 ∧ hitA w one o b) ↔ Aft w one o := by
  constructor
  · rintro ⟨b, hb, hl⟩
    obtain ⟨a, a1, a2, a3, a4⟩ := (Zbox h1 hb).mp hl
    rw [ka_sum ho, if_neg (by decide)] at a4
    exact ⟨a, a1, a3, by omega⟩
  · rintro ⟨a, a1, a3, a4⟩
    have b1 := Box_lt a1 h1
    exact ⟨a one, b1, (Zbox h1 b1).mpr ⟨a, a1, rfl, a3, by rw [ka_sum ho, if_neg (by decide)]; exact a4⟩⟩
theorem ka_bound {w : bw} {one o b c : Nat} (late : Bool) (h1 : one < w 0 0) (ho : o < w 0 0) (hb : b < 300) (h : ZwL w (wk (g0 w) (ka o late)) one b = some c) : c ≤ 299 := by
  obtain ⟨a, a1, a2, a3, a4⟩ := (Zbox h1 hb).mp (⟨c, h, Nat.le_refl c⟩ : leK c (ZwL w (wk (g0 w) (ka o late)) one b))
  have b2 := Box_lt a1 ho
  obtain ⟨d, hd, hl⟩ := (Zbox (κ := ka o late) (g := g0 w) (K := 299) h1 hb).mpr ⟨a, a1, a2, a3, by rw [ka_sum ho]; split <;> omega⟩
  rw [h] at hd
  cases hd
  exact hl
theorem condB {z : Option Nat} {b : Nat} (hb : b < 300) (hz : ∀ c, z = some c → c ≤ 299) : (∃ c, z = some c ∧ c + b < 299) ↔ ¬ (1099511627776 : Int64) ≤ vL z ∧ ¬ (299 : Int64) - vL z ≤ lN b := by
  have e : (1099511627776 : Int64) = lN IMP := rfl
  rw [e]
  cases z with
  | none =>
    constructor
    · rintro ⟨c, h, _⟩; cases h
    · rintro ⟨h, _⟩; exact absurd (Int64.le_refl _) h
  | some c =>
    have hc := hz c rfl
    have hI : IMP = 1099511627776 := rfl
    rw [vL_s (by omega), show (299 : Int64) - lN c = lN (299 - c) from lN_sub (a := 299) hc, pk_lLE (by omega) (by omega), pk_lLE (by omega) (by omega)]
    constructor
    · rintro ⟨d, h, hl⟩; cases h; omega
    · intro h; exact ⟨c, rfl, by omega⟩
theorem condA {z : Option Nat} {b : Nat} (hb : b < 300) : leK b z ↔ ¬ lN b < vL z := by
  cases z with
  | none =>
    have hI : IMP = 1099511627776 := rfl
    rw [vL_n, pk_lLT (by omega) (by omega)]
    exact ⟨fun h => absurd h (leK_none b), fun h => by omega⟩
  | some c =>
    have hI : IMP = 1099511627776 := rfl
    show _ ↔ ¬ lN b < lN (min c IMP)
    rw [leK_some, pk_lLT (by omega) (by omega)]
    omega
theorem px_someBefore {S : bd_T} {w : bw} (hw : wX S w) (hf : wF w) (hl : lX S w) {one o : Nat} (h1 : one < w 0 0) (ho : o < w 0 0) : ∃ r S', f_X9_someWayBefore (nI one) (nI o) S = some (r, S') ∧ ((r = 1 ∧ Bef w one o) ∨ (r = 0 ∧ ¬ Bef w one o)) ∧ kp S S' [16] [10] [0, 2] := by
  have h66 := hf.1.1
  unfold f_X9_someWayBefore
  obtain ⟨S1, e1, r1, k1⟩ := px_setMinutes hw hf hl ho true (x2 := 1) rfl
  obtain ⟨S2, e2, r2, p2, k2⟩ := px_gather_L (wX_kp k1 (by decide) (by decide) hw) hf h1 trivial r1
  obtain ⟨r, e3, h3⟩ := pz_loop (F := fun q => fb_X9_someWayBefore_27 (nI one) q.1 q.2) (fun i s => s = (nI i, S2) ∧ ∀ j, j < i → ¬ hitB w one o j) (fun r => (r = .inl (1, S2) ∧ ∃ b, b < 300 ∧ hitB w one o b) ∨ (r = .inr S2 ∧ ∀ b, b < 300 → ¬ hitB w one o b)) 300 (fun i s hi hs => by
      obtain ⟨rfl, q⟩ := hs
      dsimp only
      have cb := condB (z := ZwL w (wk (g0 w) (ka o true)) one i) hi (fun c hc => ka_bound true h1 ho hi hc)
      have go : ¬ hitB w one o i → ∃ s', (some (.inl (nI i + 1, S2)) : Option ((Int32 × bd_T) ⊕ ((Int32 × bd_T) ⊕ bd_T))) = some (.inl s') ∧ s' = (nI (i + 1), S2) ∧ ∀ j, j < i + 1 → ¬ hitB w one o j := fun c => ⟨_, rfl, by rw [nI_1], fun j hj => by
        by_cases z : j = i
        · rw [z]; exact c
        · exact q j (by omega)⟩
      unfold fb_X9_someWayBefore_27
      rw [if_neg (n300 hi), px_value (by omega) hi, pz_b2, r2 i hi, nI_l (by omega)]
      by_cases c1 : (1099511627776 : Int64) ≤ vL (ZwL w (wk (g0 w) (ka o true)) one i)
      · rw [if_pos c1]
        exact Or.inl (go (fun z => (cb.mp z).1 c1))
      · rw [if_neg c1]
        by_cases c2 : (299 : Int64) - vL (ZwL w (wk (g0 w) (ka o true)) one i) ≤ lN i
        · rw [if_pos c2]
          exact Or.inl (go (fun z => (cb.mp z).2 c2))
        · rw [if_neg c2]
          exact Or.inr ⟨_, rfl, Or.inl ⟨rfl, i, hi, cb.mpr ⟨c1, c2⟩⟩⟩) (fun s hs => by
      obtain ⟨rfl, q⟩ := hs
      dsimp only
      unfold fb_X9_someWayBefore_27
      rw [if_pos y300]
      exact ⟨_, rfl, Or.inr ⟨rfl, q⟩⟩) (s0 := ((0 : Int32), S2)) ⟨rfl, fun j hj => by omega⟩ bd_K (by rw [pz_K]; omega)
  have K : kp S S2 [16] [10] [0, 2] := (k1.mono (by decide) (by decide) (by decide)).trans k2
  rw [e1, pz_b2, e2, pz_b2, e3, pz_some]
  rcases h3 with ⟨rfl, h⟩ | ⟨rfl, h⟩
  · exact ⟨1, S2, rfl, Or.inl ⟨rfl, (hitB_iff h1 ho).mp h⟩, K⟩
  · exact ⟨0, S2, rfl, Or.inr ⟨rfl, fun z => by
      obtain ⟨b, hb, hh⟩ := (hitB_iff h1 ho).mpr z
      exact h b hb hh⟩, K⟩
theorem px_someNot {S : bd_T} {w : bw} (hw : wX S w) (hf : wF w) (hl : lX S w) {one o : Nat} (h1 : one < w 0 0) (ho : o < w 0 0) : ∃ r S', f_X9_someWayNotBefore (nI one) (nI o) S = some (r, S') ∧ ((r = 1 ∧ Aft w one o) ∨ (r = 0 ∧ ¬ Aft w one o)) ∧ kp S S' [16] [10] [0, 2] := by
  have h66 := hf.1.1
  unfold f_X9_someWayNotBefore
  obtain ⟨S1, e1, r1, k1⟩ := px_setMinutes hw hf hl ho false (x2 := 0) rfl
  obtain ⟨S2, e2, r2, p2, k2⟩ := px_gather_L (wX_kp k1 (by decide) (by decide) hw) hf h1 trivial r1
  obtain ⟨r, e3, h3⟩ := pz_loop (F := fun q => fb_X9_someWayNotBefore_27 (nI one) q.1 q.2) (fun i s => s = (nI i, S2) ∧ ∀ j, j < i → ¬ hitA w one o j) (fun r => (r = .inl (1, S2) ∧ ∃ b, b < 300 ∧ hitA w one o b) ∨ (r = .inr S2 ∧ ∀ b, b < 300 → ¬ hitA w one o b)) 300 (fun i s hi hs => by
      obtain ⟨rfl, q⟩ := hs
      dsimp only
      have cb := condA (z := ZwL w (wk (g0 w) (ka o false)) one i) hi
      unfold fb_X9_someWayNotBefore_27
      rw [if_neg (n300 hi), px_value (by omega) hi, pz_b2, r2 i hi, nI_l (by omega)]
      by_cases c1 : lN i < vL (ZwL w (wk (g0 w) (ka o false)) one i)
      · rw [if_pos c1]
        refine Or.inl ⟨_, rfl, by rw [nI_1], fun j hj => ?_⟩
        by_cases z : j = i
        · rw [z]; exact fun y => cb.mp y c1
        · exact q j (by omega)
      · rw [if_neg c1]
        exact Or.inr ⟨_, rfl, Or.inl ⟨rfl, i, hi, cb.mpr c1⟩⟩) (fun s hs => by
      obtain ⟨rfl, q⟩ := hs
      dsimp only
      unfold fb_X9_someWayNotBefore_27
      rw [if_pos y300]
      exact ⟨_, rfl, Or.inr ⟨rfl, q⟩⟩) (s0 := ((0 : Int32), S2)) ⟨rfl, fun j hj => by omega⟩ bd_K (by rw [pz_K]; omega)
  have K : kp S S2 [16] [10] [0, 2] := (k1.mono (by decide) (by decide) (by decide)).trans k2
  rw [e1, pz_b2, e2, pz_b2, e3, pz_some]
  rcases h3 with ⟨rfl, h⟩ | ⟨rfl, h⟩
  · exact ⟨1, S2, rfl, Or.inl ⟨rfl, (hitA_iff h1 ho).mp h⟩, K⟩
  · exact ⟨0, S2, rfl, Or.inr ⟨rfl, fun z => by
      obtain ⟨b, hb, hh⟩ := (hitA_iff h1 ho).mpr z
      exact h b hb hh⟩, K⟩
/-! the reference's sum -/
def gA (w : bw) (one o m t b : Nat) : Bool := g0 w t b && ((decide (t ≠ one) || decide (b = m)) && (decide (t ≠ o) || decide (m + 1 ≤ b)))
def EX (w : bw) (one o : Nat) : Nat := evn (· + ·) 0 (fun _ => true) (fun a => if (vd w (g0 w) a && decide (a one < a o)) = true then 1 else 0) (w 0 0) (fun _ => 0)
def EY (w : bw) (one o : Nat) : Nat := evn (· + ·) 0 (fun _ => true) (fun a => if (vd w (g0 w) a && decide (a o ≤ a one)) = true then 1 else 0) (w 0 0) (fun _ => 0)
theorem vd_gA {w : bw} {one o m : Nat} (h1 : one < w 0 0) (ho : o < w 0 0) (a : Nat → Nat) : vd w (gA w one o m) a = (vd w (g0 w) a && (decide (a one = m) && decide (m + 1 ≤ a o))) := by
  rw [Bool.eq_iff_iff]
  unfold vd
  simp only [Bool.and_eq_true, al_iff, decide_eq_true_eq]
  have u : ∀ k, gA w one o m k (a k) = true ↔ g0 w k (a k) = true ∧ (k ≠ one ∨ a k = m) ∧ (k ≠ o ∨ m + 1 ≤ a k) := fun k => by
    unfold gA
    simp only [Bool.and_eq_true, Bool.or_eq_true, decide_eq_true_eq]
  constructor
  · rintro ⟨h, he⟩
    refine ⟨⟨fun k hk => ((u k).mp (h k hk)).1, he⟩, ?_, ?_⟩
    · rcases ((u one).mp (h one h1)).2.1 with z | z
      · exact absurd rfl z
      · exact z
    · rcases ((u o).mp (h o ho)).2.2 with z | z
      · exact absurd rfl z
      · exact z
  · rintro ⟨⟨h, he⟩, z1, z2⟩
    refine ⟨fun k hk => (u k).mpr ⟨h k hk, ?_, ?_⟩, he⟩
    · by_cases z : k = one
      · exact Or.inr (by rw [z]; exact z1)
      · exact Or.inl z
    · by_cases z : k = o
      · exact Or.inr (by rw [z]; exact z2)
      · exact Or.inl z
theorem sum_one {V : Bool} {a1 ao : Nat} (h2 : ao < 300) : sN (fun m => if (V && (decide (a1 = m) && decide (m + 1 ≤ ao))) = true then 1 else 0) 299 = if (V && decide (a1 < ao)) = true then 1 else 0 := by
  have e : ∀ m, (if (V && (decide (a1 = m) && decide (m + 1 ≤ ao))) = true then 1 else 0) = if m = a1 then (if (V && decide (a1 < ao)) = true then 1 else 0) else 0 := fun m => by
    by_cases z : m = a1
    · rw [if_pos z, z, decide_eq_true (show a1 = a1 from rfl), Bool.true_and]; rfl
    · rw [if_neg z, decide_eq_false (show ¬ a1 = m from fun y => z y.symm), Bool.false_and, Bool.and_false, if_neg (by decide)]
  rw [show (fun m => if (V && (decide (a1 = m) && decide (m + 1 ≤ ao))) = true then 1 else 0) = (fun m => if m = a1 then (if (V && decide (a1 < ao)) = true then 1 else 0) else 0) from funext e]
  by_cases c : a1 < 299
  · exact sN_single (c := fun _ => if (V && decide (a1 < ao)) = true then 1 else 0) c
  · rw [decide_eq_false (show ¬ a1 < ao by omega), Bool.and_false, if_neg (by decide)]
    refine Eq.trans (sg_congr (g := fun _ => 0) (fun i hi => ?_)) (sN_0 299)
    split <;> rfl
theorem ahead_sum {w : bw} {one o : Nat} (h1 : one < w 0 0) (ho : o < w 0 0) : sN (fun m => Ways w (gA w one o m)) 299 = EX w one o := by
  have e := eN_sum (m := fun _ => true) (fun m => Phi (· * ·) 0 1 (w 0 0) (pr0 w) (rlw w) (fun _ => true) (ed0 w) (wg (gA w one o m))) 299 (w 0 0) (fun _ => 0)
  refine Eq.trans e ?_
  refine evn_congr_P (P := dom) (fun a i x _ hx ha => dom_up hx ha) (fun a ha => ?_) _ _ dom0
  rw [← sum_one (V := vd w (g0 w) a) (a1 := a one) (ha o)]
  exact sg_congr (fun m _ => by rw [Phi_vd, vd_gA h1 ho])
theorem all_split (w : bw) (one o : Nat) : Ways w (g0 w) = EX w one o + EY w one o := by
  refine Eq.trans ?_ (eN_add _ _ (w 0 0) (fun _ => 0))
  refine evn_congr (w 0 0) (fun _ _ => rfl) (fun a => ?_) (fun _ => 0)
  refine (Phi_vd a).trans ?_
  cases vd w (g0 w) a
  · rfl
  · by_cases c : a one < a o
    · rw [decide_eq_true c, decide_eq_false (show ¬ a o ≤ a one by omega)]; rfl
    · rw [decide_eq_false c, decide_eq_true (show a o ≤ a one by omega)]; rfl
theorem EX_pos {w : bw} {one o : Nat} : 0 < EX w one o ↔ Bef w one o := by
  refine (sum_pos (w := w) _).trans (exists_congr (fun a => and_congr_right (fun _ => ?_)))
  have q : (vd w (g0 w) a && decide (a one < a o)) = true ↔ (vd w (g0 w) a = true ∧ a one < a o) := by rw [Bool.and_eq_true, decide_eq_true_eq]
  rw [← q]
  by_cases c : (vd w (g0 w) a && decide (a one < a o)) = true
  · rw [if_pos c]; exact ⟨fun _ => c, fun _ => Nat.one_pos⟩
  · rw [if_neg c]; exact ⟨fun z => absurd z (Nat.lt_irrefl 0), fun z => absurd z c⟩
theorem EY_pos {w : bw} {one o : Nat} : 0 < EY w one o ↔ Aft w one o := by
  refine (sum_pos (w := w) _).trans (exists_congr (fun a => and_congr_right (fun _ => ?_)))
  have q : (vd w (g0 w) a && decide (a o ≤ a one)) = true ↔ (vd w (g0 w) a = true ∧ a o ≤ a one) := by rw [Bool.and_eq_true, decide_eq_true_eq]
  rw [← q]
  by_cases c : (vd w (g0 w) a && decide (a o ≤ a one)) = true
  · rw [if_pos c]; exact ⟨fun _ => c, fun _ => Nat.one_pos⟩
  · rw [if_neg c]; exact ⟨fun z => absurd z (Nat.lt_irrefl 0), fun z => absurd z c⟩
def frA (w : bw) (one o i t : Nat) : Nat := if t = o then i + 1 else if t = one then i else 0
def ttA (one i t : Nat) : Nat := if t = one then i else 299
theorem gd_gA {w : bw} (hf : wF w) {one o i : Nat} (hne : one ≠ o) (t b : Nat) (hb : b < 300) : gd w (frA w one o i) (ttA one i) 0 t b = gA w one o i t b := by
  rw [gd_g0 hf, Bool.eq_iff_iff]
  unfold gA frA ttA
  simp only [Bool.and_eq_true, Bool.or_eq_true, decide_eq_true_eq]
  by_cases z1 : t = o
  · have z2 : ¬ t = one := fun y => hne (y ▸ z1)
    rw [if_pos z1, if_neg z2]
    constructor
    · rintro ⟨⟨a1, a2⟩, a3⟩; exact ⟨a3, Or.inl z2, Or.inr a1⟩
    · rintro ⟨a3, _, a1⟩
      rcases a1 with a1 | a1
      · exact absurd z1 a1
      · exact ⟨⟨a1, by omega⟩, a3⟩
  · rw [if_neg z1]
    by_cases z2 : t = one
    · rw [if_pos z2, if_pos z2]
      constructor
      · rintro ⟨⟨a1, a2⟩, a3⟩; exact ⟨a3, Or.inr (by omega), Or.inl z1⟩
      · rintro ⟨a3, a1, _⟩
        rcases a1 with a1 | a1
        · exact absurd z2 a1
        · exact ⟨⟨by omega, by omega⟩, a3⟩
    · rw [if_neg z2, if_neg z2]
      constructor
      · rintro ⟨_, a3⟩; exact ⟨a3, Or.inl z2, Or.inl z1⟩
      · rintro ⟨a3, _⟩; exact ⟨⟨Nat.zero_le _, by omega⟩, a3⟩
theorem sW_le {w : bw} (hf : wF w) (one o n : Nat) : sN (fun m => Ways w (gA w one o m)) n ≤ n * 729000000000000 := sN_bound (fun i => Ways_le hf _) n
theorem pm_aheadloop {M : bd_T} {w : bw} (hw : wM M w) (hf : wF w) (hl : lM M w) (hfr : frM M w (fun _ => 0) (fun _ => 299) 0) {one o : Nat} (h1 : one < w 0 0) (ho : o < w 0 0) (hne : one ≠ o) (p3 : Int64) : ∃ r, bd_lp bd_K (fun q => fb_X10_ahead_55 (nI one) (nI o) p3 q.1 q.2.1 q.2.2) ((0 : Int64), (0 : Int32), M) = some r ∧ r.1 = lN (EX w one o) ∧ kp M r.2 [] [15, 16] [0, 1] := by
  have h66 := hf.1.1
  refine pz_loop (F := fun q => fb_X10_ahead_55 (nI one) (nI o) p3 q.1 q.2.1 q.2.2) (fun i s => s.1 = lN (sN (fun m => Ways w (gA w one o m)) i) ∧ s.2.1 = nI i ∧ kp M s.2.2 [] [15, 16] [0, 1] ∧ ∀ t, t < w 0 0 → (t ≠ one → bd_A s.2.2 16 t = nI 299) ∧ (t ≠ one → t ≠ o → bd_A s.2.2 15 t = nI 0)) (fun r => r.1 = lN (EX w one o) ∧ kp M r.2 [] [15, 16] [0, 1]) 299 (fun i s hi hs => ?_) (fun s hs => ?_) (s0 := ((0 : Int64), (0 : Int32), M)) ⟨rfl, rfl, kp.rfl', fun t ht => ⟨fun _ => (hfr.1 t ht).2.1, fun _ _ => (hfr.1 t ht).1⟩⟩ bd_K (by rw [pz_K]; omega)
  · obtain ⟨q1, q2, q3, q4⟩ := hs
    obtain ⟨s1, s2, s3⟩ := s
    dsimp only at q1 q2 q3 q4 ⊢
    subst q1 q2
    left
    unfold fb_X10_ahead_55
    rw [if_neg (show ¬ (299 : Int32) ≤ nI i from nI_ge (b := 299) hi (by omega)), pz_sa (show one < 6 by omega) (by decide), pz_some, pz_sa (show one < 6 by omega) (by decide), pz_some, pz_sa (show o < 6 by omega) (by decide), pz_some, nI_1]
    have K : kp M (bd_pA (bd_pA (bd_pA s3 15 one (nI i)) 16 one (nI i)) 15 o (nI (i + 1))) [] [15, 16] [0, 1] := q3.trans (((kp_pA _ _ _ _).mono (by decide) (by decide) (by decide)).trans (((kp_pA _ _ _ _).mono (by decide) (by decide) (by decide)).trans ((kp_pA _ _ _ _).mono (by decide) (by decide) (by decide))))
    have a15 : ∀ t, bd_A (bd_pA (bd_pA (bd_pA s3 15 one (nI i)) 16 one (nI i)) 15 o (nI (i + 1))) 15 t = if t = o then nI (i + 1) else if t = one then nI i else bd_A s3 15 t := fun t => rfl
    have a16 : ∀ t, bd_A (bd_pA (bd_pA (bd_pA s3 15 one (nI i)) 16 one (nI i)) 15 o (nI (i + 1))) 16 t = if t = one then nI i else bd_A s3 16 t := fun t => rfl
    have i9 : bd_I (bd_pA (bd_pA (bd_pA s3 15 one (nI i)) 16 one (nI i)) 15 o (nI (i + 1))) 9 = nI 0 := by
      show bd_I s3 9 = _
      rw [q3.1 9 (by decide)]; exact hfr.2.1
    obtain ⟨M', e, k⟩ := pm_waysOf (wM_kp K (by decide) (by decide) hw) hf (lM_kp K (by decide) hl) (fr := frA w one o i) (tt := ttA one i) (lo := 0) ⟨fun t ht => by
      rw [a15, a16]
      unfold frA ttA
      refine ⟨?_, ?_, ?_, ?_⟩
      · by_cases z : t = o
        · rw [if_pos z, if_pos z]
        · rw [if_neg z, if_neg z]
          by_cases y : t = one
          · rw [if_pos y, if_pos y]
          · rw [if_neg y, if_neg y]; exact (q4 t ht).2 y z
      · by_cases y : t = one
        · rw [if_pos y, if_pos y]
        · rw [if_neg y, if_neg y]; exact (q4 t ht).1 y
      · split
        · omega
        · split <;> omega
      · split <;> omega, i9, by omega⟩
    rw [e, pz_b2, pz_b1, lN_add, Ways_congr (g' := gA w one o i) (fun t b _ hb => gd_gA hf hne t b hb)]
    refine ⟨_, rfl, rfl, rfl, K.trans (k.mono (by decide) (by decide) (by decide)), fun t ht => ?_⟩
    dsimp only
    rw [k.2.1 15 (by decide), k.2.1 16 (by decide), a15, a16]
    refine ⟨fun y => ?_, fun y z => ?_⟩
    · rw [if_neg y]; exact (q4 t ht).1 y
    · rw [if_neg z, if_neg y]; exact (q4 t ht).2 y z
  · obtain ⟨q1, q2, q3, q4⟩ := hs
    obtain ⟨s1, s2, s3⟩ := s
    dsimp only at q1 q2 q3 q4 ⊢
    subst q1 q2
    unfold fb_X10_ahead_55
    rw [if_pos (show (299 : Int32) ≤ nI 299 from Int32.le_refl _)]
    exact ⟨_, rfl, by rw [← ahead_sum h1 ho], q3⟩
theorem r_ahead : rel_ahead RR := by
  intro x y S M h
  unfold f_X9_ahead f_X10_ahead
  rcases RR_isThing h x with ⟨e1, e2⟩ | ⟨w, one, hw, h1, rfl, e1, e2⟩
  · rw [e1, e2, pz_b2, pz_b2, if_pos rfl, if_pos rfl]
    exact RR_no' h (n := 0) (x := -1) rfl (by omega)
  · rw [e1, e2, pz_b2, pz_b2, if_neg (show ¬ (1 : Int32) = 0 by decide), if_neg (show ¬ (1 : Int32) = 0 by decide)]
    obtain ⟨hf, hX, hM, hc, hm, hpre⟩ := id hw
    have h66 := hf.1.1
    have i17 : bd_I S 17 = nI (w 0 0) := hX.2.2.2.1
    have i2 : bd_I M 2 = nI (w 0 0) := hM.2.2.2.1
    unfold f_X9_isThing f_X10_isThing
    rw [i17, i2]
    rcases pz_num y with c | ⟨o, hoo, rfl⟩
    · rw [if_pos c, if_pos c, pz_b2, pz_b2, if_pos (show (0 : Int32) = 0 from rfl), if_pos (show (0 : Int32) = 0 from rfl)]
      exact RR_no' h (n := 0) (x := -1) rfl (by omega)
    · rw [if_neg (npos0 hoo), if_neg (npos0 hoo)]
      by_cases ho : w 0 0 ≤ o
      · rw [if_pos (nI_le ho hoo), if_pos (nI_le ho hoo), pz_b2, pz_b2, if_pos (show (0 : Int32) = 0 from rfl), if_pos (show (0 : Int32) = 0 from rfl)]
        exact RR_no' h (n := 0) (x := -1) rfl (by omega)
      · have ho : o < w 0 0 := by omega
        rw [if_neg (nI_ge ho (by omega)), if_neg (nI_ge ho (by omega)), pz_b2, pz_b2, if_neg (show ¬ (1 : Int32) = 0 by decide), if_neg (show ¬ (1 : Int32) = 0 by decide)]
        have eq : (nI one = nI o) ↔ one = o := nI_eq (by omega) (by omega)
        by_cases hne : one = o
        · rw [if_pos (eq.mpr hne), if_pos (eq.mpr hne)]
          exact RR_no' h (n := 0) (x := -1) rfl (by omega)
        · rw [if_neg (fun z => hne (eq.mp z)), if_neg (fun z => hne (eq.mp z))]
          obtain ⟨S1, g1, l1, k1⟩ := px_learn hX hf hc
          have hX1 := wX_kp k1 (by decide) (by decide) hX
          obtain ⟨rb, S2, g2, b2, k2⟩ := px_someBefore hX1 hf l1 h1 ho
          obtain ⟨ra, S3, g3, b3, k3⟩ := px_someNot (wX_kp k2 (by decide) (by decide) hX1) hf (lX_kp k2 (by decide) l1) h1 ho
          obtain ⟨M1, f1, n1, j1⟩ := pm_finds hM hf hm
          have hM1 := wM_kp j1 (by decide) (by decide) hM
          obtain ⟨M2, f2, n2, j2⟩ := pm_frees (M := M1) hf
          have hM2 := wM_kp j2 (by decide) (by decide) hM1
          have m2 := lM_kp j2 (by decide) n1
          obtain ⟨M3, f3, j3⟩ := pm_waysOf hM2 hf m2 n2
          have hM3 := wM_kp j3 (by decide) (by decide) hM2
          have m3 := lM_kp j3 (by decide) m2
          have n3 : frM M3 w (fun _ => 0) (fun _ => 299) 0 := by
            unfold frM at n2 ⊢
            rw [j3.2.1 15 (by decide), j3.2.1 16 (by decide), j3.1 9 (by decide)]; exact n2
          have eW := all_split w one o
          have hW := Ways_le hf (g0 w)
          rw [g1, pz_b2, g2, pz_b2, g3, pz_b2, f1, pz_b2, f2, pz_b2, f3, pz_b2, Ways_free hf]
          have K : kp S S3 [15, 16] [4, 9, 10] [0, 1, 2] := (k1.mono (by decide) (by decide) (by decide)).trans ((k2.mono (by decide) (by decide) (by decide)).trans (k3.mono (by decide) (by decide) (by decide)))
          have J3 : kp M M3 [7, 9] [15, 16, 18, 20, 21] [0, 1] := (j1.mono (by decide) (by decide) (by decide)).trans ((j2.mono (by decide) (by decide) (by decide)).trans (j3.mono (by decide) (by decide) (by decide)))
          have cX := cX'_kp k3 (by decide) (cX'_kp k2 (by decide) (cX'_lX l1))
          have pX := preC_kp k3 (by decide) (preC_kp k2 (by decide) (preC_kp k1 (by decide) hpre))
          have zW : (lN (Ways w (g0 w)) = (0 : Int64)) ↔ Ways w (g0 w) = 0 := pk_lEQ (b := 0) (by omega) (by omega)
          by_cases c : Ways w (g0 w) = 0
          · rw [if_pos (zW.mpr c)]
            have nb : ¬ Bef w one o := fun z => by have := EX_pos.mpr z; omega
            have na : ¬ Aft w one o := fun z => by have := EY_pos.mpr z; omega
            have hb0 : rb = 0 := by rcases b2 with z | z; exact absurd z.2 nb; exact z.1
            have ha0 : ra = 0 := by rcases b3 with z | z; exact absurd z.2 na; exact z.1
            rw [hb0, ha0, if_pos (show (0 : Int32) = 0 from rfl), if_pos (show (0 : Int32) = 0 from rfl)]
            exact ⟨_, S3, M3, rfl, rfl, RR_calc h.1 hw K J3 cX (Or.inr m3) pX⟩
          · rw [if_neg (fun z => c (zW.mp z))]
            obtain ⟨⟨v, M4⟩, f4, hv, j4⟩ := pm_aheadloop hM3 hf m3 n3 h1 ho hne (lN (Ways w (g0 w)))
            dsimp only at hv j4
            subst hv
            rw [f4, pz_some]
            dsimp only
            have J4 : kp M M4 [7, 9] [15, 16, 18, 20, 21] [0, 1] := J3.trans (j4.mono (by decide) (by decide) (by decide))
            have q1 : (lN (EX w one o) = lN (Ways w (g0 w))) ↔ EX w one o = Ways w (g0 w) := pk_lEQ (by omega) (by omega)
            have q2 : (lN (EX w one o) = (0 : Int64)) ↔ EX w one o = 0 := pk_lEQ (b := 0) (by omega) (by omega)
            have fin := RR_calc h.1 hw K J4 cX (Or.inr (lM_kp j4 (by decide) m3)) pX
            by_cases d : EY w one o = 0
            · have na : ¬ Aft w one o := fun z => by have := EY_pos.mpr z; omega
              have hb : Bef w one o := EX_pos.mp (by omega)
              have hb1 : rb = 1 := by rcases b2 with z | z; exact z.1; exact absurd hb z.2
              have ha0 : ra = 0 := by rcases b3 with z | z; exact absurd z.2 na; exact z.1
              rw [if_pos (q1.mpr (by omega)), hb1, ha0, if_neg (show ¬ (1 : Int32) = 0 by decide), if_pos (show (0 : Int32) = 0 from rfl)]
              exact ⟨_, S3, M4, rfl, rfl, fin⟩
            · have ha : Aft w one o := EY_pos.mp (by omega)
              have ha1 : ra = 1 := by rcases b3 with z | z; exact z.1; exact absurd ha z.2
              rw [if_neg (show ¬ lN (EX w one o) = lN (Ways w (g0 w)) from fun z => by have := q1.mp z; omega), ha1]
              by_cases d2 : EX w one o = 0
              · have nb : ¬ Bef w one o := fun z => by have := EX_pos.mpr z; omega
                have hb0 : rb = 0 := by rcases b2 with z | z; exact absurd z.2 nb; exact z.1
                rw [if_pos (q2.mpr d2), hb0, if_pos (show (0 : Int32) = 0 from rfl), if_neg (show ¬ (1 : Int32) = 0 by decide)]
                exact ⟨_, S3, M4, rfl, rfl, fin⟩
              · have hb : Bef w one o := EX_pos.mp (by omega)
                have hb1 : rb = 1 := by rcases b2 with z | z; exact z.1; exact absurd hb z.2
                rw [if_neg (show ¬ lN (EX w one o) = (0 : Int64) from fun z => d2 (q2.mp z)), hb1, if_neg (show ¬ (1 : Int32) = 0 by decide), if_neg (show ¬ (1 : Int32) = 0 by decide)]
                exact ⟨_, S3, M4, rfl, rfl, fin⟩
