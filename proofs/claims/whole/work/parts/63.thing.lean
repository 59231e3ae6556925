/-- what stands behind the letter -/
def ctail (S : bd_T) : Option (Int32 × bd_T) :=
  (bd_si S 11 ((bd_I S 11) + (1 : Int32))).bind (fun (S7 : bd_T) => bd_b2 (f_X6_readNumber (4 : Int32) S7) (fun (r8 : Int32) (S9 : bd_T) => (bd_si S9 13 r8).bind (fun (S10 : bd_T) => (if (bd_I S10 13) < 0 then some ((bd_I S10 11), S10) else bd_b2 (f_X6_byteHere S10) (fun (r11 : Int32) (S12 : bd_T) => (if r11 = (44 : Int32) then (bd_si S12 11 ((bd_I S12 11) + (1 : Int32))).bind (fun (S13 : bd_T) => bd_b2 (f_X6_readNumber (2 : Int32) S13) (fun (r14 : Int32) (S15 : bd_T) => (bd_si S15 14 r14).bind (fun (S16 : bd_T) => (if (bd_I S16 14) < 0 then some ((bd_I S16 11), S16) else (if (bd_I S16 10) ≤ (bd_I S16 11) then some ((-1 : Int32), S16) else some ((bd_I S16 11), S16)))))) else some ((bd_I S12 11), S12)))))))
def rtail (l : Int32) (S3 : bd_T) : Option (Int32 × bd_T) :=
  (bd_si S3 1 ((bd_I S3 1) + (1 : Int32))).bind (fun (S4 : bd_T) => bd_b2 (f_X10_number (4 : Int32) S4) (fun (r5 : Int32) (S6 : bd_T) => (if r5 < 0 then some ((0 : Int32), S6) else bd_b2 (f_X10_sign S6) (fun (r7 : Int32) (S8 : bd_T) => (if r7 = (44 : Int32) then (bd_si S8 1 ((bd_I S8 1) + (1 : Int32))).bind (fun (S9 : bd_T) => bd_b2 (f_X10_number (2 : Int32) S9) (fun (r10 : Int32) (S11 : bd_T) => (if r10 < 0 then some ((0 : Int32), S11) else (if (bd_I S11 0) ≤ (bd_I S11 1) then (bd_sa S11 2 6 (bd_I S11 2) l).bind (fun (S12 : bd_T) => (bd_sa S12 3 6 (bd_I S12 2) r5).bind (fun (S13 : bd_T) => (bd_sa S13 4 6 (bd_I S13 2) r10).bind (fun (S14 : bd_T) => (bd_sa S14 12 6 (bd_I S14 2) (-1 : Int32)).bind (fun (S15 : bd_T) => some ((1 : Int32), S15))))) else some ((0 : Int32), S11))))) else some ((0 : Int32), S8))))))
theorem read_eq (S : bd_T) : f_X6_read S = (bd_si S 11 (0 : Int32)).bind (fun (S1 : bd_T) => bd_b2 (f_X6_byteHere S1) (fun (r2 : Int32) (S3 : bd_T) => bd_b2 (f_X6_lawOf r2 S3) (fun (r4 : Int32) (S5 : bd_T) => (bd_si S5 12 r4).bind (fun (S6 : bd_T) => (if 0 ≤ (bd_I S6 12) then ctail S6 else some ((bd_I S6 11), S6)))))) := rfl
theorem reads_eq (S : bd_T) : f_X10_reads S = (bd_si S 1 (0 : Int32)).bind (fun (S1 : bd_T) => bd_b2 (f_X10_sign S1) (fun (r2 : Int32) (S3 : bd_T) => (if r2 = (101 : Int32) then rtail 0 S3 else (if r2 = (116 : Int32) then rtail 1 S3 else (if r2 = (115 : Int32) then rtail 2 S3 else (if r2 = (119 : Int32) then rtail 3 S3 else (if r2 = (100 : Int32) then rtail 4 S3 else (if r2 = (107 : Int32) then rtail 5 S3 else some ((0 : Int32), S3))))))))) := rfl
def lcode (v : Nat) : Option Nat := if v = 101 then some 0 else if v = 116 then some 1 else if v = 115 then some 2 else if v = 119 then some 3 else if v = 100 then some 4 else if v = 107 then some 5 else none
def lcI (v : Nat) : Int32 := match lcode v with
  | some l => nI l
  | none => -1
theorem law_S (x : Int32) (S Z : bd_T) : f_X6_lawOf x S = (f_X6_lawOf x Z).map (fun p => (p.1, S)) := by
  unfold f_X6_lawOf
  by_cases h100 : x = 100
  · rw [if_pos h100, if_pos h100]; rfl
  rw [if_neg h100, if_neg h100]
  by_cases h101 : x = 101
  · rw [if_pos h101, if_pos h101]; rfl
  rw [if_neg h101, if_neg h101]
  by_cases h102 : x = 102
  · rw [if_pos h102, if_pos h102]; rfl
  rw [if_neg h102, if_neg h102]
  by_cases h103 : x = 103
  · rw [if_pos h103, if_pos h103]; rfl
  rw [if_neg h103, if_neg h103]
  by_cases h104 : x = 104
  · rw [if_pos h104, if_pos h104]; rfl
  rw [if_neg h104, if_neg h104]
  by_cases h105 : x = 105
  · rw [if_pos h105, if_pos h105]; rfl
  rw [if_neg h105, if_neg h105]
  by_cases h106 : x = 106
  · rw [if_pos h106, if_pos h106]; rfl
  rw [if_neg h106, if_neg h106]
  by_cases h107 : x = 107
  · rw [if_pos h107, if_pos h107]; rfl
  rw [if_neg h107, if_neg h107]
  by_cases h108 : x = 108
  · rw [if_pos h108, if_pos h108]; rfl
  rw [if_neg h108, if_neg h108]
  by_cases h109 : x = 109
  · rw [if_pos h109, if_pos h109]; rfl
  rw [if_neg h109, if_neg h109]
  by_cases h110 : x = 110
  · rw [if_pos h110, if_pos h110]; rfl
  rw [if_neg h110, if_neg h110]
  by_cases h111 : x = 111
  · rw [if_pos h111, if_pos h111]; rfl
  rw [if_neg h111, if_neg h111]
  by_cases h112 : x = 112
  · rw [if_pos h112, if_pos h112]; rfl
  rw [if_neg h112, if_neg h112]
  by_cases h113 : x = 113
  · rw [if_pos h113, if_pos h113]; rfl
  rw [if_neg h113, if_neg h113]
  by_cases h114 : x = 114
  · rw [if_pos h114, if_pos h114]; rfl
  rw [if_neg h114, if_neg h114]
  by_cases h115 : x = 115
  · rw [if_pos h115, if_pos h115]; rfl
  rw [if_neg h115, if_neg h115]
  by_cases h116 : x = 116
  · rw [if_pos h116, if_pos h116]; rfl
  rw [if_neg h116, if_neg h116]
  by_cases h117 : x = 117
  · rw [if_pos h117, if_pos h117]; rfl
  rw [if_neg h117, if_neg h117]
  by_cases h118 : x = 118
  · rw [if_pos h118, if_pos h118]; rfl
  rw [if_neg h118, if_neg h118]
  by_cases h119 : x = 119
  · rw [if_pos h119, if_pos h119]; rfl
  rw [if_neg h119, if_neg h119]
  rfl
theorem law_all : ∀ v, v < 256 → (f_X6_lawOf (nI v) bi_X).map Prod.fst = some (lcI v) := by decide +kernel
theorem law_neg (S : bd_T) : f_X6_lawOf (-1) S = some (-1, S) := rfl
theorem px_lawOf {v : Nat} (S : bd_T) (h1 : v < 256) : f_X6_lawOf (nI v) S = some (lcI v, S) := by
  have := law_all v h1
  rw [law_S _ S bi_X]
  cases h : f_X6_lawOf (nI v) bi_X with
  | none => rw [h] at this; cases this
  | some p =>
    rw [h] at this
    simp only [Option.map_some, Option.some.injEq] at this
    simp only [Option.map_some, this]
/-- how both end: at a FAULT, or with the three numbers -/
def endF (S M : bd_T) (x m : Option (Int32 × bd_T)) : Prop := ∃ q S' M', q < 2 ^ 31 ∧ x = some (nI q, S') ∧ m = some (0, M') ∧ bd_I M' 1 = nI q ∧ kp S S' [11, 12, 13, 14] [] [] ∧ kp M M' [1] [] []
def endG (c l : Nat) (S M : bd_T) (x m : Option (Int32 × bd_T)) : Prop := ∃ b p S' M', b ≤ 9999 ∧ p ≤ 99 ∧ x = some (-1, S') ∧ m = some (1, bd_pA (bd_pA (bd_pA (bd_pA M' 2 c (nI l)) 3 c (nI b)) 4 c (nI p)) 12 c (-1)) ∧ bd_I S' 12 = bd_I S 12 ∧ bd_I S' 13 = nI b ∧ bd_I S' 14 = nI p ∧ kp S S' [11, 13, 14] [] [] ∧ kp M M' [1] [] []
theorem both_tail {S M : bd_T} {n c : Nat} {y : Nat → Nat} (hX : tpX S n y) (hM : tpM M n y) (hn : n ≤ 20) (hy : ∀ i, i < n → y i < 256) (h11 : bd_I S 11 = 0) (h1 : bd_I M 1 = 0) (hc : c < 6) (h2 : bd_I M 2 = nI c) (l : Nat) : endF S M (ctail S) (rtail (nI l) M) ∨ endG c l S M (ctail S) (rtail (nI l) M) := by
  have k1 := kp_pI S 11 1
  have j1 := kp_pI M 1 1
  obtain ⟨k, S2, e2, o2, k2, i2⟩ := px_readNumber (most := 4) (p := 1) (tpX_kp k1 (by decide) hX) (by show (1 : Int32) = nI 1; rfl) hn hy (by omega) (by omega)
  obtain ⟨k', M2, g2, o2', j2, m2⟩ := pm_number (most := 4) (p := 1) (tpM_kp j1 (by decide) hM) (by show (1 : Int32) = nI 1; rfl) hn hy (by omega) (by omega) (by omega)
  have ek := kOK_one o2 o2'
  subst ek
  have e2 : f_X6_readNumber 4 (bd_pI S 11 1) = _ := e2
  have g2 : f_X10_number 4 (bd_pI M 1 1) = _ := g2
  unfold ctail rtail
  rw [pz_si, h11, show (0 : Int32) + 1 = 1 from rfl, e2, pz_b2, pz_si, pz_II, if_pos rfl, pz_si, h1, show (0 : Int32) + 1 = 1 from rfl, g2, pz_b2]
  have hk4 := o2.1
  by_cases c0 : k = 0
  · rw [if_pos c0, if_pos (show (-1 : Int32) < 0 by decide), if_pos (show (-1 : Int32) < 0 by decide)]
    refine Or.inl ⟨1 + k, bd_pI S2 13 (-1), M2, by omega, ?_, rfl, m2, (k1.mono (by decide) (by decide) (by decide)).trans ((k2.mono (by decide) (by decide) (by decide)).trans ((kp_pI S2 13 (-1)).mono (by decide) (by decide) (by decide))), j1.trans j2⟩
    rw [pz_II, if_neg (by decide), i2]
  · have hv := dval_lt k o2.2.1
    have hv4 : 10 ^ k ≤ 10000 := Nat.le_trans (Nat.pow_le_pow_right (by omega) hk4) (by decide)
    have np : ¬ nI (dval y 1 k) < (0 : Int32) := npos0 (by omega)
    rw [if_neg c0, if_neg np, if_neg np]
    have k3 := kp_pI S2 13 (nI (dval y 1 k))
    have hX3 : tpX (bd_pI S2 13 (nI (dval y 1 k))) n y := tpX_kp k3 (by decide) (tpX_kp k2 (by decide) (tpX_kp k1 (by decide) hX))
    have hM3 : tpM M2 n y := tpM_kp j2 (by decide) (tpM_kp j1 (by decide) hM)
    rw [px_byteHere (p := 1 + k) hX3 i2 hn (by omega), pz_b2, pm_sign hM3 m2 hn (by omega), pz_b2]
    have K3 : kp S (bd_pI S2 13 (nI (dval y 1 k))) [11, 13, 14] [] [] := (k1.mono (by decide) (by decide) (by decide)).trans ((k2.mono (by decide) (by decide) (by decide)).trans (k3.mono (by decide) (by decide) (by decide)))
    by_cases d : bt n y (1 + k) = 44
    · rw [if_pos d, if_pos d, pz_si, pz_II, if_neg (by decide), i2, nI_1, pz_si, m2, nI_1]
      have k4 := kp_pI (bd_pI S2 13 (nI (dval y 1 k))) 11 (nI (1 + k + 1))
      have j4 := kp_pI M2 1 (nI (1 + k + 1))
      obtain ⟨q, S5, e5, o5, k5, i5⟩ := px_readNumber (most := 2) (p := 1 + k + 1) (tpX_kp k4 (by decide) hX3) (by rw [pz_II, if_pos rfl]) hn hy (by omega) (by omega)
      obtain ⟨q', M5, g5, o5', j5, m5⟩ := pm_number (most := 2) (p := 1 + k + 1) (tpM_kp j4 (by decide) hM3) (by rw [pz_II, if_pos rfl]) hn hy (by omega) (by omega) (by omega)
      have eq := kOK_one o5 o5'
      subst eq
      have e5 : f_X6_readNumber 2 _ = _ := e5
      have g5 : f_X10_number 2 _ = _ := g5
      rw [e5, pz_b2, pz_si, pz_II, if_pos rfl, g5, pz_b2]
      have hq2 := o5.1
      have hX5 : tpX S5 n y := tpX_kp k5 (by decide) (tpX_kp k4 (by decide) hX3)
      have hM5 : tpM M5 n y := tpM_kp j5 (by decide) (tpM_kp j4 (by decide) hM3)
      have J5 : kp M M5 [1] [] [] := (j1.trans j2).trans (j4.trans j5)
      have K6 : ∀ v, kp S (bd_pI S5 14 v) [11, 13, 14] [] [] := fun v => K3.trans ((k4.mono (by decide) (by decide) (by decide)).trans ((k5.mono (by decide) (by decide) (by decide)).trans ((kp_pI _ _ _).mono (by decide) (by decide) (by decide))))
      by_cases c5 : q = 0
      · rw [if_pos c5, if_pos (show (-1 : Int32) < 0 by decide), if_pos (show (-1 : Int32) < 0 by decide)]
        refine Or.inl ⟨1 + k + 1 + q, bd_pI S5 14 (-1), M5, by omega, ?_, rfl, m5, (K6 (-1)).mono (by decide) (by decide) (by decide), J5⟩
        rw [pz_II, if_neg (by decide), i5]
      · have hw := dval_lt q o5.2.1
        have hw2 : 10 ^ q ≤ 100 := Nat.le_trans (Nat.pow_le_pow_right (by omega) hq2) (by decide)
        have nq : ¬ nI (dval y (1 + k + 1) q) < (0 : Int32) := npos0 (by omega)
        rw [if_neg c5, if_neg nq, if_neg nq, pz_II, if_neg (show ¬ (10 : Nat) = 14 by decide), pz_II, if_neg (show ¬ (11 : Nat) = 14 by decide), hX5.1, i5, hM5.1, m5]
        by_cases f : n ≤ 1 + k + 1 + q
        · have f' := nI_le f (show 1 + k + 1 + q < 2 ^ 31 by omega)
          have i52 : bd_I M5 2 = nI c := by rw [J5.1 2 (by decide)]; exact h2
          rw [if_pos f', if_pos f', i52, pz_sa hc (by decide), pz_some, pz_IA, i52, pz_sa hc (by decide), pz_some, pz_IA, pz_IA, i52, pz_sa hc (by decide), pz_some, pz_IA, pz_IA, pz_IA, i52, pz_sa hc (by decide), pz_some]
          refine Or.inr ⟨dval y 1 k, dval y (1 + k + 1) q, bd_pI S5 14 (nI (dval y (1 + k + 1) q)), M5, by omega, by omega, rfl, rfl, (K6 (nI (dval y (1 + k + 1) q))).1 12 (by decide), ?_, rfl, K6 (nI (dval y (1 + k + 1) q)), J5⟩
          rw [pz_II, if_neg (by decide), k5.1 13 (by decide), pz_II, if_neg (by decide), pz_II, if_pos rfl]
        · have f' : ¬ nI n ≤ nI (1 + k + 1 + q) := nI_ge (by omega) (by omega)
          rw [if_neg f', if_neg f']
          exact Or.inl ⟨1 + k + 1 + q, bd_pI S5 14 (nI (dval y (1 + k + 1) q)), M5, by omega, rfl, rfl, m5, (K6 (nI (dval y (1 + k + 1) q))).mono (by decide) (by decide) (by decide), J5⟩
    · rw [if_neg d, if_neg d]
      refine Or.inl ⟨1 + k, _, M2, by omega, ?_, rfl, m2, K3.mono (by decide) (by decide) (by decide), j1.trans j2⟩
      rw [pz_II, if_neg (by decide), i2]
theorem both_read {S M : bd_T} {n c : Nat} {y : Nat → Nat} (hX : tpX S n y) (hM : tpM M n y) (hn : n ≤ 20) (hy : ∀ i, i < n → y i < 256) (hc : c < 6) (h2 : bd_I M 2 = nI c) : endF S M (f_X6_read S) (f_X10_reads M) ∨ ∃ l, l ≤ 5 ∧ ∃ b p S' M', b ≤ 9999 ∧ p ≤ 99 ∧ f_X6_read S = some (-1, S') ∧ f_X10_reads M = some (1, bd_pA (bd_pA (bd_pA (bd_pA M' 2 c (nI l)) 3 c (nI b)) 4 c (nI p)) 12 c (-1)) ∧ bd_I S' 12 = nI l ∧ bd_I S' 13 = nI b ∧ bd_I S' 14 = nI p ∧ kp S S' [11, 12, 13, 14] [] [] ∧ kp M M' [1] [] [] := by
  have k1 := kp_pI S 11 0
  have j1 := kp_pI M 1 0
  have hX1 := tpX_kp k1 (by decide) hX
  have hM1 := tpM_kp j1 (by decide) hM
  rw [read_eq, reads_eq, pz_si, pz_si, px_byteHere (p := 0) hX1 rfl hn (by omega), pz_b2, pm_sign (p := 0) hM1 rfl hn (by omega), pz_b2]
  -- no letter
  have none_ : ∀ v : Int32, v < 0 → bt n y 0 = bt n y 0 → endF S M (if 0 ≤ v then ctail (bd_pI (bd_pI S 11 0) 12 v) else some (bd_I (bd_pI (bd_pI S 11 0) 12 v) 11, bd_pI (bd_pI S 11 0) 12 v)) (some ((0 : Int32), bd_pI M 1 0)) := fun v hv _ => by
    rw [if_neg (Int32.not_le.mpr hv)]
    exact ⟨0, _, _, by omega, rfl, rfl, rfl, (k1.mono (by decide) (by decide) (by decide)).trans ((kp_pI _ _ _).mono (by decide) (by decide) (by decide)), j1⟩
  have some_ : ∀ l, l ≤ 5 → endF S M (if (0 : Int32) ≤ nI l then ctail (bd_pI (bd_pI S 11 0) 12 (nI l)) else some (bd_I (bd_pI (bd_pI S 11 0) 12 (nI l)) 11, bd_pI (bd_pI S 11 0) 12 (nI l))) (rtail (nI l) (bd_pI M 1 0)) ∨ ∃ l', l' ≤ 5 ∧ ∃ b p S' M', b ≤ 9999 ∧ p ≤ 99 ∧ (if (0 : Int32) ≤ nI l then ctail (bd_pI (bd_pI S 11 0) 12 (nI l)) else some (bd_I (bd_pI (bd_pI S 11 0) 12 (nI l)) 11, bd_pI (bd_pI S 11 0) 12 (nI l))) = some (-1, S') ∧ rtail (nI l) (bd_pI M 1 0) = some (1, bd_pA (bd_pA (bd_pA (bd_pA M' 2 c (nI l')) 3 c (nI b)) 4 c (nI p)) 12 c (-1)) ∧ bd_I S' 12 = nI l' ∧ bd_I S' 13 = nI b ∧ bd_I S' 14 = nI p ∧ kp S S' [11, 12, 13, 14] [] [] ∧ kp M M' [1] [] [] := fun l hl => by
    rw [if_pos (pos0 (n := l) (by omega))]
    have k2 := kp_pI (bd_pI S 11 0) 12 (nI l)
    rcases both_tail (S := bd_pI (bd_pI S 11 0) 12 (nI l)) (M := bd_pI M 1 0) (tpX_kp k2 (by decide) hX1) hM1 hn hy rfl rfl hc h2 l with ⟨q, S', M', a1, a2, a3, a4, a5, a6⟩ | ⟨b, p, S', M', a1, a2, a3, a4, a5, a6, a7, a8, a9⟩
    · exact Or.inl ⟨q, S', M', a1, a2, a3, a4, (k1.mono (by decide) (by decide) (by decide)).trans ((k2.mono (by decide) (by decide) (by decide)).trans a5), j1.trans a6⟩
    · exact Or.inr ⟨l, hl, b, p, S', M', a1, a2, a3, a4, a5, a6, a7, (k1.mono (by decide) (by decide) (by decide)).trans ((k2.mono (by decide) (by decide) (by decide)).trans (a8.mono (by decide) (by decide) (by decide))), j1.trans a9⟩
  by_cases c0 : n ≤ 0
  · have e : bt n y 0 = -1 := if_pos c0
    rw [e, law_neg, pz_b2, pz_si, pz_II, if_pos rfl, if_neg (show ¬ (-1 : Int32) = 101 by decide), if_neg (show ¬ (-1 : Int32) = 116 by decide), if_neg (show ¬ (-1 : Int32) = 115 by decide), if_neg (show ¬ (-1 : Int32) = 119 by decide), if_neg (show ¬ (-1 : Int32) = 100 by decide), if_neg (show ¬ (-1 : Int32) = 107 by decide)]
    exact Or.inl (none_ (-1) (by decide) rfl)
  · have hv := hy 0 (by omega)
    have e : bt n y 0 = nI (y 0) := if_neg c0
    have q : ∀ a, a < 256 → ((nI (y 0) = nI a) ↔ y 0 = a) := fun a ha => nI_eq (by omega) (by omega)
    rw [e, px_lawOf _ hv, pz_b2, pz_si, pz_II, if_pos rfl]
    unfold lcI lcode
    by_cases d1 : y 0 = 101
    · rw [if_pos d1, if_pos (show nI (y 0) = (101 : Int32) from (q 101 (by omega)).mpr d1)]
      exact some_ 0 (by omega)
    · rw [if_neg d1, if_neg (show ¬ nI (y 0) = (101 : Int32) from fun z => d1 ((q 101 (by omega)).mp z))]
      by_cases d2 : y 0 = 116
      · rw [if_pos d2, if_pos (show nI (y 0) = (116 : Int32) from (q 116 (by omega)).mpr d2)]
        exact some_ 1 (by omega)
      · rw [if_neg d2, if_neg (show ¬ nI (y 0) = (116 : Int32) from fun z => d2 ((q 116 (by omega)).mp z))]
        by_cases d3 : y 0 = 115
        · rw [if_pos d3, if_pos (show nI (y 0) = (115 : Int32) from (q 115 (by omega)).mpr d3)]
          exact some_ 2 (by omega)
        · rw [if_neg d3, if_neg (show ¬ nI (y 0) = (115 : Int32) from fun z => d3 ((q 115 (by omega)).mp z))]
          by_cases d4 : y 0 = 119
          · rw [if_pos d4, if_pos (show nI (y 0) = (119 : Int32) from (q 119 (by omega)).mpr d4)]
            exact some_ 3 (by omega)
          · rw [if_neg d4, if_neg (show ¬ nI (y 0) = (119 : Int32) from fun z => d4 ((q 119 (by omega)).mp z))]
            by_cases d5 : y 0 = 100
            · rw [if_pos d5, if_pos (show nI (y 0) = (100 : Int32) from (q 100 (by omega)).mpr d5)]
              exact some_ 4 (by omega)
            · rw [if_neg d5, if_neg (show ¬ nI (y 0) = (100 : Int32) from fun z => d5 ((q 100 (by omega)).mp z))]
              by_cases d6 : y 0 = 107
              · rw [if_pos d6, if_pos (show nI (y 0) = (107 : Int32) from (q 107 (by omega)).mpr d6)]
                exact some_ 5 (by omega)
              · rw [if_neg d6, if_neg (show ¬ nI (y 0) = (107 : Int32) from fun z => d6 ((q 107 (by omega)).mp z))]
                exact Or.inl (none_ (-1) (by decide) rfl)
/-- a world with one THING more -/
def wT (w : bw) (l b p : Nat) : bw := fun c i => if c = 0 then (if i = 0 then w 0 0 + 1 else w 0 i) else if c = 1 then (if i = w 0 0 then l else w 1 i) else if c = 2 then (if i = w 0 0 then b else w 2 i) else if c = 3 then (if i = w 0 0 then p else w 3 i) else if c = 4 then (if i = w 0 0 then 0 else w 4 i) else if c = 5 then (if i = w 0 0 then 0 else w 5 i) else if c = 6 then (if i = w 0 0 then 0 else w 6 i) else w c i
theorem RpT_ys {S M : bd_T} (h : RpT S M) : ∃ n y, n ≤ 20 ∧ tpX S n y ∧ tpM M n y ∧ ∀ i, i < n → y i < 256 := by
  obtain ⟨n, h1, h2, h3, h4⟩ := h
  refine ⟨n, fun i => (bd_A S 8 i).toInt.toNat, h1, ⟨h2, fun i hi => ?_⟩, ⟨h3, fun i hi => ?_⟩, fun i hi => ?_⟩
  · obtain ⟨y, y1, y2, y3⟩ := h4 i hi
    show _ = nI ((bd_A S 8 i).toInt.toNat)
    rw [y2, nI_toInt (by omega)]; rfl
  · obtain ⟨y, y1, y2, y3⟩ := h4 i hi
    show _ = nI ((bd_A S 8 i).toInt.toNat)
    rw [y2, y3, nI_toInt (by omega)]; rfl
  · obtain ⟨y, y1, y2, y3⟩ := h4 i hi
    show (bd_A S 8 i).toInt.toNat < 256
    rw [y2, nI_toInt (by omega)]; exact y1
theorem r_thing : rel_thing RR := by
  intro S M h
  unfold f_X9_thing f_X10_thing
  obtain ⟨⟨p1, p2, p3, p4⟩, w, hf, hX, hM, hc, hm, hpre⟩ := id h
  have i17 : bd_I S 17 = nI (w 0 0) := hX.2.2.2.1
  have i2 : bd_I M 2 = nI (w 0 0) := hM.2.2.2.1
  have h66 := hf.1.1
  rw [i17, i2]
  by_cases c6 : w 0 0 = 6
  · rw [if_neg (show ¬ nI (w 0 0) < (6 : Int32) by rw [c6]; decide), if_pos (show nI (w 0 0) = (6 : Int32) by rw [c6]; rfl)]
    exact RR_no' h (n := 5) (x := -6) rfl (by omega)
  · have hlt : w 0 0 < 6 := by omega
    rw [if_pos (show nI (w 0 0) < (6 : Int32) from nI_lt (b := 6) hlt (by omega)), if_neg (show ¬ nI (w 0 0) = (6 : Int32) from fun z => c6 ((nI_eq (b := 6) (by omega) (by omega)).mp z))]
    obtain ⟨n, y, hn, tX, tM, hy⟩ := RpT_ys p1
    rcases both_read tX tM hn hy hlt i2 with ⟨q, S', M', a1, a2, a3, a4, a5, a6⟩ | ⟨l, hl, b, p, S', M', a1, a2, a3, a4, b1, b2, b3, a8, a9⟩
    · rw [a2, a3, pz_b2, pz_b2, pz_si, pz_si, if_neg (npos0 a1), if_pos (show (0 : Int32) = 0 from rfl), pz_II, if_neg (by decide), a4]
      have K : kp S (bd_pI S' 10 0) [10, 11, 12, 13, 14] [] [] := (a5.mono (by decide) (by decide) (by decide)).trans ((kp_pI _ _ _).mono (by decide) (by decide) (by decide))
      have J : kp M (bd_pI M' 0 0) [0, 1] [] [] := (a6.mono (by decide) (by decide) (by decide)).trans ((kp_pI _ _ _).mono (by decide) (by decide) (by decide))
      exact ⟨_, _, _, rfl, rfl, ⟨⟨0, by omega, rfl, rfl, fun i hi => by omega⟩, RpR_kp K J (by decide) p2, RpF_kp K J (by decide) p3, RpP_kp K J (by decide) p4⟩, w, hf, wX_kp K (by decide) (by decide) hX, wM_kp J (by decide) (by decide) hM, cX'_kp K (by decide) hc, cM'_kp J (by decide) hm, preC_kp K (by decide) hpre⟩
    · have i17' : bd_I S' 17 = nI (w 0 0) := by rw [a8.1 17 (by decide)]; exact i17
      have i2' : bd_I M' 2 = nI (w 0 0) := by rw [a9.1 2 (by decide)]; exact i2
      rw [a3, a4, pz_b2, pz_b2, pz_si, if_pos (show (-1 : Int32) < 0 by decide), pz_si, if_neg (show ¬ (1 : Int32) = 0 by decide)]
      unfold f_X7_add f_X7_tie
      have j12 : bd_I (bd_pI S' 10 0) 12 = nI l := b1
      have j13 : bd_I (bd_pI S' 10 0) 13 = nI b := b2
      have j14 : bd_I (bd_pI S' 10 0) 14 = nI p := b3
      have j17 : bd_I (bd_pI S' 10 0) 17 = nI (w 0 0) := i17'
      rw [j12, j13, j14, j17, pz_lay (k := 11) (show w 0 0 < 6 from hlt) (by decide), pz_b2, pz_IA, j17, pz_lay (k := 12) (show w 0 0 < 6 from hlt) (by decide), pz_b2, pz_IA, pz_IA, j17, pz_lay (k := 13) (show w 0 0 < 6 from hlt) (by decide), pz_b2, pz_IA, pz_IA, pz_IA, j17, pz_lay (k := 14) (show w 0 0 < 6 from hlt) (by decide), pz_b2, pz_lay (k := 15) (show w 0 0 < 6 from hlt) (by decide), pz_b2, pz_lay (k := 16) (show w 0 0 < 6 from hlt) (by decide), pz_b2, pz_b2, pz_IA, pz_IA, pz_IA, pz_IA, pz_IA, pz_IA, j17, pz_si, nI_1, pz_II, if_pos rfl, nI_pred, pz_b2]
      rw [pz_si, pz_II, if_neg (show ¬ (2 : Nat) = 0 by decide), pz_IA, pz_IA, pz_IA, pz_IA, i2', nI_1, pz_si, pz_II, if_neg (show ¬ (2 : Nat) = 7 by decide), pz_II, if_pos rfl, nI_pred]
      have K : kp S (bd_pI (bd_pA (bd_pA (bd_pA (bd_pA (bd_pA (bd_pA (bd_pI S' 10 0) 11 (w 0 0) (nI l)) 12 (w 0 0) (nI b)) 13 (w 0 0) (nI p)) 14 (w 0 0) (-1)) 15 (w 0 0) 0) 16 (w 0 0) 0) 17 (nI (w 0 0 + 1))) [10, 11, 12, 13, 14, 17] [11, 12, 13, 14, 15, 16] [] := (a8.mono (by decide) (by decide) (by decide)).trans (((kp_pI _ _ _).mono (by decide) (by decide) (by decide)).trans (((kp_pA _ _ _ _).mono (by decide) (by decide) (by decide)).trans (((kp_pA _ _ _ _).mono (by decide) (by decide) (by decide)).trans (((kp_pA _ _ _ _).mono (by decide) (by decide) (by decide)).trans (((kp_pA _ _ _ _).mono (by decide) (by decide) (by decide)).trans (((kp_pA _ _ _ _).mono (by decide) (by decide) (by decide)).trans (((kp_pA _ _ _ _).mono (by decide) (by decide) (by decide)).trans ((kp_pI _ _ _).mono (by decide) (by decide) (by decide)))))))))
      have J : kp M (bd_pI (bd_pI (bd_pI (bd_pA (bd_pA (bd_pA (bd_pA M' 2 (w 0 0) (nI l)) 3 (w 0 0) (nI b)) 4 (w 0 0) (nI p)) 12 (w 0 0) (-1)) 0 0) 2 (nI (w 0 0 + 1))) 7 1) [0, 1, 2, 7] [2, 3, 4, 12] [] := (a9.mono (by decide) (by decide) (by decide)).trans (((kp_pA _ _ _ _).mono (by decide) (by decide) (by decide)).trans (((kp_pA _ _ _ _).mono (by decide) (by decide) (by decide)).trans (((kp_pA _ _ _ _).mono (by decide) (by decide) (by decide)).trans (((kp_pA _ _ _ _).mono (by decide) (by decide) (by decide)).trans (((kp_pI _ _ _).mono (by decide) (by decide) (by decide)).trans (((kp_pI _ _ _).mono (by decide) (by decide) (by decide)).trans ((kp_pI _ _ _).mono (by decide) (by decide) (by decide))))))))
      have n1 : ∀ i, wT w l b p 1 i = if i = w 0 0 then l else w 1 i := fun i => rfl
      have n2 : ∀ i, wT w l b p 2 i = if i = w 0 0 then b else w 2 i := fun i => rfl
      have n3 : ∀ i, wT w l b p 3 i = if i = w 0 0 then p else w 3 i := fun i => rfl
      have n4 : ∀ i, wT w l b p 4 i = if i = w 0 0 then 0 else w 4 i := fun i => rfl
      have n5 : ∀ i, wT w l b p 5 i = if i = w 0 0 then 0 else w 5 i := fun i => rfl
      have n6 : ∀ i, wT w l b p 6 i = if i = w 0 0 then 0 else w 6 i := fun i => rfl
      have hlt1 : ∀ i, i < w 0 0 + 1 → i ≠ w 0 0 → i < w 0 0 := fun i hi z => by omega
      have hs : sameL w (wT w l b p) := ⟨fun i h1 h2 => by
        show (if i = 0 then w 0 0 + 1 else w 0 i) = _
        rw [if_neg (by omega)], fun k hk => by
        have h9 := (hf.2.2.2.2 k hk).1
        refine ⟨rfl, rfl, rfl, rfl, ?_, ?_, ?_⟩
        · rw [n1, if_neg (by omega)]
        · rw [n2, if_neg (by omega)]
        · rw [n3, if_neg (by omega)]⟩
      have hX' : wX S' w := wX_kp a8 (by decide) (by decide) hX
      have hM' : wM M' w := wM_kp a9 (by decide) (by decide) hM
      refine ⟨_, _, _, rfl, rfl, ⟨⟨0, by omega, rfl, rfl, fun i hi => by omega⟩, RpR_kp K J (by decide) p2, RpF_kp K J (by decide) p3, RpP_kp K J (by decide) p4⟩, wT w l b p, ⟨⟨hlt, hf.1.2⟩, hf.2.1, hf.2.2.1, fun i hi => ?_, fun k hk => ⟨Nat.lt_succ_of_lt (hf.2.2.2.2 k hk).1, (hf.2.2.2.2 k hk).2⟩⟩, ⟨hX'.1, hX'.2.1, hX'.2.2.1, rfl, hX'.2.2.2.2.1, hX'.2.2.2.2.2.1, hX'.2.2.2.2.2.2.1, fun i hi => ?_, hX'.2.2.2.2.2.2.2.2⟩, ⟨hM'.1, hM'.2.1, hM'.2.2.1, rfl, hM'.2.2.2.2.1, hM'.2.2.2.2.2.1, fun i hi => ?_, hM'.2.2.2.2.2.2.2⟩, cX'_w hs (Nat.le_refl _) (cX'_kp K (by decide) hc), Or.inl rfl, preC_kp K (by decide) hpre⟩
      · rw [n1, n2, n3, n4, n5, n6]
        by_cases z : i = w 0 0
        · rw [if_pos z, if_pos z, if_pos z, if_pos z, if_pos z, if_pos z]; exact ⟨hl, a1, a2, Nat.zero_le _, Nat.zero_le _, Nat.zero_le _⟩
        · rw [if_neg z, if_neg z, if_neg z, if_neg z, if_neg z, if_neg z]; exact hf.2.2.2.1 i (hlt1 i hi z)
      · rw [n1, n2, n3, n4, n5, n6]
        show upd (bd_A S' 11) (w 0 0) (nI l) i = _ ∧ upd (bd_A S' 12) (w 0 0) (nI b) i = _ ∧ upd (bd_A S' 13) (w 0 0) (nI p) i = _ ∧ upd (bd_A S' 14) (w 0 0) (-1) i = _ ∧ upd (bd_A S' 15) (w 0 0) 0 i = _ ∧ upd (bd_A S' 16) (w 0 0) 0 i = _
        rw [pz_up, pz_up, pz_up, pz_up, pz_up, pz_up]
        by_cases z : i = w 0 0
        · rw [if_pos z, if_pos z, if_pos z, if_pos z, if_pos z, if_pos z, if_pos z, if_pos z, if_pos z, if_pos z, if_pos z, if_pos z]; exact ⟨rfl, rfl, rfl, rfl, rfl, rfl⟩
        · simp only [if_neg z]; exact hX'.2.2.2.2.2.2.2.1 i (hlt1 i hi z)
      · rw [n1, n2, n3, n4, n5, n6]
        show upd (bd_A M' 2) (w 0 0) (nI l) i = _ ∧ upd (bd_A M' 3) (w 0 0) (nI b) i = _ ∧ upd (bd_A M' 4) (w 0 0) (nI p) i = _ ∧ upd (bd_A M' 12) (w 0 0) (-1) i = _ ∧ _
        rw [pz_up, pz_up, pz_up, pz_up]
        by_cases z : i = w 0 0
        · rw [if_pos z, if_pos z, if_pos z, if_pos z, if_pos z, if_pos z, if_pos z, if_pos z]; exact ⟨rfl, rfl, rfl, rfl, fun y => absurd rfl y⟩
        · simp only [if_neg z]; exact hM'.2.2.2.2.2.2.1 i (hlt1 i hi z)
