/-! image, on -/
def rlen (c : Nat) : Nat := if c < 2 then 4 else if c < 8 then 6 else 10
theorem wXg_move {I I' : Nat → Int32} {A A' : Nat → Nat → Int32} {w : bw} (hf : wF w) (hI : ∀ j, j < 7 → I' j = I j) (hA : ∀ c i, c < 12 → i < rlen c → A' c i = A c i) (h : wXg I A w) : wXg I' A' w := by
  obtain ⟨b1, b2, b3, b4, b5, b6, b7, b8, b9⟩ := h
  have h5 := hf.1.2.2.2.1
  have h0 := hf.1.1
  have h6 := hf.1.2.2.2.2
  unfold wXg
  rw [hI 0 (by decide), hI 1 (by decide), hI 2 (by decide), hI 3 (by decide), hI 4 (by decide), hI 5 (by decide), hI 6 (by decide)]
  refine ⟨b1, b2, b3, b4, b5, b6, fun i hi => ?_, fun i hi => ?_, fun i hi => ?_⟩
  · rw [hA 0 i (by decide) (show i < 4 by omega), hA 1 i (by decide) (show i < 4 by omega)]; exact b7 i hi
  · rw [hA 2 i (by decide) (show i < 6 by omega), hA 3 i (by decide) (show i < 6 by omega), hA 4 i (by decide) (show i < 6 by omega), hA 5 i (by decide) (show i < 6 by omega), hA 6 i (by decide) (show i < 6 by omega), hA 7 i (by decide) (show i < 6 by omega)]; exact b8 i hi
  · rw [hA 8 i (by decide) (show i < 10 by omega), hA 9 i (by decide) (show i < 10 by omega), hA 10 i (by decide) (show i < 10 by omega), hA 11 i (by decide) (show i < 10 by omega)]; exact b9 i hi
theorem wMg_move {I I' : Nat → Int32} {A A' : Nat → Nat → Int32} {w : bw} (hf : wF w) (hI : ∀ j, j < 6 → I' j = I j) (hA : ∀ c i, c < 13 → i < rlen c → A' c i = A c i) (h : wMg I A w) : wMg I' A' w := by
  obtain ⟨b1, b2, b3, b4, b5, b7, b8, b9⟩ := h
  have h5 := hf.1.2.2.2.1
  have h0 := hf.1.1
  have h6 := hf.1.2.2.2.2
  unfold wMg
  rw [hI 0 (by decide), hI 1 (by decide), hI 2 (by decide), hI 3 (by decide), hI 4 (by decide), hI 5 (by decide)]
  refine ⟨b1, b2, b3, b4, b5, fun i hi => ?_, fun i hi => ?_, fun i hi => ?_⟩
  · rw [hA 0 i (by decide) (show i < 4 by omega), hA 1 i (by decide) (show i < 4 by omega)]; exact b7 i hi
  · rw [hA 2 i (by decide) (show i < 6 by omega), hA 3 i (by decide) (show i < 6 by omega), hA 4 i (by decide) (show i < 6 by omega), hA 5 i (by decide) (show i < 6 by omega), hA 6 i (by decide) (show i < 6 by omega), hA 7 i (by decide) (show i < 6 by omega)]; exact b8 i hi
  · rw [hA 8 i (by decide) (show i < 10 by omega), hA 9 i (by decide) (show i < 10 by omega), hA 10 i (by decide) (show i < 10 by omega), hA 11 i (by decide) (show i < 10 by omega), hA 12 i (by decide) (show i < 10 by omega)]; exact b9 i hi
/-- a row copied -/
def cpr (S : bd_T) (k0 k1 n : Nat) : bd_T := (S.1, fun j => if j = k1 then (fun i => if i < n then S.2.1 k0 i else S.2.1 k1 i) else S.2.1 j, S.2.2)
theorem cpr_0 (S : bd_T) (k0 k1 : Nat) : cpr S k0 k1 0 = S := by
  refine Prod.ext rfl (Prod.ext (funext (fun j => ?_)) rfl)
  show (if j = k1 then (fun i => if i < 0 then S.2.1 k0 i else S.2.1 k1 i) else S.2.1 j) = S.2.1 j
  by_cases c : j = k1
  · rw [if_pos c, c]; funext i; rw [if_neg (Nat.not_lt_zero i)]
  · rw [if_neg c]
theorem cpr_s (S : bd_T) (k0 k1 n : Nat) : bd_pA (cpr S k0 k1 n) k1 n (bd_A S k0 n) = cpr S k0 k1 (n + 1) := by
  refine Prod.ext rfl (Prod.ext (funext (fun j => ?_)) rfl)
  show (if j = k1 then upd ((cpr S k0 k1 n).2.1 j) n (bd_A S k0 n) else (cpr S k0 k1 n).2.1 j) = (if j = k1 then (fun i => if i < n + 1 then S.2.1 k0 i else S.2.1 k1 i) else S.2.1 j)
  by_cases c : j = k1
  · rw [if_pos c, if_pos c]
    funext p
    rw [pz_up]
    have e : (cpr S k0 k1 n).2.1 j p = if p < n then S.2.1 k0 p else S.2.1 k1 p := by
      show (if j = k1 then (fun i => if i < n then S.2.1 k0 i else S.2.1 k1 i) else S.2.1 j) p = _
      rw [if_pos c]
    rw [e]
    by_cases z : p = n
    · rw [if_pos z, if_pos (by omega), z]; rfl
    · rw [if_neg z]
      by_cases y : p < n
      · rw [if_pos y, if_pos (by omega)]
      · rw [if_neg y, if_neg (by omega)]
  · rw [if_neg c, if_neg c]
    show (if j = k1 then (fun i => if i < n then S.2.1 k0 i else S.2.1 k1 i) else S.2.1 j) = _
    rw [if_neg c]
theorem cpr_at (S : bd_T) (k0 k1 n i : Nat) (h : i < n) : bd_A (cpr S k0 k1 n) k1 i = bd_A S k0 i := by
  show (if k1 = k1 then (fun i => if i < n then S.2.1 k0 i else S.2.1 k1 i) else S.2.1 k1) i = S.2.1 k0 i
  rw [if_pos rfl]
  show (if i < n then S.2.1 k0 i else S.2.1 k1 i) = _
  rw [if_pos h]
theorem cpr_ne (S : bd_T) (k0 k1 n j : Nat) (h : j ≠ k1) : bd_A (cpr S k0 k1 n) j = bd_A S j := if_neg h
theorem cpr_I (S : bd_T) (k0 k1 n : Nat) : bd_I (cpr S k0 k1 n) = bd_I S := rfl
theorem kp_cpr (S : bd_T) (k0 k1 n : Nat) : kp S (cpr S k0 k1 n) [] [k1] [] := ⟨fun _ _ => rfl, fun j h => if_neg (by simpa using h), fun _ _ => rfl⟩
theorem px_copy {k0 k1 L : Nat} {S : bd_T} (h : k0 ≠ k1) (h0 : cX_len k0 = L) (h1 : cX_len k1 = L) (hs : L < 20000) : f_X9_copyRow k0 k1 S = some ((), cpr S k0 k1 L) := by
  have e := pz_for (F := fun q : Int32 × bd_T => fb_X9_copyRow_2 k0 k1 q.1 q.2) (fun i => (nI i, cpr S k0 k1 i)) L (cpr S k0 k1 L) (fun i hi => by
    dsimp only
    unfold fb_X9_copyRow_2
    rw [h0, h1, pz_ofNat, if_neg (nI_ge hi (by omega)), if_neg (nI_ge hi (by omega)), pz_ga hi (by omega), pz_some, pz_sa hi (by omega), pz_some, cpr_ne S k0 k1 i k0 h, cpr_s, nI_1]) (by
    dsimp only
    unfold fb_X9_copyRow_2
    rw [h0, pz_ofNat, if_pos (Int32.le_refl _)]) bd_K (by rw [pz_K]; omega)
  rw [cpr_0] at e
  have e : bd_lp bd_K (fun q => fb_X9_copyRow_2 k0 k1 q.1 q.2) ((0 : Int32), S) = _ := e
  unfold f_X9_copyRow
  rw [e, pz_some]
theorem px_T7 (S : bd_T) : ∃ S', f_X7_take S = some ((), S') ∧ kp S S' [20] [21, 22, 23, 24, 25, 26] [] ∧ bd_I S' 20 = bd_I S 17 ∧ ∀ i, i < 6 → bd_A S' 21 i = bd_A S 11 i ∧ bd_A S' 22 i = bd_A S 12 i ∧ bd_A S' 23 i = bd_A S 13 i ∧ bd_A S' 24 i = bd_A S 14 i ∧ bd_A S' 25 i = bd_A S 15 i ∧ bd_A S' 26 i = bd_A S 16 i := by
  unfold f_X7_take
  rw [pz_si, px_copy (k0 := 11) (k1 := 21) (L := 6) (by decide) rfl rfl (by decide), pz_b2, px_copy (k0 := 12) (k1 := 22) (L := 6) (by decide) rfl rfl (by decide), pz_b2, px_copy (k0 := 13) (k1 := 23) (L := 6) (by decide) rfl rfl (by decide), pz_b2, px_copy (k0 := 14) (k1 := 24) (L := 6) (by decide) rfl rfl (by decide), pz_b2, px_copy (k0 := 15) (k1 := 25) (L := 6) (by decide) rfl rfl (by decide), pz_b2, px_copy (k0 := 16) (k1 := 26) (L := 6) (by decide) rfl rfl (by decide), pz_b2]
  refine ⟨_, rfl, ((kp_pI _ _ _).mono (by decide) (by decide) (by decide)).trans (((kp_cpr _ _ _ _).mono (by decide) (by decide) (by decide)).trans (((kp_cpr _ _ _ _).mono (by decide) (by decide) (by decide)).trans (((kp_cpr _ _ _ _).mono (by decide) (by decide) (by decide)).trans (((kp_cpr _ _ _ _).mono (by decide) (by decide) (by decide)).trans (((kp_cpr _ _ _ _).mono (by decide) (by decide) (by decide)).trans ((kp_cpr _ _ _ _).mono (by decide) (by decide) (by decide))))))), rfl, fun i hi => ⟨?_, ?_, ?_, ?_, ?_, ?_⟩⟩
  · rw [cpr_ne _ _ _ _ 21 (by decide), cpr_ne _ _ _ _ 21 (by decide), cpr_ne _ _ _ _ 21 (by decide), cpr_ne _ _ _ _ 21 (by decide), cpr_ne _ _ _ _ 21 (by decide), cpr_at _ _ _ _ _ hi]; rfl
  · rw [cpr_ne _ _ _ _ 22 (by decide), cpr_ne _ _ _ _ 22 (by decide), cpr_ne _ _ _ _ 22 (by decide), cpr_ne _ _ _ _ 22 (by decide), cpr_at _ _ _ _ _ hi, cpr_ne _ _ _ _ 12 (by decide)]; rfl
  · rw [cpr_ne _ _ _ _ 23 (by decide), cpr_ne _ _ _ _ 23 (by decide), cpr_ne _ _ _ _ 23 (by decide), cpr_at _ _ _ _ _ hi, cpr_ne _ _ _ _ 13 (by decide), cpr_ne _ _ _ _ 13 (by decide)]; rfl
  · rw [cpr_ne _ _ _ _ 24 (by decide), cpr_ne _ _ _ _ 24 (by decide), cpr_at _ _ _ _ _ hi, cpr_ne _ _ _ _ 14 (by decide), cpr_ne _ _ _ _ 14 (by decide), cpr_ne _ _ _ _ 14 (by decide)]; rfl
  · rw [cpr_ne _ _ _ _ 25 (by decide), cpr_at _ _ _ _ _ hi, cpr_ne _ _ _ _ 15 (by decide), cpr_ne _ _ _ _ 15 (by decide), cpr_ne _ _ _ _ 15 (by decide), cpr_ne _ _ _ _ 15 (by decide)]; rfl
  · rw [cpr_at _ _ _ _ _ hi, cpr_ne _ _ _ _ 16 (by decide), cpr_ne _ _ _ _ 16 (by decide), cpr_ne _ _ _ _ 16 (by decide), cpr_ne _ _ _ _ 16 (by decide), cpr_ne _ _ _ _ 16 (by decide)]; rfl
theorem px_T4 (S : bd_T) : ∃ S', f_X4_take S = some ((), S') ∧ kp S S' [21, 22] [27, 28, 29, 30] [] ∧ bd_I S' 21 = bd_I S 18 ∧ bd_I S' 22 = bd_I S 19 ∧ ∀ i, i < 10 → bd_A S' 27 i = bd_A S 17 i ∧ bd_A S' 28 i = bd_A S 18 i ∧ bd_A S' 29 i = bd_A S 19 i ∧ bd_A S' 30 i = bd_A S 20 i := by
  unfold f_X4_take
  rw [pz_si, pz_si, px_copy (k0 := 17) (k1 := 27) (L := 10) (by decide) rfl rfl (by decide), pz_b2, px_copy (k0 := 18) (k1 := 28) (L := 10) (by decide) rfl rfl (by decide), pz_b2, px_copy (k0 := 19) (k1 := 29) (L := 10) (by decide) rfl rfl (by decide), pz_b2, px_copy (k0 := 20) (k1 := 30) (L := 10) (by decide) rfl rfl (by decide), pz_b2]
  refine ⟨_, rfl, ((kp_pI _ _ _).mono (by decide) (by decide) (by decide)).trans (((kp_pI _ _ _).mono (by decide) (by decide) (by decide)).trans (((kp_cpr _ _ _ _).mono (by decide) (by decide) (by decide)).trans (((kp_cpr _ _ _ _).mono (by decide) (by decide) (by decide)).trans (((kp_cpr _ _ _ _).mono (by decide) (by decide) (by decide)).trans ((kp_cpr _ _ _ _).mono (by decide) (by decide) (by decide)))))), rfl, rfl, fun i hi => ⟨?_, ?_, ?_, ?_⟩⟩
  · rw [cpr_ne _ _ _ _ 27 (by decide), cpr_ne _ _ _ _ 27 (by decide), cpr_ne _ _ _ _ 27 (by decide), cpr_at _ _ _ _ _ hi]; rfl
  · rw [cpr_ne _ _ _ _ 28 (by decide), cpr_ne _ _ _ _ 28 (by decide), cpr_at _ _ _ _ _ hi, cpr_ne _ _ _ _ 18 (by decide)]; rfl
  · rw [cpr_ne _ _ _ _ 29 (by decide), cpr_at _ _ _ _ _ hi, cpr_ne _ _ _ _ 19 (by decide), cpr_ne _ _ _ _ 19 (by decide)]; rfl
  · rw [cpr_at _ _ _ _ _ hi, cpr_ne _ _ _ _ 20 (by decide), cpr_ne _ _ _ _ 20 (by decide), cpr_ne _ _ _ _ 20 (by decide)]; rfl
theorem px_U7 (S : bd_T) : ∃ S', f_X7_take_b1 S = some ((), S') ∧ kp S S' [17] [11, 12, 13, 14, 15, 16] [] ∧ bd_I S' 17 = bd_I S 20 ∧ ∀ i, i < 6 → bd_A S' 11 i = bd_A S 21 i ∧ bd_A S' 12 i = bd_A S 22 i ∧ bd_A S' 13 i = bd_A S 23 i ∧ bd_A S' 14 i = bd_A S 24 i ∧ bd_A S' 15 i = bd_A S 25 i ∧ bd_A S' 16 i = bd_A S 26 i := by
  unfold f_X7_take_b1
  rw [pz_si, px_copy (k0 := 21) (k1 := 11) (L := 6) (by decide) rfl rfl (by decide), pz_b2, px_copy (k0 := 22) (k1 := 12) (L := 6) (by decide) rfl rfl (by decide), pz_b2, px_copy (k0 := 23) (k1 := 13) (L := 6) (by decide) rfl rfl (by decide), pz_b2, px_copy (k0 := 24) (k1 := 14) (L := 6) (by decide) rfl rfl (by decide), pz_b2, px_copy (k0 := 25) (k1 := 15) (L := 6) (by decide) rfl rfl (by decide), pz_b2, px_copy (k0 := 26) (k1 := 16) (L := 6) (by decide) rfl rfl (by decide), pz_b2]
  refine ⟨_, rfl, ((kp_pI _ _ _).mono (by decide) (by decide) (by decide)).trans (((kp_cpr _ _ _ _).mono (by decide) (by decide) (by decide)).trans (((kp_cpr _ _ _ _).mono (by decide) (by decide) (by decide)).trans (((kp_cpr _ _ _ _).mono (by decide) (by decide) (by decide)).trans (((kp_cpr _ _ _ _).mono (by decide) (by decide) (by decide)).trans (((kp_cpr _ _ _ _).mono (by decide) (by decide) (by decide)).trans ((kp_cpr _ _ _ _).mono (by decide) (by decide) (by decide))))))), rfl, fun i hi => ⟨?_, ?_, ?_, ?_, ?_, ?_⟩⟩
  · rw [cpr_ne _ _ _ _ 11 (by decide), cpr_ne _ _ _ _ 11 (by decide), cpr_ne _ _ _ _ 11 (by decide), cpr_ne _ _ _ _ 11 (by decide), cpr_ne _ _ _ _ 11 (by decide), cpr_at _ _ _ _ _ hi]; rfl
  · rw [cpr_ne _ _ _ _ 12 (by decide), cpr_ne _ _ _ _ 12 (by decide), cpr_ne _ _ _ _ 12 (by decide), cpr_ne _ _ _ _ 12 (by decide), cpr_at _ _ _ _ _ hi, cpr_ne _ _ _ _ 22 (by decide)]; rfl
  · rw [cpr_ne _ _ _ _ 13 (by decide), cpr_ne _ _ _ _ 13 (by decide), cpr_ne _ _ _ _ 13 (by decide), cpr_at _ _ _ _ _ hi, cpr_ne _ _ _ _ 23 (by decide), cpr_ne _ _ _ _ 23 (by decide)]; rfl
  · rw [cpr_ne _ _ _ _ 14 (by decide), cpr_ne _ _ _ _ 14 (by decide), cpr_at _ _ _ _ _ hi, cpr_ne _ _ _ _ 24 (by decide), cpr_ne _ _ _ _ 24 (by decide), cpr_ne _ _ _ _ 24 (by decide)]; rfl
  · rw [cpr_ne _ _ _ _ 15 (by decide), cpr_at _ _ _ _ _ hi, cpr_ne _ _ _ _ 25 (by decide), cpr_ne _ _ _ _ 25 (by decide), cpr_ne _ _ _ _ 25 (by decide), cpr_ne _ _ _ _ 25 (by decide)]; rfl
  · rw [cpr_at _ _ _ _ _ hi, cpr_ne _ _ _ _ 26 (by decide), cpr_ne _ _ _ _ 26 (by decide), cpr_ne _ _ _ _ 26 (by decide), cpr_ne _ _ _ _ 26 (by decide), cpr_ne _ _ _ _ 26 (by decide)]; rfl
theorem px_U4 (S : bd_T) : ∃ S', f_X4_take_b1 S = some ((), S') ∧ kp S S' [18, 19] [17, 18, 19, 20] [] ∧ bd_I S' 18 = bd_I S 21 ∧ bd_I S' 19 = bd_I S 22 ∧ ∀ i, i < 10 → bd_A S' 17 i = bd_A S 27 i ∧ bd_A S' 18 i = bd_A S 28 i ∧ bd_A S' 19 i = bd_A S 29 i ∧ bd_A S' 20 i = bd_A S 30 i := by
  unfold f_X4_take_b1
  rw [pz_si, pz_si, px_copy (k0 := 27) (k1 := 17) (L := 10) (by decide) rfl rfl (by decide), pz_b2, px_copy (k0 := 28) (k1 := 18) (L := 10) (by decide) rfl rfl (by decide), pz_b2, px_copy (k0 := 29) (k1 := 19) (L := 10) (by decide) rfl rfl (by decide), pz_b2, px_copy (k0 := 30) (k1 := 20) (L := 10) (by decide) rfl rfl (by decide), pz_b2]
  refine ⟨_, rfl, ((kp_pI _ _ _).mono (by decide) (by decide) (by decide)).trans (((kp_pI _ _ _).mono (by decide) (by decide) (by decide)).trans (((kp_cpr _ _ _ _).mono (by decide) (by decide) (by decide)).trans (((kp_cpr _ _ _ _).mono (by decide) (by decide) (by decide)).trans (((kp_cpr _ _ _ _).mono (by decide) (by decide) (by decide)).trans ((kp_cpr _ _ _ _).mono (by decide) (by decide) (by decide)))))), rfl, rfl, fun i hi => ⟨?_, ?_, ?_, ?_⟩⟩
  · rw [cpr_ne _ _ _ _ 17 (by decide), cpr_ne _ _ _ _ 17 (by decide), cpr_ne _ _ _ _ 17 (by decide), cpr_at _ _ _ _ _ hi]; rfl
  · rw [cpr_ne _ _ _ _ 18 (by decide), cpr_ne _ _ _ _ 18 (by decide), cpr_at _ _ _ _ _ hi, cpr_ne _ _ _ _ 28 (by decide)]; rfl
  · rw [cpr_ne _ _ _ _ 19 (by decide), cpr_at _ _ _ _ _ hi, cpr_ne _ _ _ _ 29 (by decide), cpr_ne _ _ _ _ 29 (by decide)]; rfl
  · rw [cpr_at _ _ _ _ _ hi, cpr_ne _ _ _ _ 30 (by decide), cpr_ne _ _ _ _ 30 (by decide), cpr_ne _ _ _ _ 30 (by decide)]; rfl
theorem px_take8 (S : bd_T) : ∃ S', f_X8_take S = some ((), S') ∧ kp S S' [6, 7, 8, 9, 20, 21, 22] [5, 6, 21, 22, 23, 24, 25, 26, 27, 28, 29, 30] [] ∧ (∀ j, j < 7 → ePI S' j = eXI S j) ∧ ∀ c i, c < 12 → i < rlen c → ePA S' c i = eXA S c i := by
  unfold f_X8_take f_X8_open_b1
  obtain ⟨S1, e1, k1, v1, r1⟩ := px_T7 S
  obtain ⟨S2, e2, k2, v2, v3, r2⟩ := px_T4 S1
  rw [e1, pz_b2, e2, pz_b2, pz_si, pz_si, pz_si, pz_b2, pz_si, px_copy (k0 := 2) (k1 := 5) (L := 4) (by decide) rfl rfl (by decide), pz_b2, px_copy (k0 := 3) (k1 := 6) (L := 4) (by decide) rfl rfl (by decide), pz_b2]
  have K3 : ∀ T : bd_T, kp S2 T [6, 7, 8, 9] [] [] → kp S (cpr (cpr T 2 5 4) 3 6 4) [6, 7, 8, 9, 20, 21, 22] [5, 6, 21, 22, 23, 24, 25, 26, 27, 28, 29, 30] [] := fun T kT => (k1.mono (by decide) (by decide) (by decide)).trans ((k2.mono (by decide) (by decide) (by decide)).trans ((kT.mono (by decide) (by decide) (by decide)).trans (((kp_cpr _ _ _ _).mono (by decide) (by decide) (by decide)).trans ((kp_cpr _ _ _ _).mono (by decide) (by decide) (by decide)))))
  have s2 : ∀ k, k ∉ [21, 22] → k ∉ [20] → bd_I S2 k = bd_I S k := fun k a b => by rw [k2.1 k a, k1.1 k b]
  have s2A : ∀ k, k ∉ [27, 28, 29, 30] → k ∉ [21, 22, 23, 24, 25, 26] → bd_A S2 k = bd_A S k := fun k a b => by rw [k2.2.1 k a, k1.2.1 k b]
  refine ⟨_, rfl, K3 _ (((kp_pI _ _ _).mono (by decide) (by decide) (by decide)).trans (((kp_pI _ _ _).mono (by decide) (by decide) (by decide)).trans (((kp_pI _ _ _).mono (by decide) (by decide) (by decide)).trans ((kp_pI _ _ _).mono (by decide) (by decide) (by decide))))), fun j hj => ?_, fun c i hc hi => ?_⟩
  · rcases (show j = 0 ∨ j = 1 ∨ j = 2 ∨ j = 3 ∨ j = 4 ∨ j = 5 ∨ j = 6 by omega) with rfl | rfl | rfl | rfl | rfl | rfl | rfl
    · show bd_I S2 2 = bd_I S 2
      exact s2 2 (by decide) (by decide)
    · show bd_I S2 3 = bd_I S 3
      exact s2 3 (by decide) (by decide)
    · show bd_I S2 4 = bd_I S 4
      exact s2 4 (by decide) (by decide)
    · show bd_I S2 5 = bd_I S 5
      exact s2 5 (by decide) (by decide)
    · show bd_I S2 20 = bd_I S 17
      rw [k2.1 20 (by decide)]; exact v1
    · show bd_I S2 21 = bd_I S 18
      rw [v2, k1.1 18 (by decide)]
    · show bd_I S2 22 = bd_I S 19
      rw [v3, k1.1 19 (by decide)]
  · rcases (show c = 0 ∨ c = 1 ∨ c = 2 ∨ c = 3 ∨ c = 4 ∨ c = 5 ∨ c = 6 ∨ c = 7 ∨ c = 8 ∨ c = 9 ∨ c = 10 ∨ c = 11 by omega) with rfl | rfl | rfl | rfl | rfl | rfl | rfl | rfl | rfl | rfl | rfl | rfl
    · have hi : i < 4 := hi
      show bd_A (cpr (cpr _ 2 5 4) 3 6 4) 5 i = bd_A S 2 i
      rw [cpr_ne _ _ _ _ 5 (by decide), cpr_at _ _ _ _ _ hi]
      exact congrFun (s2A 2 (by decide) (by decide)) i
    · have hi : i < 4 := hi
      show bd_A (cpr (cpr _ 2 5 4) 3 6 4) 6 i = bd_A S 3 i
      rw [cpr_at _ _ _ _ _ hi, cpr_ne _ _ _ _ 3 (by decide)]
      exact congrFun (s2A 3 (by decide) (by decide)) i
    · have hi : i < 6 := hi
      show bd_A S2 21 i = bd_A S 11 i
      rw [k2.2.1 21 (by decide)]; exact (r1 i hi).1
    · have hi : i < 6 := hi
      show bd_A S2 22 i = bd_A S 12 i
      rw [k2.2.1 22 (by decide)]; exact (r1 i hi).2.1
    · have hi : i < 6 := hi
      show bd_A S2 23 i = bd_A S 13 i
      rw [k2.2.1 23 (by decide)]; exact (r1 i hi).2.2.1
    · have hi : i < 6 := hi
      show bd_A S2 24 i = bd_A S 14 i
      rw [k2.2.1 24 (by decide)]; exact (r1 i hi).2.2.2.1
    · have hi : i < 6 := hi
      show bd_A S2 25 i = bd_A S 15 i
      rw [k2.2.1 25 (by decide)]; exact (r1 i hi).2.2.2.2.1
    · have hi : i < 6 := hi
      show bd_A S2 26 i = bd_A S 16 i
      rw [k2.2.1 26 (by decide)]; exact (r1 i hi).2.2.2.2.2
    · have hi : i < 10 := hi
      show bd_A S2 27 i = bd_A S 17 i
      rw [(r2 i hi).1, k1.2.1 17 (by decide)]
    · have hi : i < 10 := hi
      show bd_A S2 28 i = bd_A S 18 i
      rw [(r2 i hi).2.1, k1.2.1 18 (by decide)]
    · have hi : i < 10 := hi
      show bd_A S2 29 i = bd_A S 19 i
      rw [(r2 i hi).2.2.1, k1.2.1 19 (by decide)]
    · have hi : i < 10 := hi
      show bd_A S2 30 i = bd_A S 20 i
      rw [(r2 i hi).2.2.2, k1.2.1 20 (by decide)]
theorem px_back8 (S : bd_T) : ∃ S', f_X8_take_b1 S = some ((), S') ∧ kp S S' [2, 3, 4, 5, 17, 18, 19] [2, 3, 11, 12, 13, 14, 15, 16, 17, 18, 19, 20] [] ∧ (∀ j, j < 7 → eXI S' j = ePI S j) ∧ ∀ c i, c < 12 → i < rlen c → eXA S' c i = ePA S c i := by
  unfold f_X8_take_b1 f_X8_open
  obtain ⟨S1, e1, k1, v1, r1⟩ := px_U7 S
  obtain ⟨S2, e2, k2, v2, v3, r2⟩ := px_U4 S1
  rw [e1, pz_b2, e2, pz_b2, pz_si, pz_si, pz_si, pz_b2, pz_si, px_copy (k0 := 5) (k1 := 2) (L := 4) (by decide) rfl rfl (by decide), pz_b2, px_copy (k0 := 6) (k1 := 3) (L := 4) (by decide) rfl rfl (by decide), pz_b2]
  have K3 : ∀ T : bd_T, kp S2 T [2, 3, 4, 5] [] [] → kp S (cpr (cpr T 5 2 4) 6 3 4) [2, 3, 4, 5, 17, 18, 19] [2, 3, 11, 12, 13, 14, 15, 16, 17, 18, 19, 20] [] := fun T kT => (k1.mono (by decide) (by decide) (by decide)).trans ((k2.mono (by decide) (by decide) (by decide)).trans ((kT.mono (by decide) (by decide) (by decide)).trans (((kp_cpr _ _ _ _).mono (by decide) (by decide) (by decide)).trans ((kp_cpr _ _ _ _).mono (by decide) (by decide) (by decide)))))
  have s2 : ∀ k, k ∉ [18, 19] → k ∉ [17] → bd_I S2 k = bd_I S k := fun k a b => by rw [k2.1 k a, k1.1 k b]
  have s2A : ∀ k, k ∉ [17, 18, 19, 20] → k ∉ [11, 12, 13, 14, 15, 16] → bd_A S2 k = bd_A S k := fun k a b => by rw [k2.2.1 k a, k1.2.1 k b]
  refine ⟨_, rfl, K3 _ (((kp_pI _ _ _).mono (by decide) (by decide) (by decide)).trans (((kp_pI _ _ _).mono (by decide) (by decide) (by decide)).trans (((kp_pI _ _ _).mono (by decide) (by decide) (by decide)).trans ((kp_pI _ _ _).mono (by decide) (by decide) (by decide))))), fun j hj => ?_, fun c i hc hi => ?_⟩
  · rcases (show j = 0 ∨ j = 1 ∨ j = 2 ∨ j = 3 ∨ j = 4 ∨ j = 5 ∨ j = 6 by omega) with rfl | rfl | rfl | rfl | rfl | rfl | rfl
    · show bd_I S2 6 = bd_I S 6
      exact s2 6 (by decide) (by decide)
    · show bd_I S2 7 = bd_I S 7
      exact s2 7 (by decide) (by decide)
    · show bd_I S2 8 = bd_I S 8
      exact s2 8 (by decide) (by decide)
    · show bd_I S2 9 = bd_I S 9
      exact s2 9 (by decide) (by decide)
    · show bd_I S2 17 = bd_I S 20
      rw [k2.1 17 (by decide)]; exact v1
    · show bd_I S2 18 = bd_I S 21
      rw [v2, k1.1 21 (by decide)]
    · show bd_I S2 19 = bd_I S 22
      rw [v3, k1.1 22 (by decide)]
  · rcases (show c = 0 ∨ c = 1 ∨ c = 2 ∨ c = 3 ∨ c = 4 ∨ c = 5 ∨ c = 6 ∨ c = 7 ∨ c = 8 ∨ c = 9 ∨ c = 10 ∨ c = 11 by omega) with rfl | rfl | rfl | rfl | rfl | rfl | rfl | rfl | rfl | rfl | rfl | rfl
    · have hi : i < 4 := hi
      show bd_A (cpr (cpr _ 5 2 4) 6 3 4) 2 i = bd_A S 5 i
      rw [cpr_ne _ _ _ _ 2 (by decide), cpr_at _ _ _ _ _ hi]
      exact congrFun (s2A 5 (by decide) (by decide)) i
    · have hi : i < 4 := hi
      show bd_A (cpr (cpr _ 5 2 4) 6 3 4) 3 i = bd_A S 6 i
      rw [cpr_at _ _ _ _ _ hi, cpr_ne _ _ _ _ 6 (by decide)]
      exact congrFun (s2A 6 (by decide) (by decide)) i
    · have hi : i < 6 := hi
      show bd_A S2 11 i = bd_A S 21 i
      rw [k2.2.1 11 (by decide)]; exact (r1 i hi).1
    · have hi : i < 6 := hi
      show bd_A S2 12 i = bd_A S 22 i
      rw [k2.2.1 12 (by decide)]; exact (r1 i hi).2.1
    · have hi : i < 6 := hi
      show bd_A S2 13 i = bd_A S 23 i
      rw [k2.2.1 13 (by decide)]; exact (r1 i hi).2.2.1
    · have hi : i < 6 := hi
      show bd_A S2 14 i = bd_A S 24 i
      rw [k2.2.1 14 (by decide)]; exact (r1 i hi).2.2.2.1
    · have hi : i < 6 := hi
      show bd_A S2 15 i = bd_A S 25 i
      rw [k2.2.1 15 (by decide)]; exact (r1 i hi).2.2.2.2.1
    · have hi : i < 6 := hi
      show bd_A S2 16 i = bd_A S 26 i
      rw [k2.2.1 16 (by decide)]; exact (r1 i hi).2.2.2.2.2
    · have hi : i < 10 := hi
      show bd_A S2 17 i = bd_A S 27 i
      rw [(r2 i hi).1, k1.2.1 27 (by decide)]
    · have hi : i < 10 := hi
      show bd_A S2 18 i = bd_A S 28 i
      rw [(r2 i hi).2.1, k1.2.1 28 (by decide)]
    · have hi : i < 10 := hi
      show bd_A S2 19 i = bd_A S 29 i
      rw [(r2 i hi).2.2.1, k1.2.1 29 (by decide)]
    · have hi : i < 10 := hi
      show bd_A S2 20 i = bd_A S 30 i
      rw [(r2 i hi).2.2.2, k1.2.1 30 (by decide)]
theorem pI_self (S : bd_T) (k : Nat) : bd_pI S k (bd_I S k) = S := by
  refine Prod.ext (funext (fun j => ?_)) rfl
  show (if j = k then S.1 k else S.1 j) = S.1 j
  by_cases c : j = k
  · rw [if_pos c, c]
  · rw [if_neg c]
/-- what the reference keeps, place by place -/
def kv (M : bd_T) (p : Nat) : Int32 := if p < 6 then bd_A M 2 (p - 0) else if p < 12 then bd_A M 3 (p - 6) else if p < 18 then bd_A M 4 (p - 12) else if p < 22 then bd_A M 5 (p - 18) else if p < 26 then bd_A M 6 (p - 22) else if p < 36 then bd_A M 7 (p - 26) else if p < 46 then bd_A M 8 (p - 36) else if p < 56 then bd_A M 9 (p - 46) else if p < 66 then bd_A M 10 (p - 56) else if p < 76 then bd_A M 11 (p - 66) else if p < 82 then bd_A M 12 (p - 76) else if p < 88 then bd_A M 13 (p - 82) else if p < 94 then bd_A M 14 (p - 88) else if p < 95 then bd_I M 2 else if p < 96 then bd_I M 3 else if p < 97 then bd_I M 4 else if p < 98 then bd_I M 5 else if p < 99 then bd_I M 6 else bd_I M 8
def kI (B M : bd_T) (c : Nat) : Prop := kp B M [13] [19] [] ∧ bd_I M 13 = nI c ∧ ∀ p, p < c → bd_A M 19 p = kv B p
theorem pm_passK {B M : bd_T} {k1 c n : Nat} (h : kI B M c) (h12 : bd_I B 12 = 1) (hl : cM_len k1 = n) (hk : k1 ≠ 19) (hn : c + n ≤ 150) (hv : ∀ i, i < n → kv B (c + i) = bd_A B k1 i) : ∃ M', f_X10_passes k1 M = some ((), M') ∧ kI B M' (c + n) := by
  obtain ⟨r, e, hr⟩ := pz_loop (F := fun q => fb_X10_passes_2 k1 q.1 q.2) (fun i s => s.1 = nI i ∧ kI B s.2 (c + i)) (fun r => kI B r (c + n)) n (fun i s hi hs => by
      obtain ⟨q1, q2, q3, q4⟩ := hs
      obtain ⟨s1, s2⟩ := s
      dsimp only at q1 q2 q3 q4 ⊢
      subst q1
      left
      unfold fb_X10_passes_2
      have e12 : bd_I s2 12 = 1 := by rw [q2.1 12 (by decide)]; exact h12
      have ek : bd_A s2 k1 = bd_A B k1 := q2.2.1 k1 (by simpa using hk)
      rw [hl, pz_ofNat, if_neg (nI_ge hi (by omega)), e12, if_neg (show ¬ (1 : Int32) = 0 by decide), pz_ga hi (by omega), pz_some, q3, pz_sa (show c + i < 150 by omega) (by decide), pz_some, pz_si, pz_IA, q3, nI_1, nI_1]
      refine ⟨_, rfl, rfl, q2.trans (((kp_pA _ _ _ _).mono (by decide) (by decide) (by decide)).trans ((kp_pI _ _ _).mono (by decide) (by decide) (by decide))), rfl, fun p hp => ?_⟩
      show upd (bd_A s2 19) (c + i) _ p = _
      rw [pz_up]
      by_cases z : p = c + i
      · rw [if_pos z, z, hv i hi, ek]
      · rw [if_neg z]; exact q4 p (by omega)) (fun s hs => by
      obtain ⟨q1, q2⟩ := hs
      obtain ⟨s1, s2⟩ := s
      dsimp only at q1 q2 ⊢
      subst q1
      unfold fb_X10_passes_2
      rw [hl, pz_ofNat, if_pos (Int32.le_refl _)]
      exact ⟨_, rfl, q2⟩) (s0 := ((0 : Int32), M)) ⟨rfl, h⟩ bd_K (by rw [pz_K]; omega)
  unfold f_X10_passes
  rw [e, pz_some]
  exact ⟨r, rfl, hr⟩
theorem pm_oneK {B M : bd_T} {x : Int32} {c : Nat} (h : kI B M c) (h12 : bd_I B 12 = 1) (hn : c < 150) (hv : kv B c = x) : ∃ M', f_X10_passOne x M = some (x, M') ∧ kI B M' (c + 1) := by
  obtain ⟨q2, q3, q4⟩ := h
  unfold f_X10_passOne
  have e12 : bd_I M 12 = 1 := by rw [q2.1 12 (by decide)]; exact h12
  rw [e12, if_neg (show ¬ (1 : Int32) = 0 by decide), if_neg (show ¬ (1 : Int32) = 0 by decide), q3, pz_sa hn (by decide), pz_some, pz_si, pz_IA, q3, nI_1]
  refine ⟨_, rfl, q2.trans (((kp_pA _ _ _ _).mono (by decide) (by decide) (by decide)).trans ((kp_pI _ _ _).mono (by decide) (by decide) (by decide))), rfl, fun p hp => ?_⟩
  show upd (bd_A M 19) c _ p = _
  rw [pz_up]
  by_cases z : p = c
  · rw [if_pos z, z, hv]
  · rw [if_neg z]; exact q4 p (by omega)
theorem pm_keepAll {M : bd_T} (h12 : bd_I M 12 = 1) : ∃ M', f_X10_passesAll M = some ((), M') ∧ kp M M' [13] [19] [] ∧ ∀ p, p < 100 → bd_A M' 19 p = kv M p := by
  unfold f_X10_passesAll
  rw [pz_si]
  have b12 : bd_I (bd_pI M 13 0) 12 = 1 := h12
  have a0 : kI (bd_pI M 13 0) (bd_pI M 13 0) 0 := ⟨kp.rfl', rfl, fun p hp => by omega⟩
  obtain ⟨M1, e1, a1⟩ := pm_passK (k1 := 2) (n := 6) a0 b12 rfl (by decide) (by decide) (fun i hi => by unfold kv; rw [if_pos (show 0 + i < 6 by omega), show 0 + i - 0 = i by omega])
  have a1 : kI (bd_pI M 13 0) M1 6 := a1
  obtain ⟨M2, e2, a2⟩ := pm_passK (k1 := 3) (n := 6) a1 b12 rfl (by decide) (by decide) (fun i hi => by unfold kv; rw [if_neg (show ¬ 6 + i < 6 by omega), if_pos (show 6 + i < 12 by omega), show 6 + i - 6 = i by omega])
  have a2 : kI (bd_pI M 13 0) M2 12 := a2
  obtain ⟨M3, e3, a3⟩ := pm_passK (k1 := 4) (n := 6) a2 b12 rfl (by decide) (by decide) (fun i hi => by unfold kv; rw [if_neg (show ¬ 12 + i < 6 by omega), if_neg (show ¬ 12 + i < 12 by omega), if_pos (show 12 + i < 18 by omega), show 12 + i - 12 = i by omega])
  have a3 : kI (bd_pI M 13 0) M3 18 := a3
  obtain ⟨M4, e4, a4⟩ := pm_passK (k1 := 5) (n := 4) a3 b12 rfl (by decide) (by decide) (fun i hi => by unfold kv; rw [if_neg (show ¬ 18 + i < 6 by omega), if_neg (show ¬ 18 + i < 12 by omega), if_neg (show ¬ 18 + i < 18 by omega), if_pos (show 18 + i < 22 by omega), show 18 + i - 18 = i by omega])
  have a4 : kI (bd_pI M 13 0) M4 22 := a4
  obtain ⟨M5, e5, a5⟩ := pm_passK (k1 := 6) (n := 4) a4 b12 rfl (by decide) (by decide) (fun i hi => by unfold kv; rw [if_neg (show ¬ 22 + i < 6 by omega), if_neg (show ¬ 22 + i < 12 by omega), if_neg (show ¬ 22 + i < 18 by omega), if_neg (show ¬ 22 + i < 22 by omega), if_pos (show 22 + i < 26 by omega), show 22 + i - 22 = i by omega])
  have a5 : kI (bd_pI M 13 0) M5 26 := a5
  obtain ⟨M6, e6, a6⟩ := pm_passK (k1 := 7) (n := 10) a5 b12 rfl (by decide) (by decide) (fun i hi => by unfold kv; rw [if_neg (show ¬ 26 + i < 6 by omega), if_neg (show ¬ 26 + i < 12 by omega), if_neg (show ¬ 26 + i < 18 by omega), if_neg (show ¬ 26 + i < 22 by omega), if_neg (show ¬ 26 + i < 26 by omega), if_pos (show 26 + i < 36 by omega), show 26 + i - 26 = i by omega])
  have a6 : kI (bd_pI M 13 0) M6 36 := a6
  obtain ⟨M7, e7, a7⟩ := pm_passK (k1 := 8) (n := 10) a6 b12 rfl (by decide) (by decide) (fun i hi => by unfold kv; rw [if_neg (show ¬ 36 + i < 6 by omega), if_neg (show ¬ 36 + i < 12 by omega), if_neg (show ¬ 36 + i < 18 by omega), if_neg (show ¬ 36 + i < 22 by omega), if_neg (show ¬ 36 + i < 26 by omega), if_neg (show ¬ 36 + i < 36 by omega), if_pos (show 36 + i < 46 by omega), show 36 + i - 36 = i by omega])
  have a7 : kI (bd_pI M 13 0) M7 46 := a7
  obtain ⟨M8, e8, a8⟩ := pm_passK (k1 := 9) (n := 10) a7 b12 rfl (by decide) (by decide) (fun i hi => by unfold kv; rw [if_neg (show ¬ 46 + i < 6 by omega), if_neg (show ¬ 46 + i < 12 by omega), if_neg (show ¬ 46 + i < 18 by omega), if_neg (show ¬ 46 + i < 22 by omega), if_neg (show ¬ 46 + i < 26 by omega), if_neg (show ¬ 46 + i < 36 by omega), if_neg (show ¬ 46 + i < 46 by omega), if_pos (show 46 + i < 56 by omega), show 46 + i - 46 = i by omega])
  have a8 : kI (bd_pI M 13 0) M8 56 := a8
  obtain ⟨M9, e9, a9⟩ := pm_passK (k1 := 10) (n := 10) a8 b12 rfl (by decide) (by decide) (fun i hi => by unfold kv; rw [if_neg (show ¬ 56 + i < 6 by omega), if_neg (show ¬ 56 + i < 12 by omega), if_neg (show ¬ 56 + i < 18 by omega), if_neg (show ¬ 56 + i < 22 by omega), if_neg (show ¬ 56 + i < 26 by omega), if_neg (show ¬ 56 + i < 36 by omega), if_neg (show ¬ 56 + i < 46 by omega), if_neg (show ¬ 56 + i < 56 by omega), if_pos (show 56 + i < 66 by omega), show 56 + i - 56 = i by omega])
  have a9 : kI (bd_pI M 13 0) M9 66 := a9
  obtain ⟨M10, e10, a10⟩ := pm_passK (k1 := 11) (n := 10) a9 b12 rfl (by decide) (by decide) (fun i hi => by unfold kv; rw [if_neg (show ¬ 66 + i < 6 by omega), if_neg (show ¬ 66 + i < 12 by omega), if_neg (show ¬ 66 + i < 18 by omega), if_neg (show ¬ 66 + i < 22 by omega), if_neg (show ¬ 66 + i < 26 by omega), if_neg (show ¬ 66 + i < 36 by omega), if_neg (show ¬ 66 + i < 46 by omega), if_neg (show ¬ 66 + i < 56 by omega), if_neg (show ¬ 66 + i < 66 by omega), if_pos (show 66 + i < 76 by omega), show 66 + i - 66 = i by omega])
  have a10 : kI (bd_pI M 13 0) M10 76 := a10
  obtain ⟨M11, e11, a11⟩ := pm_passK (k1 := 12) (n := 6) a10 b12 rfl (by decide) (by decide) (fun i hi => by unfold kv; rw [if_neg (show ¬ 76 + i < 6 by omega), if_neg (show ¬ 76 + i < 12 by omega), if_neg (show ¬ 76 + i < 18 by omega), if_neg (show ¬ 76 + i < 22 by omega), if_neg (show ¬ 76 + i < 26 by omega), if_neg (show ¬ 76 + i < 36 by omega), if_neg (show ¬ 76 + i < 46 by omega), if_neg (show ¬ 76 + i < 56 by omega), if_neg (show ¬ 76 + i < 66 by omega), if_neg (show ¬ 76 + i < 76 by omega), if_pos (show 76 + i < 82 by omega), show 76 + i - 76 = i by omega])
  have a11 : kI (bd_pI M 13 0) M11 82 := a11
  obtain ⟨M12, e12, a12⟩ := pm_passK (k1 := 13) (n := 6) a11 b12 rfl (by decide) (by decide) (fun i hi => by unfold kv; rw [if_neg (show ¬ 82 + i < 6 by omega), if_neg (show ¬ 82 + i < 12 by omega), if_neg (show ¬ 82 + i < 18 by omega), if_neg (show ¬ 82 + i < 22 by omega), if_neg (show ¬ 82 + i < 26 by omega), if_neg (show ¬ 82 + i < 36 by omega), if_neg (show ¬ 82 + i < 46 by omega), if_neg (show ¬ 82 + i < 56 by omega), if_neg (show ¬ 82 + i < 66 by omega), if_neg (show ¬ 82 + i < 76 by omega), if_neg (show ¬ 82 + i < 82 by omega), if_pos (show 82 + i < 88 by omega), show 82 + i - 82 = i by omega])
  have a12 : kI (bd_pI M 13 0) M12 88 := a12
  obtain ⟨M13, e13, a13⟩ := pm_passK (k1 := 14) (n := 6) a12 b12 rfl (by decide) (by decide) (fun i hi => by unfold kv; rw [if_neg (show ¬ 88 + i < 6 by omega), if_neg (show ¬ 88 + i < 12 by omega), if_neg (show ¬ 88 + i < 18 by omega), if_neg (show ¬ 88 + i < 22 by omega), if_neg (show ¬ 88 + i < 26 by omega), if_neg (show ¬ 88 + i < 36 by omega), if_neg (show ¬ 88 + i < 46 by omega), if_neg (show ¬ 88 + i < 56 by omega), if_neg (show ¬ 88 + i < 66 by omega), if_neg (show ¬ 88 + i < 76 by omega), if_neg (show ¬ 88 + i < 82 by omega), if_neg (show ¬ 88 + i < 88 by omega), if_pos (show 88 + i < 94 by omega), show 88 + i - 88 = i by omega])
  have a13 : kI (bd_pI M 13 0) M13 94 := a13
  rw [e1, pz_b2, e2, pz_b2, e3, pz_b2, e4, pz_b2, e5, pz_b2, e6, pz_b2, e7, pz_b2, e8, pz_b2, e9, pz_b2, e10, pz_b2, e11, pz_b2, e12, pz_b2, e13, pz_b2]
  obtain ⟨M14, e14, a14⟩ := pm_oneK (x := bd_I M13 2) a13 b12 (by decide) (by rw [a13.1.1 2 (by decide)]; rfl)
  have a14 : kI (bd_pI M 13 0) M14 95 := a14
  have i14 : bd_I M13 2 = bd_I M14 2 := by rw [a13.1.1 2 (by decide), a14.1.1 2 (by decide)]
  rw [e14, pz_b2, i14, pz_si, pI_self]
  obtain ⟨M15, e15, a15⟩ := pm_oneK (x := bd_I M14 3) a14 b12 (by decide) (by rw [a14.1.1 3 (by decide)]; rfl)
  have a15 : kI (bd_pI M 13 0) M15 96 := a15
  have i15 : bd_I M14 3 = bd_I M15 3 := by rw [a14.1.1 3 (by decide), a15.1.1 3 (by decide)]
  rw [e15, pz_b2, i15, pz_si, pI_self]
  obtain ⟨M16, e16, a16⟩ := pm_oneK (x := bd_I M15 4) a15 b12 (by decide) (by rw [a15.1.1 4 (by decide)]; rfl)
  have a16 : kI (bd_pI M 13 0) M16 97 := a16
  have i16 : bd_I M15 4 = bd_I M16 4 := by rw [a15.1.1 4 (by decide), a16.1.1 4 (by decide)]
  rw [e16, pz_b2, i16, pz_si, pI_self]
  obtain ⟨M17, e17, a17⟩ := pm_oneK (x := bd_I M16 5) a16 b12 (by decide) (by rw [a16.1.1 5 (by decide)]; rfl)
  have a17 : kI (bd_pI M 13 0) M17 98 := a17
  have i17 : bd_I M16 5 = bd_I M17 5 := by rw [a16.1.1 5 (by decide), a17.1.1 5 (by decide)]
  rw [e17, pz_b2, i17, pz_si, pI_self]
  obtain ⟨M18, e18, a18⟩ := pm_oneK (x := bd_I M17 6) a17 b12 (by decide) (by rw [a17.1.1 6 (by decide)]; rfl)
  have a18 : kI (bd_pI M 13 0) M18 99 := a18
  have i18 : bd_I M17 6 = bd_I M18 6 := by rw [a17.1.1 6 (by decide), a18.1.1 6 (by decide)]
  rw [e18, pz_b2, i18, pz_si, pI_self]
  obtain ⟨M19, e19, a19⟩ := pm_oneK (x := bd_I M18 8) a18 b12 (by decide) (by rw [a18.1.1 8 (by decide)]; rfl)
  have a19 : kI (bd_pI M 13 0) M19 100 := a19
  have i19 : bd_I M18 8 = bd_I M19 8 := by rw [a18.1.1 8 (by decide), a19.1.1 8 (by decide)]
  rw [e19, pz_b2, i19, pz_si, pI_self]
  refine ⟨M19, rfl, ((kp_pI _ _ _).mono (by decide) (by decide) (by decide)).trans a19.1, fun p hp => ?_⟩
  rw [a19.2.2 p hp]; rfl
theorem pm_passR {M : bd_T} {k1 c n : Nat} (h13 : bd_I M 13 = nI c) (h12 : bd_I M 12 = 0) (hl : cM_len k1 = n) (hk : k1 ≠ 19) (hn : c + n ≤ 150) : ∃ M', f_X10_passes k1 M = some ((), M') ∧ kp M M' [13] [k1] [] ∧ bd_I M' 13 = nI (c + n) ∧ ∀ i, i < n → bd_A M' k1 i = bd_A M 19 (c + i) := by
  obtain ⟨r, e, hr⟩ := pz_loop (F := fun q => fb_X10_passes_2 k1 q.1 q.2) (fun i s => s.1 = nI i ∧ kp M s.2 [13] [k1] [] ∧ bd_I s.2 13 = nI (c + i) ∧ ∀ j, j < i → bd_A s.2 k1 j = bd_A M 19 (c + j)) (fun r => kp M r [13] [k1] [] ∧ bd_I r 13 = nI (c + n) ∧ ∀ i, i < n → bd_A r k1 i = bd_A M 19 (c + i)) n (fun i s hi hs => by
      obtain ⟨q1, q2, q3, q4⟩ := hs
      obtain ⟨s1, s2⟩ := s
      dsimp only at q1 q2 q3 q4 ⊢
      subst q1
      left
      unfold fb_X10_passes_2
      have e12 : bd_I s2 12 = 0 := by rw [q2.1 12 (by decide)]; exact h12
      have ek : bd_A s2 19 = bd_A M 19 := q2.2.1 19 (by simpa using fun z => hk z.symm)
      rw [hl, pz_ofNat, if_neg (nI_ge hi (by omega)), e12, if_pos (show (0 : Int32) = 0 from rfl), q3, pz_ga (show c + i < 150 by omega) (by decide), pz_some, pz_sa hi (by omega), pz_some, pz_si, pz_IA, q3, nI_1, nI_1]
      refine ⟨_, rfl, rfl, q2.trans (((kp_pA _ _ _ _).mono rfl (by simp) rfl).trans ((kp_pI _ _ _).mono (by decide) rfl rfl)), rfl, fun p hp => ?_⟩
      show (if k1 = k1 then upd (bd_A s2 k1) i _ else bd_A s2 k1) p = _
      rw [if_pos rfl, pz_up]
      by_cases z : p = i
      · rw [if_pos z, z, ek]
      · rw [if_neg z]; exact q4 p (by omega)) (fun s hs => by
      obtain ⟨q1, q2⟩ := hs
      obtain ⟨s1, s2⟩ := s
      dsimp only at q1 q2 ⊢
      subst q1
      unfold fb_X10_passes_2
      rw [hl, pz_ofNat, if_pos (Int32.le_refl _)]
      exact ⟨_, rfl, q2⟩) (s0 := ((0 : Int32), M)) ⟨rfl, kp.rfl', h13, fun j hj => by omega⟩ bd_K (by rw [pz_K]; omega)
  unfold f_X10_passes
  rw [e, pz_some]
  exact ⟨r, rfl, hr⟩
theorem pm_oneR {M : bd_T} {x : Int32} {c : Nat} (h13 : bd_I M 13 = nI c) (h12 : bd_I M 12 = 0) (hn : c < 150) : f_X10_passOne x M = some (bd_A M 19 c, bd_pI M 13 (nI (c + 1))) := by
  unfold f_X10_passOne
  rw [h12, if_pos (show (0 : Int32) = 0 from rfl), h13, pz_ga hn (by decide), pz_some, if_pos (show (0 : Int32) = 0 from rfl), pz_si, nI_1]
theorem pm_backAll {M : bd_T} (h12 : bd_I M 12 = 0) : ∃ M', f_X10_passesAll M = some ((), M') ∧ kp M M' [13, 2, 3, 4, 5, 6, 8] [2, 3, 4, 5, 6, 7, 8, 9, 10, 11, 12, 13, 14] [] ∧ (∀ j, j < 6 → eMI M' j = eKI M j) ∧ ∀ c i, c < 13 → i < rlen c → eMA M' c i = eKA M c i := by
  unfold f_X10_passesAll
  rw [pz_si]
  have b12 : bd_I (bd_pI M 13 0) 12 = 0 := h12
  have b19 : bd_A (bd_pI M 13 0) 19 = bd_A M 19 := rfl
  obtain ⟨M1, e1, k1, t1, r1⟩ := pm_passR (M := (bd_pI M 13 0)) (k1 := 2) (c := 0) (n := 6) rfl b12 rfl (by decide) (by decide)
  have t1 : bd_I M1 13 = nI 6 := t1
  have u1 : bd_I M1 12 = 0 := by rw [k1.1 12 (by decide)]; exact b12
  have v1 : bd_A M1 19 = bd_A M 19 := by rw [k1.2.1 19 (by decide)]; exact b19
  rw [b19] at r1
  obtain ⟨M2, e2, k2, t2, r2⟩ := pm_passR (M := M1) (k1 := 3) (c := 6) (n := 6) t1 u1 rfl (by decide) (by decide)
  have t2 : bd_I M2 13 = nI 12 := t2
  have u2 : bd_I M2 12 = 0 := by rw [k2.1 12 (by decide)]; exact u1
  have v2 : bd_A M2 19 = bd_A M 19 := by rw [k2.2.1 19 (by decide)]; exact v1
  rw [v1] at r2
  obtain ⟨M3, e3, k3, t3, r3⟩ := pm_passR (M := M2) (k1 := 4) (c := 12) (n := 6) t2 u2 rfl (by decide) (by decide)
  have t3 : bd_I M3 13 = nI 18 := t3
  have u3 : bd_I M3 12 = 0 := by rw [k3.1 12 (by decide)]; exact u2
  have v3 : bd_A M3 19 = bd_A M 19 := by rw [k3.2.1 19 (by decide)]; exact v2
  rw [v2] at r3
  obtain ⟨M4, e4, k4, t4, r4⟩ := pm_passR (M := M3) (k1 := 5) (c := 18) (n := 4) t3 u3 rfl (by decide) (by decide)
  have t4 : bd_I M4 13 = nI 22 := t4
  have u4 : bd_I M4 12 = 0 := by rw [k4.1 12 (by decide)]; exact u3
  have v4 : bd_A M4 19 = bd_A M 19 := by rw [k4.2.1 19 (by decide)]; exact v3
  rw [v3] at r4
  obtain ⟨M5, e5, k5, t5, r5⟩ := pm_passR (M := M4) (k1 := 6) (c := 22) (n := 4) t4 u4 rfl (by decide) (by decide)
  have t5 : bd_I M5 13 = nI 26 := t5
  have u5 : bd_I M5 12 = 0 := by rw [k5.1 12 (by decide)]; exact u4
  have v5 : bd_A M5 19 = bd_A M 19 := by rw [k5.2.1 19 (by decide)]; exact v4
  rw [v4] at r5
  obtain ⟨M6, e6, k6, t6, r6⟩ := pm_passR (M := M5) (k1 := 7) (c := 26) (n := 10) t5 u5 rfl (by decide) (by decide)
  have t6 : bd_I M6 13 = nI 36 := t6
  have u6 : bd_I M6 12 = 0 := by rw [k6.1 12 (by decide)]; exact u5
  have v6 : bd_A M6 19 = bd_A M 19 := by rw [k6.2.1 19 (by decide)]; exact v5
  rw [v5] at r6
  obtain ⟨M7, e7, k7, t7, r7⟩ := pm_passR (M := M6) (k1 := 8) (c := 36) (n := 10) t6 u6 rfl (by decide) (by decide)
  have t7 : bd_I M7 13 = nI 46 := t7
  have u7 : bd_I M7 12 = 0 := by rw [k7.1 12 (by decide)]; exact u6
  have v7 : bd_A M7 19 = bd_A M 19 := by rw [k7.2.1 19 (by decide)]; exact v6
  rw [v6] at r7
  obtain ⟨M8, e8, k8, t8, r8⟩ := pm_passR (M := M7) (k1 := 9) (c := 46) (n := 10) t7 u7 rfl (by decide) (by decide)
  have t8 : bd_I M8 13 = nI 56 := t8
  have u8 : bd_I M8 12 = 0 := by rw [k8.1 12 (by decide)]; exact u7
  have v8 : bd_A M8 19 = bd_A M 19 := by rw [k8.2.1 19 (by decide)]; exact v7
  rw [v7] at r8
  obtain ⟨M9, e9, k9, t9, r9⟩ := pm_passR (M := M8) (k1 := 10) (c := 56) (n := 10) t8 u8 rfl (by decide) (by decide)
  have t9 : bd_I M9 13 = nI 66 := t9
  have u9 : bd_I M9 12 = 0 := by rw [k9.1 12 (by decide)]; exact u8
  have v9 : bd_A M9 19 = bd_A M 19 := by rw [k9.2.1 19 (by decide)]; exact v8
  rw [v8] at r9
  obtain ⟨M10, e10, k10, t10, r10⟩ := pm_passR (M := M9) (k1 := 11) (c := 66) (n := 10) t9 u9 rfl (by decide) (by decide)
  have t10 : bd_I M10 13 = nI 76 := t10
  have u10 : bd_I M10 12 = 0 := by rw [k10.1 12 (by decide)]; exact u9
  have v10 : bd_A M10 19 = bd_A M 19 := by rw [k10.2.1 19 (by decide)]; exact v9
  rw [v9] at r10
  obtain ⟨M11, e11, k11, t11, r11⟩ := pm_passR (M := M10) (k1 := 12) (c := 76) (n := 6) t10 u10 rfl (by decide) (by decide)
  have t11 : bd_I M11 13 = nI 82 := t11
  have u11 : bd_I M11 12 = 0 := by rw [k11.1 12 (by decide)]; exact u10
  have v11 : bd_A M11 19 = bd_A M 19 := by rw [k11.2.1 19 (by decide)]; exact v10
  rw [v10] at r11
  obtain ⟨M12, e12, k12, t12, r12⟩ := pm_passR (M := M11) (k1 := 13) (c := 82) (n := 6) t11 u11 rfl (by decide) (by decide)
  have t12 : bd_I M12 13 = nI 88 := t12
  have u12 : bd_I M12 12 = 0 := by rw [k12.1 12 (by decide)]; exact u11
  have v12 : bd_A M12 19 = bd_A M 19 := by rw [k12.2.1 19 (by decide)]; exact v11
  rw [v11] at r12
  obtain ⟨M13, e13, k13, t13, r13⟩ := pm_passR (M := M12) (k1 := 14) (c := 88) (n := 6) t12 u12 rfl (by decide) (by decide)
  have t13 : bd_I M13 13 = nI 94 := t13
  have u13 : bd_I M13 12 = 0 := by rw [k13.1 12 (by decide)]; exact u12
  have v13 : bd_A M13 19 = bd_A M 19 := by rw [k13.2.1 19 (by decide)]; exact v12
  rw [v12] at r13
  rw [e1, pz_b2, e2, pz_b2, e3, pz_b2, e4, pz_b2, e5, pz_b2, e6, pz_b2, e7, pz_b2, e8, pz_b2, e9, pz_b2, e10, pz_b2, e11, pz_b2, e12, pz_b2, e13, pz_b2]
  have o0 : kp (bd_pI M 13 0) M13 [13, 2, 3, 4, 5, 6, 8] [2, 3, 4, 5, 6, 7, 8, 9, 10, 11, 12, 13, 14] [] := (k1.mono (by decide) (by decide) (by decide)).trans ((k2.mono (by decide) (by decide) (by decide)).trans ((k3.mono (by decide) (by decide) (by decide)).trans ((k4.mono (by decide) (by decide) (by decide)).trans ((k5.mono (by decide) (by decide) (by decide)).trans ((k6.mono (by decide) (by decide) (by decide)).trans ((k7.mono (by decide) (by decide) (by decide)).trans ((k8.mono (by decide) (by decide) (by decide)).trans ((k9.mono (by decide) (by decide) (by decide)).trans ((k10.mono (by decide) (by decide) (by decide)).trans ((k11.mono (by decide) (by decide) (by decide)).trans ((k12.mono (by decide) (by decide) (by decide)).trans (k13.mono (by decide) (by decide) (by decide)))))))))))))
  have y0 : ∀ x : Int32, f_X10_passOne x M13 = some (bd_A M13 19 94, bd_pI M13 13 (nI 95)) := fun x => pm_oneR (c := 94) t13 u13 (by decide)
  rw [y0, pz_b2, pz_si]
  have y1 : ∀ x : Int32, f_X10_passOne x (bd_pI (bd_pI M13 13 (nI 95)) 2 (bd_A M13 19 94)) = some (bd_A M13 19 95, bd_pI (bd_pI (bd_pI M13 13 (nI 95)) 2 (bd_A M13 19 94)) 13 (nI 96)) := fun x => pm_oneR (c := 95) rfl u13 (by decide)
  rw [y1, pz_b2, pz_si]
  have y2 : ∀ x : Int32, f_X10_passOne x (bd_pI (bd_pI (bd_pI (bd_pI M13 13 (nI 95)) 2 (bd_A M13 19 94)) 13 (nI 96)) 3 (bd_A M13 19 95)) = some (bd_A M13 19 96, bd_pI (bd_pI (bd_pI (bd_pI (bd_pI M13 13 (nI 95)) 2 (bd_A M13 19 94)) 13 (nI 96)) 3 (bd_A M13 19 95)) 13 (nI 97)) := fun x => pm_oneR (c := 96) rfl u13 (by decide)
  rw [y2, pz_b2, pz_si]
  have y3 : ∀ x : Int32, f_X10_passOne x (bd_pI (bd_pI (bd_pI (bd_pI (bd_pI (bd_pI M13 13 (nI 95)) 2 (bd_A M13 19 94)) 13 (nI 96)) 3 (bd_A M13 19 95)) 13 (nI 97)) 4 (bd_A M13 19 96)) = some (bd_A M13 19 97, bd_pI (bd_pI (bd_pI (bd_pI (bd_pI (bd_pI (bd_pI M13 13 (nI 95)) 2 (bd_A M13 19 94)) 13 (nI 96)) 3 (bd_A M13 19 95)) 13 (nI 97)) 4 (bd_A M13 19 96)) 13 (nI 98)) := fun x => pm_oneR (c := 97) rfl u13 (by decide)
  rw [y3, pz_b2, pz_si]
  have y4 : ∀ x : Int32, f_X10_passOne x (bd_pI (bd_pI (bd_pI (bd_pI (bd_pI (bd_pI (bd_pI (bd_pI M13 13 (nI 95)) 2 (bd_A M13 19 94)) 13 (nI 96)) 3 (bd_A M13 19 95)) 13 (nI 97)) 4 (bd_A M13 19 96)) 13 (nI 98)) 5 (bd_A M13 19 97)) = some (bd_A M13 19 98, bd_pI (bd_pI (bd_pI (bd_pI (bd_pI (bd_pI (bd_pI (bd_pI (bd_pI M13 13 (nI 95)) 2 (bd_A M13 19 94)) 13 (nI 96)) 3 (bd_A M13 19 95)) 13 (nI 97)) 4 (bd_A M13 19 96)) 13 (nI 98)) 5 (bd_A M13 19 97)) 13 (nI 99)) := fun x => pm_oneR (c := 98) rfl u13 (by decide)
  rw [y4, pz_b2, pz_si]
  have y5 : ∀ x : Int32, f_X10_passOne x (bd_pI (bd_pI (bd_pI (bd_pI (bd_pI (bd_pI (bd_pI (bd_pI (bd_pI (bd_pI M13 13 (nI 95)) 2 (bd_A M13 19 94)) 13 (nI 96)) 3 (bd_A M13 19 95)) 13 (nI 97)) 4 (bd_A M13 19 96)) 13 (nI 98)) 5 (bd_A M13 19 97)) 13 (nI 99)) 6 (bd_A M13 19 98)) = some (bd_A M13 19 99, bd_pI (bd_pI (bd_pI (bd_pI (bd_pI (bd_pI (bd_pI (bd_pI (bd_pI (bd_pI (bd_pI M13 13 (nI 95)) 2 (bd_A M13 19 94)) 13 (nI 96)) 3 (bd_A M13 19 95)) 13 (nI 97)) 4 (bd_A M13 19 96)) 13 (nI 98)) 5 (bd_A M13 19 97)) 13 (nI 99)) 6 (bd_A M13 19 98)) 13 (nI 100)) := fun x => pm_oneR (c := 99) rfl u13 (by decide)
  rw [y5, pz_b2, pz_si]
  refine ⟨(bd_pI (bd_pI (bd_pI (bd_pI (bd_pI (bd_pI (bd_pI (bd_pI (bd_pI (bd_pI (bd_pI (bd_pI M13 13 (nI 95)) 2 (bd_A M13 19 94)) 13 (nI 96)) 3 (bd_A M13 19 95)) 13 (nI 97)) 4 (bd_A M13 19 96)) 13 (nI 98)) 5 (bd_A M13 19 97)) 13 (nI 99)) 6 (bd_A M13 19 98)) 13 (nI 100)) 8 (bd_A M13 19 99)), rfl, ((kp_pI M 13 0).mono (by decide) (by decide) (by decide)).trans (o0.trans (((kp_pI _ _ _).mono (by decide) (by decide) (by decide)).trans (((kp_pI _ _ _).mono (by decide) (by decide) (by decide)).trans (((kp_pI _ _ _).mono (by decide) (by decide) (by decide)).trans (((kp_pI _ _ _).mono (by decide) (by decide) (by decide)).trans (((kp_pI _ _ _).mono (by decide) (by decide) (by decide)).trans (((kp_pI _ _ _).mono (by decide) (by decide) (by decide)).trans (((kp_pI _ _ _).mono (by decide) (by decide) (by decide)).trans (((kp_pI _ _ _).mono (by decide) (by decide) (by decide)).trans (((kp_pI _ _ _).mono (by decide) (by decide) (by decide)).trans (((kp_pI _ _ _).mono (by decide) (by decide) (by decide)).trans (((kp_pI _ _ _).mono (by decide) (by decide) (by decide)).trans ((kp_pI _ _ _).mono (by decide) (by decide) (by decide)))))))))))))), fun j hj => ?_, fun c i hc hi => ?_⟩
  · rcases (show j = 0 ∨ j = 1 ∨ j = 2 ∨ j = 3 ∨ j = 4 ∨ j = 5 by omega) with rfl | rfl | rfl | rfl | rfl | rfl
    · show bd_A M13 19 95 = bd_A M 19 95
      rw [v13]
    · show bd_A M13 19 96 = bd_A M 19 96
      rw [v13]
    · show bd_A M13 19 97 = bd_A M 19 97
      rw [v13]
    · show bd_A M13 19 98 = bd_A M 19 98
      rw [v13]
    · show bd_A M13 19 94 = bd_A M 19 94
      rw [v13]
    · show bd_A M13 19 99 = bd_A M 19 99
      rw [v13]
  · rcases (show c = 0 ∨ c = 1 ∨ c = 2 ∨ c = 3 ∨ c = 4 ∨ c = 5 ∨ c = 6 ∨ c = 7 ∨ c = 8 ∨ c = 9 ∨ c = 10 ∨ c = 11 ∨ c = 12 by omega) with rfl | rfl | rfl | rfl | rfl | rfl | rfl | rfl | rfl | rfl | rfl | rfl | rfl
    · have hi : i < 4 := hi
      show bd_A M13 5 i = bd_A M 19 (18 + i)
      rw [k13.2.1 5 (by decide), k12.2.1 5 (by decide), k11.2.1 5 (by decide), k10.2.1 5 (by decide), k9.2.1 5 (by decide), k8.2.1 5 (by decide), k7.2.1 5 (by decide), k6.2.1 5 (by decide), k5.2.1 5 (by decide), r4 i hi]
    · have hi : i < 4 := hi
      show bd_A M13 6 i = bd_A M 19 (22 + i)
      rw [k13.2.1 6 (by decide), k12.2.1 6 (by decide), k11.2.1 6 (by decide), k10.2.1 6 (by decide), k9.2.1 6 (by decide), k8.2.1 6 (by decide), k7.2.1 6 (by decide), k6.2.1 6 (by decide), r5 i hi]
    · have hi : i < 6 := hi
      show bd_A M13 2 i = bd_A M 19 (0 + i)
      rw [k13.2.1 2 (by decide), k12.2.1 2 (by decide), k11.2.1 2 (by decide), k10.2.1 2 (by decide), k9.2.1 2 (by decide), k8.2.1 2 (by decide), k7.2.1 2 (by decide), k6.2.1 2 (by decide), k5.2.1 2 (by decide), k4.2.1 2 (by decide), k3.2.1 2 (by decide), k2.2.1 2 (by decide), r1 i hi]
    · have hi : i < 6 := hi
      show bd_A M13 3 i = bd_A M 19 (6 + i)
      rw [k13.2.1 3 (by decide), k12.2.1 3 (by decide), k11.2.1 3 (by decide), k10.2.1 3 (by decide), k9.2.1 3 (by decide), k8.2.1 3 (by decide), k7.2.1 3 (by decide), k6.2.1 3 (by decide), k5.2.1 3 (by decide), k4.2.1 3 (by decide), k3.2.1 3 (by decide), r2 i hi]
    · have hi : i < 6 := hi
      show bd_A M13 4 i = bd_A M 19 (12 + i)
      rw [k13.2.1 4 (by decide), k12.2.1 4 (by decide), k11.2.1 4 (by decide), k10.2.1 4 (by decide), k9.2.1 4 (by decide), k8.2.1 4 (by decide), k7.2.1 4 (by decide), k6.2.1 4 (by decide), k5.2.1 4 (by decide), k4.2.1 4 (by decide), r3 i hi]
    · have hi : i < 6 := hi
      show bd_A M13 12 i = bd_A M 19 (76 + i)
      rw [k13.2.1 12 (by decide), k12.2.1 12 (by decide), r11 i hi]
    · have hi : i < 6 := hi
      show bd_A M13 13 i = bd_A M 19 (82 + i)
      rw [k13.2.1 13 (by decide), r12 i hi]
    · have hi : i < 6 := hi
      show bd_A M13 14 i = bd_A M 19 (88 + i)
      rw [r13 i hi]
    · have hi : i < 10 := hi
      show bd_A M13 7 i = bd_A M 19 (26 + i)
      rw [k13.2.1 7 (by decide), k12.2.1 7 (by decide), k11.2.1 7 (by decide), k10.2.1 7 (by decide), k9.2.1 7 (by decide), k8.2.1 7 (by decide), k7.2.1 7 (by decide), r6 i hi]
    · have hi : i < 10 := hi
      show bd_A M13 8 i = bd_A M 19 (36 + i)
      rw [k13.2.1 8 (by decide), k12.2.1 8 (by decide), k11.2.1 8 (by decide), k10.2.1 8 (by decide), k9.2.1 8 (by decide), k8.2.1 8 (by decide), r7 i hi]
    · have hi : i < 10 := hi
      show bd_A M13 9 i = bd_A M 19 (46 + i)
      rw [k13.2.1 9 (by decide), k12.2.1 9 (by decide), k11.2.1 9 (by decide), k10.2.1 9 (by decide), k9.2.1 9 (by decide), r8 i hi]
    · have hi : i < 10 := hi
      show bd_A M13 10 i = bd_A M 19 (56 + i)
      rw [k13.2.1 10 (by decide), k12.2.1 10 (by decide), k11.2.1 10 (by decide), k10.2.1 10 (by decide), r9 i hi]
    · have hi : i < 10 := hi
      show bd_A M13 11 i = bd_A M 19 (66 + i)
      rw [k13.2.1 11 (by decide), k12.2.1 11 (by decide), k11.2.1 11 (by decide), r10 i hi]
theorem r_image : rel_image RR := by
  intro S M h
  unfold f_X9_image f_X10_image
  obtain ⟨⟨p1, p2, p3, p4⟩, w, h1, h2, h3, h4, h5, h6⟩ := id h
  obtain ⟨S', e1, k1, i1, a1⟩ := px_take8 S
  obtain ⟨M', g1, j1, f1⟩ := pm_keepAll (M := bd_pI (bd_pI M 12 1) 11 1) rfl
  rw [e1, pz_b2, pz_si, pz_si, pz_si, g1, pz_b2]
  have K : kp S (bd_pI S' 0 1) [0, 6, 7, 8, 9, 20, 21, 22] [5, 6, 21, 22, 23, 24, 25, 26, 27, 28, 29, 30] [] := (k1.mono (by decide) (by decide) (by decide)).trans ((kp_pI _ _ _).mono (by decide) (by decide) (by decide))
  have J : kp M M' [11, 12, 13] [19] [] := ((kp_pI _ _ _).mono (by decide) (by decide) (by decide)).trans (((kp_pI _ _ _).mono (by decide) (by decide) (by decide)).trans (j1.mono (by decide) (by decide) (by decide)))
  have hX := wX_kp K (by decide) (by decide) h2
  have hM := wM_kp J (by decide) (by decide) h3
  refine ⟨nI (w 0 0), _, M', ?_, ?_, ⟨RpT_kp K J (by decide) p1, RpR_kp K J (by decide) p2, RpF_kp K J (by decide) p3, Or.inr ⟨rfl, ?_, w, h1, ?_, ?_⟩⟩, w, h1, hX, hM, cX'_kp K (by decide) h4, cM'_kp J (by decide) h5, preC_kp K (by decide) h6⟩
  · rw [show bd_I (bd_pI S' 0 1) 17 = nI (w 0 0) from hX.2.2.2.1]
  · rw [show bd_I M' 2 = nI (w 0 0) from hM.2.2.2.1]
  · rw [j1.1 11 (by decide)]; rfl
  · exact wXg_move h1 (fun j hj => by
      rw [← i1 j hj]
      rcases (show j = 0 ∨ j = 1 ∨ j = 2 ∨ j = 3 ∨ j = 4 ∨ j = 5 ∨ j = 6 by omega) with rfl | rfl | rfl | rfl | rfl | rfl | rfl <;> rfl) (fun c i hc hi => a1 c i hc hi) h2
  · refine wMg_move h1 (fun j hj => ?_) (fun c i hc hi => ?_) h3
    · rcases (show j = 0 ∨ j = 1 ∨ j = 2 ∨ j = 3 ∨ j = 4 ∨ j = 5 by omega) with rfl | rfl | rfl | rfl | rfl | rfl
      · show bd_A M' 19 95 = _
        rw [f1 95 (by decide)]; rfl
      · show bd_A M' 19 96 = _
        rw [f1 96 (by decide)]; rfl
      · show bd_A M' 19 97 = _
        rw [f1 97 (by decide)]; rfl
      · show bd_A M' 19 98 = _
        rw [f1 98 (by decide)]; rfl
      · show bd_A M' 19 94 = _
        rw [f1 94 (by decide)]; rfl
      · show bd_A M' 19 99 = _
        rw [f1 99 (by decide)]; rfl
    · rcases (show c = 0 ∨ c = 1 ∨ c = 2 ∨ c = 3 ∨ c = 4 ∨ c = 5 ∨ c = 6 ∨ c = 7 ∨ c = 8 ∨ c = 9 ∨ c = 10 ∨ c = 11 ∨ c = 12 by omega) with rfl | rfl | rfl | rfl | rfl | rfl | rfl | rfl | rfl | rfl | rfl | rfl | rfl
      · have hi : i < 4 := hi
        show bd_A M' 19 (18 + i) = bd_A M 5 i
        rw [f1 (18 + i) (by omega)]
        unfold kv
        rw [if_neg (show ¬ 18 + i < 6 by omega), if_neg (show ¬ 18 + i < 12 by omega), if_neg (show ¬ 18 + i < 18 by omega), if_pos (show 18 + i < 22 by omega), show 18 + i - 18 = i by omega]; rfl
      · have hi : i < 4 := hi
        show bd_A M' 19 (22 + i) = bd_A M 6 i
        rw [f1 (22 + i) (by omega)]
        unfold kv
        rw [if_neg (show ¬ 22 + i < 6 by omega), if_neg (show ¬ 22 + i < 12 by omega), if_neg (show ¬ 22 + i < 18 by omega), if_neg (show ¬ 22 + i < 22 by omega), if_pos (show 22 + i < 26 by omega), show 22 + i - 22 = i by omega]; rfl
      · have hi : i < 6 := hi
        show bd_A M' 19 (0 + i) = bd_A M 2 i
        rw [f1 (0 + i) (by omega)]
        unfold kv
        rw [if_pos (show 0 + i < 6 by omega), show 0 + i - 0 = i by omega]; rfl
      · have hi : i < 6 := hi
        show bd_A M' 19 (6 + i) = bd_A M 3 i
        rw [f1 (6 + i) (by omega)]
        unfold kv
        rw [if_neg (show ¬ 6 + i < 6 by omega), if_pos (show 6 + i < 12 by omega), show 6 + i - 6 = i by omega]; rfl
      · have hi : i < 6 := hi
        show bd_A M' 19 (12 + i) = bd_A M 4 i
        rw [f1 (12 + i) (by omega)]
        unfold kv
        rw [if_neg (show ¬ 12 + i < 6 by omega), if_neg (show ¬ 12 + i < 12 by omega), if_pos (show 12 + i < 18 by omega), show 12 + i - 12 = i by omega]; rfl
      · have hi : i < 6 := hi
        show bd_A M' 19 (76 + i) = bd_A M 12 i
        rw [f1 (76 + i) (by omega)]
        unfold kv
        rw [if_neg (show ¬ 76 + i < 6 by omega), if_neg (show ¬ 76 + i < 12 by omega), if_neg (show ¬ 76 + i < 18 by omega), if_neg (show ¬ 76 + i < 22 by omega), if_neg (show ¬ 76 + i < 26 by omega), if_neg (show ¬ 76 + i < 36 by omega), if_neg (show ¬ 76 + i < 46 by omega), if_neg (show ¬ 76 + i < 56 by omega), if_neg (show ¬ 76 + i < 66 by omega), if_neg (show ¬ 76 + i < 76 by omega), if_pos (show 76 + i < 82 by omega), show 76 + i - 76 = i by omega]; rfl
      · have hi : i < 6 := hi
        show bd_A M' 19 (82 + i) = bd_A M 13 i
        rw [f1 (82 + i) (by omega)]
        unfold kv
        rw [if_neg (show ¬ 82 + i < 6 by omega), if_neg (show ¬ 82 + i < 12 by omega), if_neg (show ¬ 82 + i < 18 by omega), if_neg (show ¬ 82 + i < 22 by omega), if_neg (show ¬ 82 + i < 26 by omega), if_neg (show ¬ 82 + i < 36 by omega), if_neg (show ¬ 82 + i < 46 by omega), if_neg (show ¬ 82 + i < 56 by omega), if_neg (show ¬ 82 + i < 66 by omega), if_neg (show ¬ 82 + i < 76 by omega), if_neg (show ¬ 82 + i < 82 by omega), if_pos (show 82 + i < 88 by omega), show 82 + i - 82 = i by omega]; rfl
      · have hi : i < 6 := hi
        show bd_A M' 19 (88 + i) = bd_A M 14 i
        rw [f1 (88 + i) (by omega)]
        unfold kv
        rw [if_neg (show ¬ 88 + i < 6 by omega), if_neg (show ¬ 88 + i < 12 by omega), if_neg (show ¬ 88 + i < 18 by omega), if_neg (show ¬ 88 + i < 22 by omega), if_neg (show ¬ 88 + i < 26 by omega), if_neg (show ¬ 88 + i < 36 by omega), if_neg (show ¬ 88 + i < 46 by omega), if_neg (show ¬ 88 + i < 56 by omega), if_neg (show ¬ 88 + i < 66 by omega), if_neg (show ¬ 88 + i < 76 by omega), if_neg (show ¬ 88 + i < 82 by omega), if_neg (show ¬ 88 + i < 88 by omega), if_pos (show 88 + i < 94 by omega), show 88 + i - 88 = i by omega]; rfl
      · have hi : i < 10 := hi
        show bd_A M' 19 (26 + i) = bd_A M 7 i
        rw [f1 (26 + i) (by omega)]
        unfold kv
        rw [if_neg (show ¬ 26 + i < 6 by omega), if_neg (show ¬ 26 + i < 12 by omega), if_neg (show ¬ 26 + i < 18 by omega), if_neg (show ¬ 26 + i < 22 by omega), if_neg (show ¬ 26 + i < 26 by omega), if_pos (show 26 + i < 36 by omega), show 26 + i - 26 = i by omega]; rfl
      · have hi : i < 10 := hi
        show bd_A M' 19 (36 + i) = bd_A M 8 i
        rw [f1 (36 + i) (by omega)]
        unfold kv
        rw [if_neg (show ¬ 36 + i < 6 by omega), if_neg (show ¬ 36 + i < 12 by omega), if_neg (show ¬ 36 + i < 18 by omega), if_neg (show ¬ 36 + i < 22 by omega), if_neg (show ¬ 36 + i < 26 by omega), if_neg (show ¬ 36 + i < 36 by omega), if_pos (show 36 + i < 46 by omega), show 36 + i - 36 = i by omega]; rfl
      · have hi : i < 10 := hi
        show bd_A M' 19 (46 + i) = bd_A M 9 i
        rw [f1 (46 + i) (by omega)]
        unfold kv
        rw [if_neg (show ¬ 46 + i < 6 by omega), if_neg (show ¬ 46 + i < 12 by omega), if_neg (show ¬ 46 + i < 18 by omega), if_neg (show ¬ 46 + i < 22 by omega), if_neg (show ¬ 46 + i < 26 by omega), if_neg (show ¬ 46 + i < 36 by omega), if_neg (show ¬ 46 + i < 46 by omega), if_pos (show 46 + i < 56 by omega), show 46 + i - 46 = i by omega]; rfl
      · have hi : i < 10 := hi
        show bd_A M' 19 (56 + i) = bd_A M 10 i
        rw [f1 (56 + i) (by omega)]
        unfold kv
        rw [if_neg (show ¬ 56 + i < 6 by omega), if_neg (show ¬ 56 + i < 12 by omega), if_neg (show ¬ 56 + i < 18 by omega), if_neg (show ¬ 56 + i < 22 by omega), if_neg (show ¬ 56 + i < 26 by omega), if_neg (show ¬ 56 + i < 36 by omega), if_neg (show ¬ 56 + i < 46 by omega), if_neg (show ¬ 56 + i < 56 by omega), if_pos (show 56 + i < 66 by omega), show 56 + i - 56 = i by omega]; rfl
      · have hi : i < 10 := hi
        show bd_A M' 19 (66 + i) = bd_A M 11 i
        rw [f1 (66 + i) (by omega)]
        unfold kv
        rw [if_neg (show ¬ 66 + i < 6 by omega), if_neg (show ¬ 66 + i < 12 by omega), if_neg (show ¬ 66 + i < 18 by omega), if_neg (show ¬ 66 + i < 22 by omega), if_neg (show ¬ 66 + i < 26 by omega), if_neg (show ¬ 66 + i < 36 by omega), if_neg (show ¬ 66 + i < 46 by omega), if_neg (show ¬ 66 + i < 56 by omega), if_neg (show ¬ 66 + i < 66 by omega), if_pos (show 66 + i < 76 by omega), show 66 + i - 66 = i by omega]; rfl
theorem r_on : rel_on RR := by
  intro S M h
  unfold f_X9_on f_X10_on
  obtain ⟨⟨p1, p2, p3, p4⟩, w, h1, h2, h3, h4, h5, h6⟩ := id h
  rcases id p4 with ⟨c1, c2⟩ | ⟨c1, c2, v, vF, vX, vM⟩
  · rw [c1, c2, if_pos (show (0 : Int32) = 0 from rfl), if_pos (show (0 : Int32) = 0 from rfl)]
    exact RR_no' h (n := 2) (x := -3) rfl (by omega)
  · rw [c1, c2, if_neg (show ¬ (1 : Int32) = 0 by decide), if_neg (show ¬ (1 : Int32) = 0 by decide)]
    obtain ⟨S1, e1, k1, i1, a1⟩ := px_back8 S
    obtain ⟨S2, e2, f2, f3, k2⟩ := px_forget (S := S1) (cX'_kp k1 (by decide) h4) h1.1.2.2.2.2
    obtain ⟨M1, g1, j1, y1, z1⟩ := pm_backAll (M := bd_pI M 12 0) rfl
    rw [e1, pz_b2, e2, pz_b2, pz_si, g1, pz_b2, pz_si]
    have K : kp S S2 [2, 3, 4, 5, 17, 18, 19, 15] [2, 3, 11, 12, 13, 14, 15, 16, 17, 18, 19, 20, 9] [] := (k1.mono (by decide) (by decide) (by decide)).trans (k2.mono (by decide) (by decide) (by decide))
    have J : kp M (bd_pI M1 7 1) [12, 13, 2, 3, 4, 5, 6, 8, 7] [2, 3, 4, 5, 6, 7, 8, 9, 10, 11, 12, 13, 14] [] := ((kp_pI _ _ _).mono (by decide) (by decide) (by decide)).trans ((j1.mono (by decide) (by decide) (by decide)).trans ((kp_pI _ _ _).mono (by decide) (by decide) (by decide)))
    have hX : wX S2 v := wX_kp k2 (by decide) (by decide) (wXg_move vF i1 a1 vX)
    have hM1 : wM M1 v := wMg_move vF (fun j hj => (y1 j hj).trans rfl) (fun c i hc hi => (z1 c i hc hi).trans rfl) vM
    have hM : wM (bd_pI M1 7 1) v := wM_kp (kp_pI M1 7 1) (by decide) (by decide) hM1
    refine ⟨nI (v 0 0), S2, _, ?_, ?_, ⟨RpT_kp K J (by decide) p1, RpR_kp K J (by decide) p2, RpF_kp K J (by decide) p3, RpP_kp K J (by decide) p4⟩, v, vF, hX, hM, cX'_new f2 f3, Or.inl rfl, preC_kp K (by decide) h6⟩
    · rw [show bd_I S2 17 = nI (v 0 0) from hX.2.2.2.1]
    · rw [show bd_I (bd_pI M1 7 1) 2 = nI (v 0 0) from hM.2.2.2.1]
