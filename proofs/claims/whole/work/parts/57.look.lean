/-- a world with one LOOK more -/
def wL (w : bw) (t m a b : Nat) : bw := fun c i => if c = 0 then (if i = 6 then w 0 6 + 1 else w 0 i) else if c = 9 then (if i = w 0 6 then t else w 9 i) else if c = 10 then (if i = w 0 6 then m else w 10 i) else if c = 11 then (if i = w 0 6 then a else w 11 i) else if c = 12 then (if i = w 0 6 then b else w 12 i) else if c = 13 then (if i = w 0 6 then 0 else w 13 i) else w c i
theorem RR_look {S M : bd_T} {w : bw} (hp : RRp S M) (hw : Rw w S M) {t m a b : Nat} (ht : t < w 0 0) (hm : m ≤ 299) (hab : a ≤ b) (hb : b ≤ 9999) (hn : w 0 6 < 10) : ∃ S', f_X4_add (nI t) (nI m) (nI a) (nI b) S = some (nI (w 0 6), S') ∧ RR S' (bd_pI (bd_pI (bd_pA (bd_pA (bd_pA (bd_pA (bd_pA M 7 (w 0 6) (nI t)) 8 (w 0 6) (nI m)) 9 (w 0 6) (nI a)) 10 (w 0 6) (nI b)) 11 (w 0 6) 0) 8 (nI (w 0 6 + 1))) 7 1) := by
  obtain ⟨hf, hX, hM, hc, hmm, hpre⟩ := id hw
  obtain ⟨p1, p2, p3, p4⟩ := hp
  have i18 : bd_I S 18 = nI (w 0 6) := hX.2.2.2.2.1
  unfold f_X4_add
  rw [i18, pz_lay (k := 17) (show w 0 6 < 10 from hn) (by decide), pz_b2, pz_IA, i18, pz_lay (k := 18) (show w 0 6 < 10 from hn) (by decide), pz_b2, pz_IA, pz_IA, i18, pz_lay (k := 19) (show w 0 6 < 10 from hn) (by decide), pz_b2, pz_IA, pz_IA, pz_IA, i18, pz_lay (k := 20) (show w 0 6 < 10 from hn) (by decide), pz_b2, pz_IA, pz_IA, pz_IA, pz_IA, i18, pz_si, nI_1]
  have K : kp S (bd_pI (bd_pA (bd_pA (bd_pA (bd_pA S 17 (w 0 6) (nI t)) 18 (w 0 6) (nI m)) 19 (w 0 6) (nI a)) 20 (w 0 6) (nI b)) 18 (nI (w 0 6 + 1))) [18] [17, 18, 19, 20] [] := ((kp_pA _ _ _ _).mono (by decide) (by decide) (by decide)).trans (((kp_pA _ _ _ _).mono (by decide) (by decide) (by decide)).trans (((kp_pA _ _ _ _).mono (by decide) (by decide) (by decide)).trans (((kp_pA _ _ _ _).mono (by decide) (by decide) (by decide)).trans ((kp_pI _ _ _).mono (by decide) (by decide) (by decide)))))
  have J : kp M (bd_pI (bd_pI (bd_pA (bd_pA (bd_pA (bd_pA (bd_pA M 7 (w 0 6) (nI t)) 8 (w 0 6) (nI m)) 9 (w 0 6) (nI a)) 10 (w 0 6) (nI b)) 11 (w 0 6) 0) 8 (nI (w 0 6 + 1))) 7 1) [7, 8] [7, 8, 9, 10, 11] [] := ((kp_pA _ _ _ _).mono (by decide) (by decide) (by decide)).trans (((kp_pA _ _ _ _).mono (by decide) (by decide) (by decide)).trans (((kp_pA _ _ _ _).mono (by decide) (by decide) (by decide)).trans (((kp_pA _ _ _ _).mono (by decide) (by decide) (by decide)).trans (((kp_pA _ _ _ _).mono (by decide) (by decide) (by decide)).trans (((kp_pI _ _ _).mono (by decide) (by decide) (by decide)).trans ((kp_pI _ _ _).mono (by decide) (by decide) (by decide)))))))
  have n0 : ∀ i, wL w t m a b 0 i = if i = 6 then w 0 6 + 1 else w 0 i := fun i => rfl
  have n9 : ∀ i, wL w t m a b 9 i = if i = w 0 6 then t else w 9 i := fun i => rfl
  have n10 : ∀ i, wL w t m a b 10 i = if i = w 0 6 then m else w 10 i := fun i => rfl
  have n11 : ∀ i, wL w t m a b 11 i = if i = w 0 6 then a else w 11 i := fun i => rfl
  have n12 : ∀ i, wL w t m a b 12 i = if i = w 0 6 then b else w 12 i := fun i => rfl
  have n13 : ∀ i, wL w t m a b 13 i = if i = w 0 6 then 0 else w 13 i := fun i => rfl
  have hlt : ∀ i, i < w 0 6 + 1 → i ≠ w 0 6 → i < w 0 6 := fun i hi z => by omega
  have hd : wdb (wL w t m a b) (w 0 6 + 1) = wdb w (w 0 6) := by
    show bsum (fun k => decide (wL w t m a b 13 k = 1)) (w 0 6) + (if decide (wL w t m a b 13 (w 0 6) = 1) = true then 2 ^ (w 0 6) else 0) = _
    rw [n13 (w 0 6), if_pos rfl, if_neg (by decide), Nat.add_zero]
    exact bsum_congr (fun k hk => by
      show decide (wL w t m a b 13 k = 1) = decide (w 13 k = 1)
      rw [n13, if_neg (by omega)])
  have hs : sameL w (wL w t m a b) := ⟨fun i h1 h2 => by rw [n0, if_neg (by omega)], fun k hk => ⟨by rw [n9, if_neg (by omega)], by rw [n10, if_neg (by omega)], by rw [n11, if_neg (by omega)], by rw [n12, if_neg (by omega)], rfl, rfl, rfl⟩⟩
  refine ⟨_, by rw [pz_II, if_pos rfl, nI_pred], ⟨RpT_kp K J (by decide) p1, RpR_kp K J (by decide) p2, RpF_kp K J (by decide) p3, RpP_kp K J (by decide) p4⟩, wL w t m a b, ⟨⟨hf.1.1, hf.1.2.1, hf.1.2.2.1, hf.1.2.2.2.1, hn⟩, hf.2.1, hf.2.2.1, hf.2.2.2.1, fun i hi => ?_⟩, ⟨hX.1, hX.2.1, hX.2.2.1, hX.2.2.2.1, rfl, ?_, hX.2.2.2.2.2.2.1, hX.2.2.2.2.2.2.2.1, fun i hi => ?_⟩, ⟨hM.1, hM.2.1, hM.2.2.1, hM.2.2.2.1, rfl, hM.2.2.2.2.2.1, hM.2.2.2.2.2.2.1, fun i hi => ?_⟩, cX'_w hs (Nat.le_succ _) (cX'_kp K (by decide) hc), Or.inl rfl, preC_kp K (by decide) hpre⟩
  · rw [n9, n10, n11, n12, n13]
    by_cases z : i = w 0 6
    · rw [if_pos z, if_pos z, if_pos z, if_pos z, if_pos z]; exact ⟨ht, hm, hab, hb, Nat.zero_le _⟩
    · rw [if_neg z, if_neg z, if_neg z, if_neg z, if_neg z]; exact hf.2.2.2.2 i (hlt i hi z)
  · show bd_I S 19 = nI (wdb (wL w t m a b) (w 0 6 + 1))
    rw [hd]; exact hX.2.2.2.2.2.1
  · rw [n9, n10, n11, n12]
    show upd (bd_A S 17) (w 0 6) (nI t) i = _ ∧ upd (bd_A S 18) (w 0 6) (nI m) i = _ ∧ upd (bd_A S 19) (w 0 6) (nI a) i = _ ∧ upd (bd_A S 20) (w 0 6) (nI b) i = _
    rw [pz_up, pz_up, pz_up, pz_up]
    by_cases z : i = w 0 6
    · rw [if_pos z, if_pos z, if_pos z, if_pos z, if_pos z, if_pos z, if_pos z, if_pos z]; exact ⟨rfl, rfl, rfl, rfl⟩
    · rw [if_neg z, if_neg z, if_neg z, if_neg z, if_neg z, if_neg z, if_neg z, if_neg z]; exact hX.2.2.2.2.2.2.2.2 i (hlt i hi z)
  · rw [n9, n10, n11, n12, n13]
    show upd (bd_A M 7) (w 0 6) (nI t) i = _ ∧ upd (bd_A M 8) (w 0 6) (nI m) i = _ ∧ upd (bd_A M 9) (w 0 6) (nI a) i = _ ∧ upd (bd_A M 10) (w 0 6) (nI b) i = _ ∧ upd (bd_A M 11) (w 0 6) 0 i = _
    rw [pz_up, pz_up, pz_up, pz_up, pz_up]
    by_cases z : i = w 0 6
    · rw [if_pos z, if_pos z, if_pos z, if_pos z, if_pos z, if_pos z, if_pos z, if_pos z, if_pos z, if_pos z]; exact ⟨rfl, rfl, rfl, rfl, rfl⟩
    · rw [if_neg z, if_neg z, if_neg z, if_neg z, if_neg z, if_neg z, if_neg z, if_neg z, if_neg z, if_neg z]; exact hM.2.2.2.2.2.2.2 i (hlt i hi z)
theorem r_look : rel_look RR := by
  intro x y a b S M h
  unfold f_X9_look f_X10_look
  rcases RR_isThing h x with ⟨e1, e2⟩ | ⟨w, t, hw, ht, rfl, e1, e2⟩
  · rw [e1, e2, pz_b2, pz_b2, if_pos rfl, if_pos rfl]
    exact RR_no' h (n := 0) (x := -1) rfl (by omega)
  · rw [e1, e2, pz_b2, pz_b2, if_neg (show ¬ (1 : Int32) = 0 by decide), if_neg (show ¬ (1 : Int32) = 0 by decide)]
    rcases pz_num y with d | ⟨m, hm, rfl⟩
    · rw [if_pos d, if_pos d]
      exact RR_no' h (n := 3) (x := -4) rfl (by omega)
    · rw [if_neg (npos0 hm), if_neg (npos0 hm)]
      rcases pz_num a with d | ⟨l, hl, rfl⟩
      · rw [if_pos d, if_pos d]
        exact RR_no' h (n := 3) (x := -4) rfl (by omega)
      · rw [if_neg (npos0 hl), if_neg (npos0 hl)]
        rcases pz_num b with d | ⟨u, hu, rfl⟩
        · have e : ¬ nI l ≤ b := fun z => npos0 hl (Int32.lt_of_le_of_lt z d)
          rw [if_neg e, if_neg e]
          exact RR_no' h (n := 3) (x := -4) rfl (by omega)
        · by_cases e : l ≤ u
          · have e' : nI l ≤ nI u := nI_le e hu
            rw [if_pos e', if_pos e']
            by_cases f : m ≤ 299
            · rw [if_neg (show ¬ (299 : Int32) < nI m from fun z => by have := (lt299 hm).mp z; omega), if_neg (show ¬ (300 : Int32) ≤ nI m from fun z => by have := (ge300 hm).mp z; omega)]
              have e9 : ∀ {n : Nat}, n < 2 ^ 31 → (((9999 : Int32) < nI n) ↔ 9999 < n) := fun hn => nI_ltI (a := 9999) (by omega) hn
              by_cases g : u ≤ 9999
              · rw [if_neg (show ¬ (9999 : Int32) < nI u from fun z => by have := (e9 hu).mp z; omega), if_neg (show ¬ (9999 : Int32) < nI l from fun z => by have := (e9 hl).mp z; omega), if_neg (show ¬ (9999 : Int32) < nI u from fun z => by have := (e9 hu).mp z; omega)]
                have i18 : bd_I S 18 = nI (w 0 6) := hw.2.1.2.2.2.2.1
                have i8 : bd_I M 8 = nI (w 0 6) := hw.2.2.1.2.2.2.2.1
                have h10 := hw.1.1.2.2.2.2
                rw [i18, i8]
                by_cases c : w 0 6 = 10
                · rw [if_neg (show ¬ nI (w 0 6) < (10 : Int32) by rw [c]; decide), if_pos (show nI (w 0 6) = (10 : Int32) by rw [c]; rfl)]
                  exact RR_no' h (n := 5) (x := -6) rfl (by omega)
                · have hn : w 0 6 < 10 := by omega
                  rw [if_pos (show nI (w 0 6) < (10 : Int32) from nI_lt (b := 10) hn (by omega)), if_neg (show ¬ nI (w 0 6) = (10 : Int32) from fun z => c ((nI_eq (b := 10) (by omega) (by omega)).mp z))]
                  obtain ⟨S', f1, hr⟩ := RR_look h.1 hw ht f e g hn
                  rw [f1, pz_b2, pz_sa hn (by decide), pz_some, pz_IA, i8, pz_sa hn (by decide), pz_some, pz_IA, pz_IA, i8, pz_sa hn (by decide), pz_some, pz_IA, pz_IA, pz_IA, i8, pz_sa hn (by decide), pz_some, pz_IA, pz_IA, pz_IA, pz_IA, i8, pz_sa hn (by decide), pz_some, pz_IA, pz_IA, pz_IA, pz_IA, pz_IA, i8, pz_si, pz_si, nI_1]
                  refine ⟨_, S', _, rfl, ?_, hr⟩
                  rw [pz_II, if_neg (by decide), pz_II, if_pos rfl, nI_pred]
              · have g' := (e9 hu).mpr (by omega)
                rw [if_pos g']
                by_cases g2 : 9999 < l
                · rw [if_pos ((e9 hl).mpr g2)]
                  exact RR_no' h (n := 5) (x := -6) rfl (by omega)
                · rw [if_neg (show ¬ (9999 : Int32) < nI l from fun z => g2 ((e9 hl).mp z)), if_pos g']
                  exact RR_no' h (n := 5) (x := -6) rfl (by omega)
            · rw [if_pos ((lt299 hm).mpr (by omega)), if_pos ((ge300 hm).mpr (by omega))]
              exact RR_no' h (n := 5) (x := -6) rfl (by omega)
          · have e' : ¬ nI l ≤ nI u := nI_ge (by omega) hl
            rw [if_neg e', if_neg e']
            exact RR_no' h (n := 3) (x := -4) rfl (by omega)
