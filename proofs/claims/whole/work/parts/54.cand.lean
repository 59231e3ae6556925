theorem r_candidate : rel_candidate RR := by
  intro x y S M h
  unfold f_X9_candidate f_X10_candidate
  obtain ⟨⟨p1, p2, p3, p4⟩, w, h1, h2, h3, h4, h5, h6⟩ := id h
  rcases pz_num x with d | ⟨a, ha, rfl⟩
  · rw [if_pos d, if_pos d]
    exact RR_no' h (n := 3) (x := -4) rfl (by omega)
  · rw [if_neg (npos0 ha), if_neg (npos0 ha)]
    rcases pz_num y with d | ⟨b, hb, rfl⟩
    · have e : ¬ nI a ≤ y := fun z => npos0 ha (Int32.lt_of_le_of_lt z d)
      rw [if_neg e, if_neg e]
      exact RR_no' h (n := 3) (x := -4) rfl (by omega)
    · by_cases e : a ≤ b
      · have e' : nI a ≤ nI b := nI_le e hb
        rw [if_pos e', if_pos e']
        have i5 : bd_I S 5 = nI (w 0 5) := h2.2.2.1
        have i6 : bd_I M 6 = nI (w 0 5) := h3.2.2.1
        have h54 := h1.1.2.2.2.1
        by_cases f : b ≤ 299
        · rw [if_neg (show ¬ (299 : Int32) < nI b from fun z => by have := (lt299 hb).mp z; omega), if_neg (show ¬ (300 : Int32) ≤ nI a from fun z => by have := (ge300 ha).mp z; omega), if_neg (show ¬ (300 : Int32) ≤ nI b from fun z => by have := (ge300 hb).mp z; omega), i5, i6]
          by_cases c : w 0 5 = 4
          · rw [if_neg (show ¬ nI (w 0 5) < (4 : Int32) by rw [c]; decide), if_pos (show nI (w 0 5) = (4 : Int32) by rw [c]; rfl)]
            exact RR_no' h (n := 5) (x := -6) rfl (by omega)
          · have c4 : w 0 5 < 4 := by omega
            unfold f_X8_addCandidate
            rw [if_pos (show nI (w 0 5) < (4 : Int32) from nI_lt (b := 4) c4 (by omega)), if_neg (show ¬ nI (w 0 5) = (4 : Int32) from fun z => c ((nI_eq (b := 4) (by omega) (by omega)).mp z)), i5, pz_lay (k := 2) (show w 0 5 < 4 from c4) (by decide), pz_b2, pz_IA, i5, pz_lay (k := 3) (show w 0 5 < 4 from c4) (by decide), pz_b2, pz_IA, pz_IA, i5, pz_si, pz_b2, pz_sa c4 (by decide), pz_some, pz_IA, i6, pz_sa c4 (by decide), pz_some, pz_IA, pz_IA, i6, pz_si, nI_1]
            have K : kp S (bd_pI (bd_pA (bd_pA S 2 (w 0 5) (nI a)) 3 (w 0 5) (nI b)) 5 (nI (w 0 5 + 1))) [5] [2, 3] [] := ((kp_pA _ _ _ _).mono (by decide) (by decide) (by decide)).trans (((kp_pA _ _ _ _).mono (by decide) (by decide) (by decide)).trans ((kp_pI _ _ _).mono (by decide) (by decide) (by decide)))
            have J : kp M (bd_pI (bd_pA (bd_pA M 5 (w 0 5) (nI a)) 6 (w 0 5) (nI b)) 6 (nI (w 0 5 + 1))) [6] [5, 6] [] := ((kp_pA _ _ _ _).mono (by decide) (by decide) (by decide)).trans (((kp_pA _ _ _ _).mono (by decide) (by decide) (by decide)).trans ((kp_pI _ _ _).mono (by decide) (by decide) (by decide)))
            let w' := wst (wst (wst w 7 (w 0 5) a) 8 (w 0 5) b) 0 5 (w 0 5 + 1)
            have n7 : ∀ i, w' 7 i = if i = w 0 5 then a else w 7 i := fun i => by
              show (if 7 = 0 ∧ i = 5 then _ else if 7 = 8 ∧ i = w 0 5 then _ else if 7 = 7 ∧ i = w 0 5 then a else w 7 i) = _
              simp
            have n8 : ∀ i, w' 8 i = if i = w 0 5 then b else w 8 i := fun i => by
              show (if 8 = 0 ∧ i = 5 then _ else if 8 = 8 ∧ i = w 0 5 then b else if 8 = 7 ∧ i = w 0 5 then a else w 8 i) = _
              simp
            have hlt : ∀ i, i < w 0 5 + 1 → i ≠ w 0 5 → i < w 0 5 := fun i hi z => by omega
            have hsame : sameL w w' := ⟨fun i hi1 hi4 => by
              show (if 0 = 0 ∧ i = 5 then _ else if 0 = 8 ∧ i = w 0 5 then b else if 0 = 7 ∧ i = w 0 5 then a else w 0 i) = _
              rw [if_neg (by omega), if_neg (by omega), if_neg (by omega)], fun k hk => ⟨rfl, rfl, rfl, rfl, rfl, rfl, rfl⟩⟩
            refine ⟨nI (w 0 5 + 1), _, _, rfl, rfl, ⟨RpT_kp K J (by decide) p1, RpR_kp K J (by decide) p2, RpF_kp K J (by decide) p3, RpP_kp K J (by decide) p4⟩, w', ⟨⟨h1.1.1, h1.1.2.1, h1.1.2.2.1, c4, h1.1.2.2.2.2⟩, h1.2.1, fun i hi => ?_, h1.2.2.2⟩, ⟨h2.1, h2.2.1, rfl, h2.2.2.2.1, h2.2.2.2.2.1, h2.2.2.2.2.2.1, fun i hi => ?_, h2.2.2.2.2.2.2.2⟩, ⟨h3.1, h3.2.1, rfl, h3.2.2.2.1, h3.2.2.2.2.1, fun i hi => ?_, h3.2.2.2.2.2.2⟩, cX'_w hsame (Nat.le_refl _) (cX'_kp K (by decide) h4), cM'_w hsame rfl (cM'_kp J (by decide) h5), preC_kp K (by decide) h6⟩
            · rw [n7, n8]
              by_cases z : i = w 0 5
              · rw [if_pos z, if_pos z]; exact ⟨e, f⟩
              · rw [if_neg z, if_neg z]; exact h1.2.2.1 i (hlt i hi z)
            · rw [n7, n8]
              show upd (bd_A S 2) (w 0 5) (nI a) i = _ ∧ upd (bd_A S 3) (w 0 5) (nI b) i = _
              rw [pz_up, pz_up]
              by_cases z : i = w 0 5
              · rw [if_pos z, if_pos z, if_pos z, if_pos z]; exact ⟨rfl, rfl⟩
              · rw [if_neg z, if_neg z, if_neg z, if_neg z]; exact h2.2.2.2.2.2.2.1 i (hlt i hi z)
            · rw [n7, n8]
              show upd (bd_A M 5) (w 0 5) (nI a) i = _ ∧ upd (bd_A M 6) (w 0 5) (nI b) i = _
              rw [pz_up, pz_up]
              by_cases z : i = w 0 5
              · rw [if_pos z, if_pos z, if_pos z, if_pos z]; exact ⟨rfl, rfl⟩
              · rw [if_neg z, if_neg z, if_neg z, if_neg z]; exact h3.2.2.2.2.2.1 i (hlt i hi z)
        · rw [if_pos ((lt299 hb).mpr (by omega))]
          by_cases g : 300 ≤ a
          · rw [if_pos ((ge300 ha).mpr g)]
            exact RR_no' h (n := 5) (x := -6) rfl (by omega)
          · rw [if_neg (show ¬ (300 : Int32) ≤ nI a from fun z => g ((ge300 ha).mp z)), if_pos ((ge300 hb).mpr (by omega))]
            exact RR_no' h (n := 5) (x := -6) rfl (by omega)
      · have e' : ¬ nI a ≤ nI b := nI_ge (by omega) ha
        rw [if_neg e', if_neg e']
        exact RR_no' h (n := 3) (x := -4) rfl (by omega)
