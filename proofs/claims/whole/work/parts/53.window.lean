theorem RR_win {S S3 M M3 : bd_T} {w w' : bw} (hp : RRp S M) (hw : Rw w S M) (K : kp S S3 [3, 4] [] []) (J : kp M M3 [4, 5, 7] [] []) (hf : wF w') (hX : wX S3 w') (hM : wM M3 w') (h7 : bd_I M3 7 = 1) : ∃ S', f_X0_forget S3 = some ((), S') ∧ RR S' M3 := by
  obtain ⟨h1, h2, h3, h4, h5, h6⟩ := hw
  obtain ⟨p1, p2, p3, p4⟩ := hp
  obtain ⟨S', f1, f2, f3, K2⟩ := px_forget (S := S3) (cX'_kp K (by decide) h4) h1.1.2.2.2.2
  have K3 : kp S S' [3, 4, 15] [9] [] := (K.mono (by decide) (by decide) (by decide)).trans (K2.mono (by decide) (by decide) (by decide))
  exact ⟨S', f1, ⟨RpT_kp K3 J (by decide) p1, RpR_kp K3 J (by decide) p2, RpF_kp K3 J (by decide) p3, RpP_kp K3 J (by decide) p4⟩, w', hf, wX_kp K2 (by decide) (by decide) hX, hM, cX'_new f2 f3, Or.inl h7, preC_kp K3 (by decide) h6⟩
theorem r_window : rel_window RR := by
  intro x y S M h
  unfold f_X9_window f_X10_window
  obtain ⟨hp, w, hw⟩ := id h
  obtain ⟨h1, h2, h3, h4, h5, h6⟩ := id hw
  by_cases c : x = -1
  · rw [if_pos c, if_pos c, pz_si, if_pos c, pz_si, pz_si, c]
    unfold f_X8_shut f_X8_open
    have K : kp S (bd_pI (bd_pI S 3 0) 4 (-1)) [3, 4] [] [] := ((kp_pI _ _ _).mono (by decide) (by decide) (by decide)).trans ((kp_pI _ _ _).mono (by decide) (by decide) (by decide))
    have J : kp M (bd_pI (bd_pI (bd_pI M 4 (-1)) 5 (-1)) 7 1) [4, 5, 7] [] [] := ((kp_pI _ _ _).mono (by decide) (by decide) (by decide)).trans (((kp_pI _ _ _).mono (by decide) (by decide) (by decide)).trans ((kp_pI _ _ _).mono (by decide) (by decide) (by decide)))
    obtain ⟨S', f1, hr⟩ := RR_win (w' := wst w 0 2 0) hp hw K J ⟨⟨h1.1.1, h1.1.2.1, Nat.zero_le 1, h1.1.2.2.2⟩, fun z => absurd (show (0 : Nat) = 1 from z) (by decide), h1.2.2⟩ ⟨h2.1, Or.inl ⟨rfl, rfl, rfl⟩, h2.2.2⟩ ⟨h3.1, Or.inl ⟨rfl, rfl, rfl⟩, h3.2.2⟩ rfl
    simp only [pz_si, pz_b2, f1]
    exact ⟨_, S', _, rfl, rfl, hr⟩
  · rw [if_neg c, if_neg c]
    rcases pz_num x with d | ⟨a, ha, rfl⟩
    · rw [if_pos d, if_pos d]
      exact RR_no' h (n := 3) (x := -4) rfl (by omega)
    · rw [if_neg (npos0 ha), if_neg (npos0 ha)]
      rcases pz_num y with d | ⟨b, hb, rfl⟩
      · have e : ¬ nI a ≤ y := fun z => npos0 ha (Int32.lt_of_le_of_lt z d)
        rw [if_neg e, if_neg e]
        exact RR_no' h (n := 3) (x := -4) rfl (by omega)
      · by_cases e : a ≤ b
        · have e' : nI a ≤ nI b := nI_le e hb
          rw [if_pos e', if_pos e']
          by_cases f : b ≤ 299
          · rw [if_pos ((le299 hb).mpr f), if_neg (show ¬ (300 : Int32) ≤ nI a from fun z => by have := (ge300 ha).mp z; omega), if_pos ((lt300 hb).mpr (by omega)), pz_si, if_neg c, pz_si, pz_si]
            unfold f_X8_open
            have K : kp S (bd_pI (bd_pI S 3 (nI a)) 4 (nI b)) [3, 4] [] [] := ((kp_pI _ _ _).mono (by decide) (by decide) (by decide)).trans ((kp_pI _ _ _).mono (by decide) (by decide) (by decide))
            have J : kp M (bd_pI (bd_pI (bd_pI M 4 (nI a)) 5 (nI b)) 7 1) [4, 5, 7] [] [] := ((kp_pI _ _ _).mono (by decide) (by decide) (by decide)).trans (((kp_pI _ _ _).mono (by decide) (by decide) (by decide)).trans ((kp_pI _ _ _).mono (by decide) (by decide) (by decide)))
            obtain ⟨S', f1, hr⟩ := RR_win (w' := wst (wst (wst w 0 2 1) 0 3 a) 0 4 b) hp hw K J ⟨⟨h1.1.1, h1.1.2.1, Nat.le_refl 1, h1.1.2.2.2⟩, fun _ => ⟨e, f⟩, h1.2.2⟩ ⟨h2.1, Or.inr ⟨rfl, rfl, rfl⟩, h2.2.2⟩ ⟨h3.1, Or.inr ⟨rfl, rfl, rfl⟩, h3.2.2⟩ rfl
            simp only [pz_si, pz_b2, f1]
            exact ⟨_, S', _, rfl, rfl, hr⟩
          · rw [if_neg (show ¬ nI b ≤ (299 : Int32) from fun z => f ((le299 hb).mp z))]
            by_cases g : 300 ≤ a
            · rw [if_pos ((ge300 ha).mpr g)]
              exact RR_no' h (n := 5) (x := -6) rfl (by omega)
            · rw [if_neg (show ¬ (300 : Int32) ≤ nI a from fun z => g ((ge300 ha).mp z)), if_neg (show ¬ nI b < (300 : Int32) from fun z => by have := (lt300 hb).mp z; omega)]
              exact RR_no' h (n := 5) (x := -6) rfl (by omega)
        · have e' : ¬ nI a ≤ nI b := nI_ge (by omega) ha
          rw [if_neg e', if_neg e']
          exact RR_no' h (n := 3) (x := -4) rfl (by omega)
