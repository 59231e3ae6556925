theorem neg_cases {x : Int32} (h : x < 0) : x < -1 ∨ x = -1 := by
  have a : x.toInt < 0 := Int32.lt_iff_toInt_lt.mp h
  by_cases c : x.toInt = -1
  · exact Or.inr (Int32.toInt_inj.mp (c.trans rfl))
  · refine Or.inl (Int32.lt_iff_toInt_lt.mpr ?_)
    show x.toInt < -1
    omega
theorem r_join : rel_join RR := by
  intro x y kd m S M h
  unfold f_X9_join f_X10_join
  rcases RR_isThing h x with ⟨e1, e2⟩ | ⟨w, t, hw, ht, rfl, e1, e2⟩
  · rw [e1, e2, pz_b2, pz_b2, if_pos rfl, if_pos rfl]
    exact RR_no' h (n := 0) (x := -1) rfl (by omega)
  · rw [e1, e2, pz_b2, pz_b2, if_neg (show ¬ (1 : Int32) = 0 by decide), if_neg (show ¬ (1 : Int32) = 0 by decide)]
    have h66 := hw.1.1.1
    have ht6 : t < 6 := by omega
    rcases pz_num y with d | ⟨o, ho, rfl⟩
    · rcases neg_cases d with d | rfl
      · rw [if_pos d, if_pos d]
        exact RR_no' h (n := 0) (x := -1) rfl (by omega)
      · have c : (-1 : Int32) < nI t := Int32.lt_of_lt_of_le (by decide : (-1 : Int32) < 0) (pos0 (by omega))
        rw [if_neg (show ¬ (-1 : Int32) < -1 by decide), if_neg (show ¬ (-1 : Int32) < -1 by decide), if_pos c, if_pos c, if_pos (show (-1 : Int32) = -1 from rfl), if_pos (show (-1 : Int32) < 0 by decide), pz_sa ht6 (by decide), pz_some]
        obtain ⟨S', f1, hr⟩ := RR_join (p := 0) (k := 0) (n := 0) (v := -1) h.1 hw ht (Nat.zero_le _) (by omega) (by omega) rfl (M' := bd_pA M 12 t (-1)) ((kp_pA _ _ _ _).mono (by decide) (by decide) (by decide)) (fun i _ => rfl) (fun i _ => by rw [if_neg (fun z => z.2 rfl)]; rfl) (fun i _ => by rw [if_neg (fun z => z.2 rfl)]; rfl)
        have f1 : f_X7_tie (nI t) (-1) 0 0 S = some (1, S') := f1
        rw [f1, pz_b2]
        exact ⟨_, S', _, rfl, rfl, hr⟩
    · have n1 : ¬ nI o < (-1 : Int32) := fun z => npos0 ho (Int32.lt_trans z (by decide))
      rw [if_neg n1, if_neg n1]
      by_cases c : o < t
      · have c' : nI o < nI t := nI_lt c (by omega)
        rw [if_pos c', if_pos c', if_neg (show ¬ nI o = (-1 : Int32) from fun z => npos0 ho (by rw [z]; decide)), if_neg (npos0 ho)]
        unfold f_X10_isIn
        rcases pz_num kd with d | ⟨k, hk, rfl⟩
        · rw [if_pos d, if_pos d, pz_b2, if_pos (show (0 : Int32) = 0 from rfl)]
          exact RR_no' h (n := 1) (x := -2) rfl (by omega)
        · rw [if_neg (npos0 hk), if_neg (npos0 hk)]
          by_cases f : k ≤ 3
          · rw [if_pos (show nI k ≤ (3 : Int32) from nI_le (b := 3) f (by omega)), if_neg (show ¬ (3 : Int32) < nI k from nI_nlt (a := 3) f (by omega)), pz_b2, if_neg (show ¬ (1 : Int32) = 0 by decide)]
            rcases RR_minute m S M with ⟨z, q, hq, hz, g1, g2⟩ | ⟨n, hn, rfl, g1, g2⟩
            · obtain ⟨z1, z2⟩ := refuse_neg hq hz
              rw [g1, g2, pz_b2, pz_b2, if_neg z1, if_neg z2]
              exact RR_no' h hz hq
            · rw [g1, g2, pz_b2, pz_b2, if_pos (show (0 : Int32) ≤ 0 by decide), if_pos (show (0 : Int32) = 0 from rfl), pz_sa ht6 (by decide), pz_some, pz_sa ht6 (by decide), pz_some, pz_sa ht6 (by decide), pz_some]
              obtain ⟨S', f1, hr⟩ := RR_join (p := o + 1) (k := k) (n := n) (v := nI o) h.1 hw ht (by omega) f (by omega) (nI_pred o).symm (M' := bd_pA (bd_pA (bd_pA M 13 t (nI k)) 14 t (nI n)) 12 t (nI o)) (((kp_pA _ _ _ _).mono (by decide) (by decide) (by decide)).trans (((kp_pA _ _ _ _).mono (by decide) (by decide) (by decide)).trans ((kp_pA _ _ _ _).mono (by decide) (by decide) (by decide)))) (fun i _ => rfl) (fun i _ => by
                show (if i = t then nI k else bd_A M 13 i) = _
                simp) (fun i _ => by
                show (if i = t then nI n else bd_A M 14 i) = _
                simp)
              rw [f1, pz_b2]
              exact ⟨_, S', _, rfl, rfl, hr⟩
          · rw [if_neg (show ¬ nI k ≤ (3 : Int32) from nI_ge (a := 3) (by omega) hk), if_pos (show (3 : Int32) < nI k from nI_lt (a := 3) (by omega) hk), pz_b2, if_pos (show (0 : Int32) = 0 from rfl)]
            exact RR_no' h (n := 1) (x := -2) rfl (by omega)
      · have c' : ¬ nI o < nI t := nI_nlt (by omega) ho
        rw [if_neg c', if_neg c']
        exact RR_no' h (n := 0) (x := -1) rfl (by omega)
