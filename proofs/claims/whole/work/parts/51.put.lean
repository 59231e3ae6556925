theorem r_thingOf : rel_thingOf RR := by
  intro x y S M h
  unfold f_X9_thingOf f_X10_thingOf
  rcases RR_isThing h x with ⟨e1, e2⟩ | ⟨w, t, hw, ht, rfl, e1, e2⟩
  · rw [e1, e2, pz_b2, pz_b2, if_pos rfl, if_pos rfl]
    obtain ⟨S', M', f1, f2, hr⟩ := RR_no h (n := 0) (x := -1) rfl (by omega)
    rw [f1, f2, pz_b2, pz_b2]
    exact ⟨_, S', M', rfl, rfl, hr⟩
  · have h66 := hw.1.1.1
    have a := hw.2.1.2.2.2.2.2.2.2.1 t ht
    have b := hw.2.2.1.2.2.2.2.2.2.1 t ht
    have a1 : bd_A S 11 t = nI (w 1 t) := a.1
    have a2 : bd_A S 12 t = nI (w 2 t) := a.2.1
    have a3 : bd_A S 13 t = nI (w 3 t) := a.2.2.1
    have b1 : bd_A M 2 t = nI (w 1 t) := b.1
    have b2 : bd_A M 3 t = nI (w 2 t) := b.2.1
    have b3 : bd_A M 4 t = nI (w 3 t) := b.2.2.1
    rw [e1, e2, pz_b2, pz_b2, if_neg (show ¬ (1 : Int32) = 0 by decide), if_neg (show ¬ (1 : Int32) = 0 by decide)]
    by_cases c0 : y = 0
    · rw [if_pos c0, if_pos c0, pz_at (k := 11) (show t < 6 by omega) (by decide), pz_b2, pz_ga (show t < 6 by omega) (by decide), pz_some, a1, b1]
      exact ⟨_, S, M, rfl, rfl, h⟩
    · rw [if_neg c0, if_neg c0]
      by_cases c1 : y = 1
      · rw [if_pos c1, if_pos c1, pz_at (k := 12) (show t < 6 by omega) (by decide), pz_b2, pz_ga (show t < 6 by omega) (by decide), pz_some, a2, b2]
        exact ⟨_, S, M, rfl, rfl, h⟩
      · rw [if_neg c1, if_neg c1]
        by_cases c2 : y = 2
        · rw [if_pos c2, if_pos c2, pz_at (k := 13) (show t < 6 by omega) (by decide), pz_b2, pz_ga (show t < 6 by omega) (by decide), pz_some, a3, b3]
          exact ⟨_, S, M, rfl, rfl, h⟩
        · rw [if_neg c2, if_neg c2]
          obtain ⟨S', M', f1, f2, hr⟩ := RR_no h (n := 1) (x := -2) rfl (by omega)
          rw [f1, f2, pz_b2, pz_b2]
          exact ⟨_, S', M', rfl, rfl, hr⟩
theorem r_put : rel_put RR := by
  intro x S M h
  unfold f_X9_put f_X10_put
  rcases RR_minute x S M with ⟨z, n, hn, hz, f1, f2⟩ | ⟨b, hb, rfl, f1, f2⟩
  · obtain ⟨z1, z2⟩ := refuse_neg hn hz
    obtain ⟨S', M', f3, f4, hr⟩ := RR_no h hz hn
    rw [f1, f2, pz_b2, pz_b2, if_neg z1, if_neg z2, if_neg z2, f3, f4, pz_b2, pz_b2]
    exact ⟨_, S', M', rfl, rfl, hr⟩
  · obtain ⟨⟨p1, ⟨m, q1, q2, q3, q4⟩, p3, p4⟩, w, h1, h2, h3, h4, h5, h6⟩ := id h
    rw [f1, f2, pz_b2, pz_b2, if_pos (show (0 : Int32) ≤ 0 by decide), if_pos (show (0 : Int32) = 0 from rfl), q2, q3]
    by_cases c : m = 6
    · rw [if_neg (show ¬ nI m < (6 : Int32) by rw [c]; decide), if_pos (show nI m = (6 : Int32) by rw [c]; rfl)]
      obtain ⟨S', M', f3, f4, hr⟩ := RR_no h (n := 5) (x := -6) rfl (by omega)
      rw [f3, f4, pz_b2, pz_b2]
      exact ⟨_, S', M', rfl, rfl, hr⟩
    · rw [if_pos (show nI m < (6 : Int32) from nI_lt (b := 6) (by omega) (by omega)), if_neg (show ¬ nI m = (6 : Int32) from fun z => c ((nI_eq (b := 6) (by omega) (by omega)).mp z)), if_pos (show (0 : Int32) = 0 from rfl), pz_lay (k := 0) (show m < 6 by omega) (by decide), pz_b2, pz_sa (show m < 6 by omega) (by decide), pz_some, pz_si, pz_si, pz_IA, pz_IA, q2, q3]
      have e : nI m + (1 : Int32) = nI (m + 1) := nI_1 m
      rw [e]
      have K : kp S (bd_pI (bd_pA S 0 m (nI b)) 1 (nI (m + 1))) [1] [0] [] := ((kp_pA _ _ _ _).mono (by decide) (by decide) (by decide)).trans ((kp_pI _ _ _).mono (by decide) (by decide) (by decide))
      have J : kp M (bd_pI (bd_pA M 17 m (nI b)) 10 (nI (m + 1))) [10] [17] [] := ((kp_pA _ _ _ _).mono (by decide) (by decide) (by decide)).trans ((kp_pI _ _ _).mono (by decide) (by decide) (by decide))
      refine ⟨nI (m + 1), _, _, rfl, rfl, ⟨RpT_kp K J (by decide) p1, ⟨m + 1, by omega, rfl, rfl, fun i hi => ?_⟩, RpF_kp K J (by decide) p3, RpP_kp K J (by decide) p4⟩, w, h1, wX_kp K (by decide) (by decide) h2, wM_kp J (by decide) (by decide) h3, cX'_kp K (by decide) h4, cM'_kp J (by decide) h5, preC_kp K (by decide) h6⟩
      by_cases z : i = m
      · refine ⟨b, hb, ?_, ?_⟩
        · show upd (bd_A S 0) m _ i = _
          rw [pz_up, if_pos z]
        · show upd (bd_A M 17) m _ i = _
          rw [pz_up, if_pos z]
      · obtain ⟨y, y1, y2, y3⟩ := q4 i (by omega)
        refine ⟨y, y1, ?_, ?_⟩
        · show upd (bd_A S 0) m _ i = _
          rw [pz_up, if_neg z]; exact y2
        · show upd (bd_A M 17) m _ i = _
          rw [pz_up, if_neg z]; exact y3
