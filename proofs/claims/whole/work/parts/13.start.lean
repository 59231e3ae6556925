theorem sh_gen {w1 w2 : va_W} (p1 p2 : List Nat) (n : Nat) (h1 : w1.length = n) (hp : p1.all (fun i => decide (i < n)) = true) : (p1 ++ p2.map (n + ·)).map (fun i => (w1 ++ w2)[i]?) = p1.map (fun i => w1[i]?) ++ p2.map (fun i => w2[i]?) := by
  rw [List.map_append, List.map_map]
  have e1 : p1.map (fun i => (w1 ++ w2)[i]?) = p1.map (fun i => w1[i]?) := by
    apply List.map_congr_left
    intro i hi
    rw [List.getElem?_append_left (by rw [h1]; exact of_decide_eq_true (List.all_eq_true.mp hp i hi))]
  have e2 : p2.map ((fun i => (w1 ++ w2)[i]?) ∘ (n + ·)) = p2.map (fun i => w2[i]?) := by
    apply List.map_congr_left
    intro i hi
    show (w1 ++ w2)[n + i]? = _
    rw [List.getElem?_append_right (by omega), h1, Nat.add_sub_cancel_left]
  rw [e1, e2]
theorem fm_of {α β : Type} {is : List α} {f : α → Option β} {w : List β} (h : is.map f = w.map some) : is.filterMap f = w := by
  have e : is.filterMap f = (is.map f).filterMap id := by simp [List.filterMap_map]
  rw [e, h]
  simp [List.filterMap_map]

theorem bl_E {Γ : bd_G} {b L : Nat} {xs : Nat → Int32} {ε ε' : bd_E} (hC : bl_C Γ b L xs ε) (h : bd_y ε' = bd_y ε) : bl_C Γ b L xs ε' := by
  obtain ⟨p, l, e, R, s, m, args, below, meth, c, A, Q, D⟩ := Γ
  obtain ⟨hx, hb, hml, hown, hts, hr, hlk, hK, hrest⟩ := hC
  exact ⟨hx, hb, hml, hown, hts, hr, hlk, h ▸ hK, hrest⟩
theorem bl_perm {Γ : bd_G} {nL cells slots pc : Nat} {ws ws' : va_W} {ls : List (Nat × Value)} {st : List Value} (is : List Nat) (hn : va_nd is = true) (hs : is.map (fun i => ws[i]?) = ws'.map some) (k : bd_U Γ nL cells slots ws' pc ls st) : bd_U Γ nL cells slots ws pc ls st := by
  obtain ⟨p, l, e, R, s, m, args, below, meth, c, A, Q, D⟩ := Γ
  intro H locs arr hP hD hS hl
  exact k H locs arr (hP.sub is (fm_of hs)) (hD.sub is hn hs) hS hl
def bi_X : bd_T := (fun k => ([0, 0, 200, 0, (-1), 0, 200, 0, (-1), 0, 0, 0, 0, 0, 0, 0, 0, 0, 0, 0, 0, 0, 0] : List Int32).getD k 0, fun _ _ => 0, fun _ _ => 0)
def bi_M : bd_T := (fun k => ([0, 0, 0, 200, (-1), (-1), 0, 1, 0, 0, 0, 0, 0, 0] : List Int32).getD k 0, fun k => if k = 12 then (fun i => if i < 6 then (-1) else 0) else (fun _ => 0), fun _ _ => 0)
def ad_X (h : Nat) (u : Nat → Nat) : Nat → Nat := fun k => ([h, (u 0), (u 16), (u 32), (u 36), (u 38), (u 41), (u 43), (u 1), (u 8), (u 17), (u 24), (u 34), (u 35), (u 13), (u 14), (u 15), (u 29), (u 30), (u 31), (u 33), (u 37), (u 40), (u 2), (u 3), (u 4), (u 5), (u 6), (u 7), (u 9), (u 10), (u 11), (u 12), (u 18), (u 19), (u 20), (u 21), (u 22), (u 23), (u 25), (u 26), (u 27), (u 28), (u 39), (u 42), (u 44)] : List Nat).getD k 0
def ad_M (h : Nat) (u : Nat → Nat) : Nat → Nat := fun k => ([h, (u 0), (u 1), (u 2), (u 3), (u 4), (u 5), (u 6), (u 7), (u 8), (u 9), (u 10), (u 11), (u 12), (u 13), (u 14), (u 16), (u 17), (u 21), (u 22), (u 23), (u 15), (u 20), (u 18), (u 19)] : List Nat).getD k 0
def pm_X : List Nat := [0, 1, 17, 33, 37, 39, 42, 44, 2, 9, 18, 25, 35, 36, 14, 15, 16, 30, 31, 32, 34, 38, 41, 3, 4, 5, 6, 7, 8, 10, 11, 12, 13, 19, 20, 21, 22, 23, 24, 26, 27, 28, 29, 40, 43, 45]
def pm_M : List Nat := [0, 1, 2, 3, 4, 5, 6, 7, 8, 9, 10, 11, 12, 13, 14, 15, 17, 18, 22, 23, 24, 16, 21, 19, 20]
set_option maxRecDepth 100000 in
set_option maxHeartbeats 4000000 in
theorem sh_X (ε : bd_E) (h : Nat) (u : Nat → Nat) : pm_X.map (fun i => (G_X9_init ε h u)[i]?) = (cX (ε.1, ε.2.1, ε.2.2.1, ad_X h u) bi_X).map some := rfl
theorem le_X (ε : bd_E) (h : Nat) (u : Nat → Nat) : (G_X9_init ε h u).length = 46 := rfl
set_option maxRecDepth 100000 in
set_option maxHeartbeats 4000000 in
theorem sh_M (ε : bd_E) (h : Nat) (u : Nat → Nat) : pm_M.map (fun i => (G_X10_init ε h u)[i]?) = (cM (ε.1, ε.2.1, ε.2.2.1, ad_M h u) bi_M).map some := rfl
theorem le_M (ε : bd_E) (h : Nat) (u : Nat → Nat) : (G_X10_init ε h u).length = 25 := rfl
theorem sh_all (ε : bd_E) (h h' : Nat) (u u' : Nat → Nat) : (pm_X ++ pm_M.map (46 + ·)).map (fun i => (G_X9_init ε h u ++ G_X10_init ε h' u')[i]?) = (cX (ε.1, ε.2.1, ε.2.2.1, ad_X h u) bi_X ++ cM (ε.1, ε.2.1, ε.2.2.1, ad_M h' u') bi_M).map some := by
  rw [sh_gen pm_X pm_M 46 (le_X ε h u) (by decide), sh_X, sh_M, List.map_append]
set_option maxRecDepth 100000 in
set_option maxHeartbeats 4000000 in
theorem start_walk {Γ : bd_G} {b L : Nat} {xs : Nat → Int32} {ε : bd_E} {R : bd_T → bd_T → Prop} (hC : bl_C Γ b L xs ε) (hR : bl_Rel R) (h0 : R bi_X bi_M) (hL : L ≤ 2560) : bd_U Γ 4 0 0 [] 0 [(0, .ref b)] [] := by
  refine bl_new hC [.null, .null, .int 0, .null, .null, .int 0, .null, .null, .null, .null, .null] hin_X9 tyX9 tyX9_ok (ci := 8) mw_85 mw_86 mw_72 rfl (fun j hj => by match j, hj with | 0, _ => rfl | 1, _ => rfl | 2, _ => rfl | 3, _ => rfl | 4, _ => rfl | 5, _ => rfl | 6, _ => rfl | 7, _ => rfl | 8, _ => rfl | 9, _ => rfl | 10, _ => rfl | j + 11, h => exact absurd h (by omega)) (Nat.le_of_ble_eq_true rfl) (Nat.le_of_ble_eq_true rfl) (fun q => [(q, .inr (8, [.null, .null, .int 0, .null, .null, .int 0, .null, .null, .null, .null, .null]))]) (fun _ => rfl) dL_law_0 (fun q => ?_)
  refine bl_dup hC dL_law_3 rfl ?_
  refine bl_ctor (cells := 1) (slots := 11) (wr := []) hC (rm := ({ frames := 3, cells := 45, slots := 7464, locals := 52 } : Room)) [.ref q] (k_X9_init (bd_l Γ) (bd_D Γ) ε q) mw_89 mw_87 mw_88 mw_72 by_X9_init rfl ⟨rfl, rfl, Nat.le_of_ble_eq_true rfl, Nat.le_of_ble_eq_true rfl⟩ (Nat.le_of_ble_eq_true rfl) (Nat.le_of_ble_eq_true rfl) (Nat.le_of_ble_eq_true rfl) dL_law_4 (fun u => ?_)
  refine bl_astore_n hC [(1, .ref q), (0, .ref b)] dL_law_7 rfl (by decide) rfl ?_
  refine bl_new hC [.null, .null, .null, .null, .null, .int 0, .int 0, .int 0, .null, .null, .int 0, .int 0, .int 0, .int 0, .int 0, .null, .null, .null, .null, .null, .int 0, .null, .null, .null, .null, .null, .null, .null, .null, .int 0, .null, .null, .int 0, .null, .null, .int 0, .int 0, .int 0] hin_X10 tyX10 tyX10_ok (ci := 9) mw_554 mw_555 mw_82 rfl (fun j hj => by match j, hj with | 0, _ => rfl | 1, _ => rfl | 2, _ => rfl | 3, _ => rfl | 4, _ => rfl | 5, _ => rfl | 6, _ => rfl | 7, _ => rfl | 8, _ => rfl | 9, _ => rfl | 10, _ => rfl | 11, _ => rfl | 12, _ => rfl | 13, _ => rfl | 14, _ => rfl | 15, _ => rfl | 16, _ => rfl | 17, _ => rfl | 18, _ => rfl | 19, _ => rfl | 20, _ => rfl | 21, _ => rfl | 22, _ => rfl | 23, _ => rfl | 24, _ => rfl | 25, _ => rfl | 26, _ => rfl | 27, _ => rfl | 28, _ => rfl | 29, _ => rfl | 30, _ => rfl | 31, _ => rfl | 32, _ => rfl | 33, _ => rfl | 34, _ => rfl | 35, _ => rfl | 36, _ => rfl | 37, _ => rfl | j + 38, h => exact absurd h (by omega)) (Nat.le_of_ble_eq_true rfl) (Nat.le_of_ble_eq_true rfl) (fun q' => G_X9_init ε q u ++ [(q', .inr (9, [.null, .null, .null, .null, .null, .int 0, .int 0, .int 0, .null, .null, .int 0, .int 0, .int 0, .int 0, .int 0, .null, .null, .null, .null, .null, .int 0, .null, .null, .null, .null, .null, .null, .null, .null, .int 0, .null, .null, .int 0, .null, .null, .int 0, .int 0, .int 0]))]) (fun _ => rfl) dL_law_8 (fun q' => ?_)
  refine bl_dup hC dL_law_11 rfl ?_
  refine bl_ctor (cells := 47) (slots := 7513) (wr := G_X9_init ε q u) hC (rm := ({ frames := 1, cells := 24, slots := 15690, locals := 12 } : Room)) [.ref q'] (k_X10_init (bd_l Γ) (bd_D Γ) ε q') mw_558 mw_556 mw_557 mw_82 by_X10_init rfl ⟨rfl, rfl, Nat.le_of_ble_eq_true rfl, Nat.le_of_ble_eq_true rfl⟩ (Nat.le_of_ble_eq_true rfl) (Nat.le_of_ble_eq_true rfl) (Nat.le_of_ble_eq_true rfl) dL_law_12 (fun u' => ?_)
  refine bl_astore_n hC [(2, .ref q'), (1, .ref q), (0, .ref b)] dL_law_15 rfl (by decide) rfl ?_
  refine bl_iconst hC (0 : Int32) dL_law_16 rfl ?_
  refine bl_istore_n hC [(3, .int 0), (2, .ref q'), (1, .ref q), (0, .ref b)] dL_law_17 rfl (by decide) rfl ?_
  have hend := law_loop (ε := (ε.1, ε.2.1, ε.2.2.1, ad_X q u)) (μ := (ε.1, ε.2.1, ε.2.2.1, ad_M q' u')) (R := R) (Γ := Γ) (b := b) (L := L) (xs := xs) (bl_E hC rfl) rfl hR hL (L + 1) 0 bi_X bi_M (Nat.zero_le _) (by omega) h0
  exact bl_perm (pm_X ++ pm_M.map (46 + ·)) (by decide) (sh_all ε q q' u u') hend
set_option maxHeartbeats 4000000 in
theorem arr_of {s : State} {args : Array Value} {ty : FieldType} (hra : ∀ c, va_RA s c ty = (s.vm.findClass ("[" ++ ty.toString) = some c)) (h : (Cond.arrayClass ty).before args s = true) : ∃ c : ClassId, ArrOfT s c ty ∧ va_RA s c ty := by
  obtain ⟨c, k, comp, h1, h2, h3⟩ := Cond.arrayClass_spec h
  exact ⟨c, fun n z => ⟨fun k h => (by cases h), k, h2, comp, h3⟩, by rw [hra]; exact h1⟩
theorem nF_in : ∀ q ∈ bd_nF, Cond.fieldLinkNest q.1 q.2.1 q.2.2.1 q.2.2.2.1 q.2.2.2.2.1 q.2.2.2.2.2 ∈ lw_tbl := by decide +kernel
theorem nM_in : ∀ q ∈ bd_nM, Cond.methodLinkNest q.1 q.2.1 q.2.2.1 q.2.2.2 ∈ lw_tbl := by decide +kernel
theorem nD_in : ∀ q ∈ bd_nD, Cond.declares q ∈ lw_tbl := by decide +kernel
set_option maxRecDepth 100000 in
set_option maxHeartbeats 4000000 in
theorem start_of {R : bd_T → bd_T → Prop} (hR : bl_Rel R) (h0 : R bi_X bi_M) {p : Program} {e : Env} {s : State} {m : MethodId} {below : List Frame} {meth : Method} {c : Code} (l : Launch) {b L : Nat} {xs : Nat → Int32} (hL : L ≤ 2560) (C0 : lw_At p s m meth c b L xs) : W p l e room_1 s m #[Value.ref b] below meth c s.heap [] 0 0 (lw_Z below #[Value.ref b] s) (entryFrame m ([Value.ref b] : List Value).toArray 4) := by
  obtain ⟨hx, hb, hr, hml, hown, hts, hX, hbl, hlocks, hgv⟩ := id C0
  have htb : ∀ w ∈ bd_tbl, w.before #[Value.ref b] s = true := fun w h => hts w (bd_good0 w h).1
  obtain ⟨c0, i0, hKn0⟩ := u_known (C := RX0) (T := TX0) (N := 2) (n := 2) htb hin_X0 (htb _ mw_171)
  obtain ⟨c1, i1, hKn1⟩ := u_known (C := RX1) (T := TX1) (N := 1) (n := 1) htb hin_X1 (htb _ mw_192)
  obtain ⟨c2, i2, hKn2⟩ := u_known (C := RX2) (T := TX2) (N := 3) (n := 3) htb hin_X2 (htb _ mw_180)
  obtain ⟨c3, i3, hKn3⟩ := u_known (C := RX3) (T := TX3) (N := 1) (n := 1) htb hin_X3 (htb _ mw_201)
  obtain ⟨c4, i4, hKn4⟩ := u_known (C := RX4) (T := TX4) (N := 6) (n := 6) htb hin_X4 (htb _ mw_119)
  obtain ⟨c5, i5, hKn5⟩ := u_known (C := RX6) (T := TX6) (N := 6) (n := 6) htb hin_X6 (htb _ mw_154)
  obtain ⟨c6, i6, hKn6⟩ := u_known (C := RX7) (T := TX7) (N := 7) (n := 7) htb hin_X7 (htb _ mw_99)
  obtain ⟨c7, i7, hKn7⟩ := u_known (C := RX8) (T := TX8) (N := 9) (n := 9) htb hin_X8 (htb _ mw_94)
  obtain ⟨c8, i8, hKn8⟩ := u_known (C := RX9) (T := TX9) (N := 11) (n := 11) htb hin_X9 (htb _ mw_86)
  obtain ⟨c9, i9, hKn9⟩ := u_known (C := RX10) (T := TX10) (N := 38) (n := 38) htb hin_X10 (htb _ mw_555)
  obtain ⟨cI, hI1, hI2⟩ := arr_of (ty := .int) (fun _ => rfl) (htb _ mw_117)
  obtain ⟨cJ, hJ1, hJ2⟩ := arr_of (ty := .long) (fun _ => rfl) (htb _ mw_190)
  obtain ⟨cZ, hZ1, hZ2⟩ := arr_of (ty := .boolean) (fun _ => rfl) (htb _ mw_636)
  obtain ⟨dC, dI, hKc⟩ : ∃ (dC : Nat → ClassId) (dI : Nat → Nat → Nat), ∀ (k : Nat) (q : vw_C), vwCl[k]? = some q → u_Kn s q.1 q.2.1 q.2.2 (dC k) (dI k) := by
    refine ⟨fun k => if k = 0 then c0 else if k = 1 then c1 else if k = 2 then c2 else if k = 3 then c3 else if k = 4 then c4 else if k = 5 then c5 else if k = 6 then c6 else if k = 7 then c7 else if k = 8 then c8 else c9, fun k => if k = 0 then i0 else if k = 1 then i1 else if k = 2 then i2 else if k = 3 then i3 else if k = 4 then i4 else if k = 5 then i5 else if k = 6 then i6 else if k = 7 then i7 else if k = 8 then i8 else i9, ?_⟩
    intro k q hq
    match k, hq with
    | 0, hq => cases hq; exact hKn0
    | 1, hq => cases hq; exact hKn1
    | 2, hq => cases hq; exact hKn2
    | 3, hq => cases hq; exact hKn3
    | 4, hq => cases hq; exact hKn4
    | 5, hq => cases hq; exact hKn5
    | 6, hq => cases hq; exact hKn6
    | 7, hq => cases hq; exact hKn7
    | 8, hq => cases hq; exact hKn8
    | 9, hq => cases hq; exact hKn9
    | k + 10, hq => simp [vwCl] at hq
  have hK : va_K (dC, dI) vwCl (bd_y (cI, cJ, cZ, fun _ => 0)) s := ⟨hKc, fun k q h => by
    match k, h with
    | 0, h => cases h; exact ⟨hI1, hI2⟩
    | 1, h => cases h; exact ⟨hJ1, hJ2⟩
    | 2, h => cases h; exact ⟨hZ1, hZ2⟩
    | k + 3, h => simp [bd_y] at h⟩
  have hN : bd_N s := ⟨fun q hq => va_Nw.of rfl (hts _ (nD_in q hq)), fun q hq => va_Nw.of rfl (hts _ (nF_in q hq)), fun q hq => va_Nw.of rfl (hts _ (nM_in q hq))⟩
  have hl := lv_entry [Value.ref b] (n := 4) (Nat.le_of_ble_eq_true rfl)
  rw [lg_entry_eq]
  have hC : bl_C (p, l, e, room_1, s, m, #[Value.ref b], below, meth, c, (fun q : Nat => s.heap.size ≤ q), lw_Z below #[Value.ref b] s, (dC, dI)) b L xs (cI, cJ, cZ, fun _ => 0) := ⟨hx, hb, hml, hown, htb, hr, hlocks, hK, hN, rfl, fun _ h => h, rfl, hX, hbl, rfl, rfl⟩
  exact start_walk hC hR h0 hL s.heap [] _ (fun k q h => by simp at h) ⟨fun i j p q h => by simp at h, fun k q h => by simp at h⟩ va_S.rf hl
