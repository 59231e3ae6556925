theorem bd_seg_get {α : Type} {n m k : Nat} (a c : List α) (f : Nat → α) (ha : a.length = m) (hk : k < n) : (a ++ ((List.range n).map f ++ c))[m + k]? = some (f k) := by
  subst ha
  rw [List.getElem?_append_right (by omega), Nat.add_sub_cancel_left, List.getElem?_append_left (by simpa using hk)]
  simp [hk]
theorem bd_seg_set {α : Type} {n m k : Nat} (a c : List α) (f g : Nat → α) (ha : a.length = m) (hk : k < n) (hg : ∀ i, i ≠ k → g i = f i) : (a ++ ((List.range n).map f ++ c)).set (m + k) (g k) = a ++ ((List.range n).map g ++ c) := by
  subst ha
  rw [List.set_append_right _ _ (by omega), Nat.add_sub_cancel_left, List.set_append_left _ _ (by simpa using hk)]
  congr 2
  apply List.ext_getElem (by simp)
  intro i h1 h2
  rw [List.getElem_set]
  by_cases h : k = i
  · subst h; simp
  · simp [h, hg i (fun z => h z.symm)]
/-! cells of cX: objects [(0, ''), (1, '.world'), (2, '.picture'), (3, '.tape'), (4, '.against'), (5, '.gathering'), (6, '.counting'), (7, '.least'), (8, '.world.things'), (9, '.world.looks'), (10, '.picture.things'), (11, '.picture.looks')]; rows of ints [(0, '.row'), (1, '.refusals'), (2, '.world.from'), (3, '.world.to'), (4, '.world.lefts'), (5, '.picture.from'), (6, '.picture.to'), (7, '.picture.lefts'), (8, '.tape.bytes'), (9, '.against.bits'), (10, '.gathering.path'), (11, '.world.things.law'), (12, '.world.things.beginning'), (13, '.world.things.pace'), (14, '.world.things.joined'), (15, '.world.things.kind'), (16, '.world.things.distance'), (17, '.world.looks.thing'), (18, '.world.looks.minute'), (19, '.world.looks.low'), (20, '.world.looks.high'), (21, '.picture.things.law'), (22, '.picture.things.beginning'), (23, '.picture.things.pace'), (24, '.picture.things.joined'), (25, '.picture.things.kind'), (26, '.picture.things.distance'), (27, '.picture.looks.thing'), (28, '.picture.looks.minute'), (29, '.picture.looks.low'), (30, '.picture.looks.high')]; of booleans []; of longs [(0, '.gathering.rows'), (1, '.counting.before'), (2, '.least.kept')]; whole fields [(0, '.pictured'), (1, '.rowLength'), (2, '.world.room'), (3, '.world.opens'), (4, '.world.closes'), (5, '.world.candidates'), (6, '.picture.room'), (7, '.picture.opens'), (8, '.picture.closes'), (9, '.picture.candidates'), (10, '.tape.length'), (11, '.tape.place'), (12, '.tape.law'), (13, '.tape.beginning'), (14, '.tape.pace'), (15, '.against.learned'), (16, '.gathering.pathLength'), (17, '.world.things.count'), (18, '.world.looks.count'), (19, '.world.looks.doubted'), (20, '.picture.things.count'), (21, '.picture.looks.count'), (22, '.picture.looks.doubted')] -/
def cX_len (k : Nat) : Nat := ([6, 6, 4, 4, 300, 4, 4, 300, 20, 1800, 6, 6, 6, 6, 6, 6, 6, 10, 10, 10, 10, 6, 6, 6, 6, 6, 6, 10, 10, 10, 10] : List Nat).getD k 0
def cX_ljn (k : Nat) : Nat := ([1800, 301, 2700] : List Nat).getD k 0
def cX_o (ε : bd_E) (S : bd_T) : va_W := [(bd_a ε 0, .inr (8, [.ref (bd_a ε 1), .ref (bd_a ε 2), .int (bd_I S 0), .ref (bd_a ε 3), .ref (bd_a ε 12), .int (bd_I S 1), .ref (bd_a ε 13), .ref (bd_a ε 4), .ref (bd_a ε 5), .ref (bd_a ε 6), .ref (bd_a ε 7)])), (bd_a ε 1, .inr (7, [.ref (bd_a ε 8), .ref (bd_a ε 9), .int (bd_I S 2), .int (bd_I S 3), .int (bd_I S 4), .int (bd_I S 5), .ref (bd_a ε 14), .ref (bd_a ε 15), .ref (bd_a ε 16)])), (bd_a ε 2, .inr (7, [.ref (bd_a ε 10), .ref (bd_a ε 11), .int (bd_I S 6), .int (bd_I S 7), .int (bd_I S 8), .int (bd_I S 9), .ref (bd_a ε 17), .ref (bd_a ε 18), .ref (bd_a ε 19)])), (bd_a ε 3, .inr (5, [.ref (bd_a ε 20), .int (bd_I S 10), .int (bd_I S 11), .int (bd_I S 12), .int (bd_I S 13), .int (bd_I S 14)])), (bd_a ε 4, .inr (0, [.ref (bd_a ε 21), .int (bd_I S 15)])), (bd_a ε 5, .inr (2, [.ref (bd_a ε 43), .ref (bd_a ε 22), .int (bd_I S 16)])), (bd_a ε 6, .inr (1, [.ref (bd_a ε 44)])), (bd_a ε 7, .inr (3, [.ref (bd_a ε 45)])), (bd_a ε 8, .inr (6, [.int (bd_I S 17), .ref (bd_a ε 23), .ref (bd_a ε 24), .ref (bd_a ε 25), .ref (bd_a ε 26), .ref (bd_a ε 27), .ref (bd_a ε 28)])), (bd_a ε 9, .inr (4, [.int (bd_I S 18), .int (bd_I S 19), .ref (bd_a ε 29), .ref (bd_a ε 30), .ref (bd_a ε 31), .ref (bd_a ε 32)])), (bd_a ε 10, .inr (6, [.int (bd_I S 20), .ref (bd_a ε 33), .ref (bd_a ε 34), .ref (bd_a ε 35), .ref (bd_a ε 36), .ref (bd_a ε 37), .ref (bd_a ε 38)])), (bd_a ε 11, .inr (4, [.int (bd_I S 21), .int (bd_I S 22), .ref (bd_a ε 39), .ref (bd_a ε 40), .ref (bd_a ε 41), .ref (bd_a ε 42)]))]
def cX_ia (ε : bd_E) (S : bd_T) (k : Nat) : Nat × va_E := (bd_a ε (12 + k), .inl (ε.1, cX_len k, .inl (bd_A S k)))
def cX_za (ε : bd_E) (S : bd_T) (k : Nat) : Nat × va_E := (bd_a ε (43 + k), .inl (ε.2.2.1, cX_len (31 + k), .inl (bd_A S (31 + k))))
def cX_ja (ε : bd_E) (S : bd_T) (k : Nat) : Nat × va_E := (bd_a ε (43 + k), .inl (ε.2.1, cX_ljn k, .inr (.inl (bd_J S k))))
def cX (ε : bd_E) (S : bd_T) : va_W := cX_o ε S ++ ((List.range 31).map (cX_ia ε S) ++ ((List.range 0).map (cX_za ε S) ++ (List.range 3).map (cX_ja ε S)))
theorem cX_o0 (ε : bd_E) (S : bd_T) : (cX ε S)[0]? = some (bd_a ε 0, .inr (8, [.ref (bd_a ε 1), .ref (bd_a ε 2), .int (bd_I S 0), .ref (bd_a ε 3), .ref (bd_a ε 12), .int (bd_I S 1), .ref (bd_a ε 13), .ref (bd_a ε 4), .ref (bd_a ε 5), .ref (bd_a ε 6), .ref (bd_a ε 7)])) := rfl
theorem cX_o1 (ε : bd_E) (S : bd_T) : (cX ε S)[1]? = some (bd_a ε 1, .inr (7, [.ref (bd_a ε 8), .ref (bd_a ε 9), .int (bd_I S 2), .int (bd_I S 3), .int (bd_I S 4), .int (bd_I S 5), .ref (bd_a ε 14), .ref (bd_a ε 15), .ref (bd_a ε 16)])) := rfl
theorem cX_o2 (ε : bd_E) (S : bd_T) : (cX ε S)[2]? = some (bd_a ε 2, .inr (7, [.ref (bd_a ε 10), .ref (bd_a ε 11), .int (bd_I S 6), .int (bd_I S 7), .int (bd_I S 8), .int (bd_I S 9), .ref (bd_a ε 17), .ref (bd_a ε 18), .ref (bd_a ε 19)])) := rfl
theorem cX_o3 (ε : bd_E) (S : bd_T) : (cX ε S)[3]? = some (bd_a ε 3, .inr (5, [.ref (bd_a ε 20), .int (bd_I S 10), .int (bd_I S 11), .int (bd_I S 12), .int (bd_I S 13), .int (bd_I S 14)])) := rfl
theorem cX_o4 (ε : bd_E) (S : bd_T) : (cX ε S)[4]? = some (bd_a ε 4, .inr (0, [.ref (bd_a ε 21), .int (bd_I S 15)])) := rfl
theorem cX_o5 (ε : bd_E) (S : bd_T) : (cX ε S)[5]? = some (bd_a ε 5, .inr (2, [.ref (bd_a ε 43), .ref (bd_a ε 22), .int (bd_I S 16)])) := rfl
theorem cX_o6 (ε : bd_E) (S : bd_T) : (cX ε S)[6]? = some (bd_a ε 6, .inr (1, [.ref (bd_a ε 44)])) := rfl
theorem cX_o7 (ε : bd_E) (S : bd_T) : (cX ε S)[7]? = some (bd_a ε 7, .inr (3, [.ref (bd_a ε 45)])) := rfl
theorem cX_o8 (ε : bd_E) (S : bd_T) : (cX ε S)[8]? = some (bd_a ε 8, .inr (6, [.int (bd_I S 17), .ref (bd_a ε 23), .ref (bd_a ε 24), .ref (bd_a ε 25), .ref (bd_a ε 26), .ref (bd_a ε 27), .ref (bd_a ε 28)])) := rfl
theorem cX_o9 (ε : bd_E) (S : bd_T) : (cX ε S)[9]? = some (bd_a ε 9, .inr (4, [.int (bd_I S 18), .int (bd_I S 19), .ref (bd_a ε 29), .ref (bd_a ε 30), .ref (bd_a ε 31), .ref (bd_a ε 32)])) := rfl
theorem cX_o10 (ε : bd_E) (S : bd_T) : (cX ε S)[10]? = some (bd_a ε 10, .inr (6, [.int (bd_I S 20), .ref (bd_a ε 33), .ref (bd_a ε 34), .ref (bd_a ε 35), .ref (bd_a ε 36), .ref (bd_a ε 37), .ref (bd_a ε 38)])) := rfl
theorem cX_o11 (ε : bd_E) (S : bd_T) : (cX ε S)[11]? = some (bd_a ε 11, .inr (4, [.int (bd_I S 21), .int (bd_I S 22), .ref (bd_a ε 39), .ref (bd_a ε 40), .ref (bd_a ε 41), .ref (bd_a ε 42)])) := rfl
theorem cX_gi (ε : bd_E) (S : bd_T) (k n : Nat) (hk : k < 31) (hn : cX_len k = n) : (cX ε S)[12 + k]? = some (bd_a ε (12 + k), .inl (ε.1, n, .inl (bd_A S k))) := by
  subst hn
  exact bd_seg_get (n := 31) (cX_o ε S) _ (cX_ia ε S) rfl hk
theorem cX_gz (ε : bd_E) (S : bd_T) (k n : Nat) (hk : k < 0) (hn : cX_len (31 + k) = n) : (cX ε S)[43 + k]? = some (bd_a ε (43 + k), .inl (ε.2.2.1, n, .inl (bd_A S (31 + k)))) := by
  subst hn
  have h := bd_seg_get (n := 0) (cX_o ε S ++ (List.range 31).map (cX_ia ε S)) ((List.range 3).map (cX_ja ε S)) (cX_za ε S) (m := 43) (by simp [cX_o]) hk
  rw [List.append_assoc] at h
  exact h
theorem cX_gj (ε : bd_E) (S : bd_T) (k n : Nat) (hk : k < 3) (hn : cX_ljn k = n) : (cX ε S)[43 + k]? = some (bd_a ε (43 + k), .inl (ε.2.1, n, .inr (.inl (bd_J S k)))) := by
  subst hn
  have h := bd_seg_get (n := 3) ((cX_o ε S ++ (List.range 31).map (cX_ia ε S)) ++ (List.range 0).map (cX_za ε S)) [] (cX_ja ε S) (m := 43) (by simp [cX_o]) hk
  rw [List.append_nil, List.append_assoc, List.append_assoc] at h
  exact h
theorem cX_si (ε : bd_E) (S : bd_T) (k n : Nat) (hk : k < 31) (hn : cX_len k = n) (v : Int32) (j : Nat) : (cX ε S).set (12 + k) (bd_a ε (12 + k), .inl (ε.1, n, .inl (upd (bd_A S k) j v))) = cX ε (bd_pA S k j v) := by
  subst hn
  have h := bd_seg_set (n := 31) (cX_o ε S) ((List.range 0).map (cX_za ε S) ++ (List.range 3).map (cX_ja ε S)) (cX_ia ε S) (cX_ia ε (bd_pA S k j v)) (m := 12) rfl hk (fun i hi => by simp [cX_ia, bd_A, bd_pA, hi])
  have e : (bd_a ε (12 + k), (.inl (ε.1, cX_len k, .inl (upd (bd_A S k) j v)) : va_E)) = cX_ia ε (bd_pA S k j v) k := by simp [cX_ia, bd_A, bd_pA]
  rw [e]
  unfold cX
  rw [h]
  have hz : (List.range 0).map (cX_za ε S) = (List.range 0).map (cX_za ε (bd_pA S k j v)) := by
    apply List.map_congr_left
    intro i _
    have : ¬ (31 + i = k) := by omega
    simp [cX_za, bd_A, bd_pA, this]
  rw [hz]
  rfl
theorem cX_sz (ε : bd_E) (S : bd_T) (k n : Nat) (hk : k < 0) (hn : cX_len (31 + k) = n) (j : Nat) (v : Int32) : (cX ε S).set (43 + k) (bd_a ε (43 + k), .inl (ε.2.2.1, n, .inl (upd (bd_A S (31 + k)) j v))) = cX ε (bd_pA S (31 + k) j v) := by
  subst hn
  have h := bd_seg_set (n := 0) (cX_o ε S ++ (List.range 31).map (cX_ia ε S)) ((List.range 3).map (cX_ja ε S)) (cX_za ε S) (cX_za ε (bd_pA S (31 + k) j v)) (m := 43) (by simp [cX_o]) hk (fun i hi => by simp [cX_za, bd_A, bd_pA, hi])
  have e : (bd_a ε (43 + k), (.inl (ε.2.2.1, cX_len (31 + k), .inl (upd (bd_A S (31 + k)) j v)) : va_E)) = cX_za ε (bd_pA S (31 + k) j v) k := by simp [cX_za, bd_A, bd_pA]
  rw [e]
  unfold cX
  rw [← List.append_assoc, h]
  have hz : (List.range 31).map (cX_ia ε S) = (List.range 31).map (cX_ia ε (bd_pA S (31 + k) j v)) := by
    apply List.map_congr_left
    intro i hi
    have hi := List.mem_range.mp hi
    have : ¬ (i = 31 + k) := by omega
    simp [cX_ia, bd_A, bd_pA, this]
  rw [hz, List.append_assoc]
  rfl
theorem cX_sj (ε : bd_E) (S : bd_T) (k n : Nat) (hk : k < 3) (hn : cX_ljn k = n) (v : Int64) (j : Nat) : (cX ε S).set (43 + k) (bd_a ε (43 + k), .inl (ε.2.1, n, .inr (.inl (vp_updL (bd_J S k) j v)))) = cX ε (bd_pJ S k j v) := by
  subst hn
  have h := bd_seg_set (n := 3) ((cX_o ε S ++ (List.range 31).map (cX_ia ε S)) ++ (List.range 0).map (cX_za ε S)) [] (cX_ja ε S) (cX_ja ε (bd_pJ S k j v)) (m := 43) (by simp [cX_o]) hk (fun i hi => by simp [cX_ja, bd_J, bd_pJ, hi])
  have e : (bd_a ε (43 + k), (.inl (ε.2.1, cX_ljn k, .inr (.inl (vp_updL (bd_J S k) j v))) : va_E)) = cX_ja ε (bd_pJ S k j v) k := by simp [cX_ja, bd_J, bd_pJ]
  rw [e]
  rw [List.append_nil, List.append_nil, List.append_assoc, List.append_assoc, List.append_assoc, List.append_assoc] at h
  exact h
theorem cX_p0 (ε : bd_E) (S : bd_T) (v : Int32) : (cX ε S).set 0 (bd_a ε 0, .inr (8, ([.ref (bd_a ε 1), .ref (bd_a ε 2), .int (bd_I S 0), .ref (bd_a ε 3), .ref (bd_a ε 12), .int (bd_I S 1), .ref (bd_a ε 13), .ref (bd_a ε 4), .ref (bd_a ε 5), .ref (bd_a ε 6), .ref (bd_a ε 7)] : List Value).set 2 (.int v))) = cX ε (bd_pI S 0 v) := rfl
theorem cX_p1 (ε : bd_E) (S : bd_T) (v : Int32) : (cX ε S).set 0 (bd_a ε 0, .inr (8, ([.ref (bd_a ε 1), .ref (bd_a ε 2), .int (bd_I S 0), .ref (bd_a ε 3), .ref (bd_a ε 12), .int (bd_I S 1), .ref (bd_a ε 13), .ref (bd_a ε 4), .ref (bd_a ε 5), .ref (bd_a ε 6), .ref (bd_a ε 7)] : List Value).set 5 (.int v))) = cX ε (bd_pI S 1 v) := rfl
theorem cX_p2 (ε : bd_E) (S : bd_T) (v : Int32) : (cX ε S).set 1 (bd_a ε 1, .inr (7, ([.ref (bd_a ε 8), .ref (bd_a ε 9), .int (bd_I S 2), .int (bd_I S 3), .int (bd_I S 4), .int (bd_I S 5), .ref (bd_a ε 14), .ref (bd_a ε 15), .ref (bd_a ε 16)] : List Value).set 2 (.int v))) = cX ε (bd_pI S 2 v) := rfl
theorem cX_p3 (ε : bd_E) (S : bd_T) (v : Int32) : (cX ε S).set 1 (bd_a ε 1, .inr (7, ([.ref (bd_a ε 8), .ref (bd_a ε 9), .int (bd_I S 2), .int (bd_I S 3), .int (bd_I S 4), .int (bd_I S 5), .ref (bd_a ε 14), .ref (bd_a ε 15), .ref (bd_a ε 16)] : List Value).set 3 (.int v))) = cX ε (bd_pI S 3 v) := rfl
theorem cX_p4 (ε : bd_E) (S : bd_T) (v : Int32) : (cX ε S).set 1 (bd_a ε 1, .inr (7, ([.ref (bd_a ε 8), .ref (bd_a ε 9), .int (bd_I S 2), .int (bd_I S 3), .int (bd_I S 4), .int (bd_I S 5), .ref (bd_a ε 14), .ref (bd_a ε 15), .ref (bd_a ε 16)] : List Value).set 4 (.int v))) = cX ε (bd_pI S 4 v) := rfl
theorem cX_p5 (ε : bd_E) (S : bd_T) (v : Int32) : (cX ε S).set 1 (bd_a ε 1, .inr (7, ([.ref (bd_a ε 8), .ref (bd_a ε 9), .int (bd_I S 2), .int (bd_I S 3), .int (bd_I S 4), .int (bd_I S 5), .ref (bd_a ε 14), .ref (bd_a ε 15), .ref (bd_a ε 16)] : List Value).set 5 (.int v))) = cX ε (bd_pI S 5 v) := rfl
theorem cX_p6 (ε : bd_E) (S : bd_T) (v : Int32) : (cX ε S).set 2 (bd_a ε 2, .inr (7, ([.ref (bd_a ε 10), .ref (bd_a ε 11), .int (bd_I S 6), .int (bd_I S 7), .int (bd_I S 8), .int (bd_I S 9), .ref (bd_a ε 17), .ref (bd_a ε 18), .ref (bd_a ε 19)] : List Value).set 2 (.int v))) = cX ε (bd_pI S 6 v) := rfl
theorem cX_p7 (ε : bd_E) (S : bd_T) (v : Int32) : (cX ε S).set 2 (bd_a ε 2, .inr (7, ([.ref (bd_a ε 10), .ref (bd_a ε 11), .int (bd_I S 6), .int (bd_I S 7), .int (bd_I S 8), .int (bd_I S 9), .ref (bd_a ε 17), .ref (bd_a ε 18), .ref (bd_a ε 19)] : List Value).set 3 (.int v))) = cX ε (bd_pI S 7 v) := rfl
theorem cX_p8 (ε : bd_E) (S : bd_T) (v : Int32) : (cX ε S).set 2 (bd_a ε 2, .inr (7, ([.ref (bd_a ε 10), .ref (bd_a ε 11), .int (bd_I S 6), .int (bd_I S 7), .int (bd_I S 8), .int (bd_I S 9), .ref (bd_a ε 17), .ref (bd_a ε 18), .ref (bd_a ε 19)] : List Value).set 4 (.int v))) = cX ε (bd_pI S 8 v) := rfl
theorem cX_p9 (ε : bd_E) (S : bd_T) (v : Int32) : (cX ε S).set 2 (bd_a ε 2, .inr (7, ([.ref (bd_a ε 10), .ref (bd_a ε 11), .int (bd_I S 6), .int (bd_I S 7), .int (bd_I S 8), .int (bd_I S 9), .ref (bd_a ε 17), .ref (bd_a ε 18), .ref (bd_a ε 19)] : List Value).set 5 (.int v))) = cX ε (bd_pI S 9 v) := rfl
theorem cX_p10 (ε : bd_E) (S : bd_T) (v : Int32) : (cX ε S).set 3 (bd_a ε 3, .inr (5, ([.ref (bd_a ε 20), .int (bd_I S 10), .int (bd_I S 11), .int (bd_I S 12), .int (bd_I S 13), .int (bd_I S 14)] : List Value).set 1 (.int v))) = cX ε (bd_pI S 10 v) := rfl
theorem cX_p11 (ε : bd_E) (S : bd_T) (v : Int32) : (cX ε S).set 3 (bd_a ε 3, .inr (5, ([.ref (bd_a ε 20), .int (bd_I S 10), .int (bd_I S 11), .int (bd_I S 12), .int (bd_I S 13), .int (bd_I S 14)] : List Value).set 2 (.int v))) = cX ε (bd_pI S 11 v) := rfl
theorem cX_p12 (ε : bd_E) (S : bd_T) (v : Int32) : (cX ε S).set 3 (bd_a ε 3, .inr (5, ([.ref (bd_a ε 20), .int (bd_I S 10), .int (bd_I S 11), .int (bd_I S 12), .int (bd_I S 13), .int (bd_I S 14)] : List Value).set 3 (.int v))) = cX ε (bd_pI S 12 v) := rfl
theorem cX_p13 (ε : bd_E) (S : bd_T) (v : Int32) : (cX ε S).set 3 (bd_a ε 3, .inr (5, ([.ref (bd_a ε 20), .int (bd_I S 10), .int (bd_I S 11), .int (bd_I S 12), .int (bd_I S 13), .int (bd_I S 14)] : List Value).set 4 (.int v))) = cX ε (bd_pI S 13 v) := rfl
theorem cX_p14 (ε : bd_E) (S : bd_T) (v : Int32) : (cX ε S).set 3 (bd_a ε 3, .inr (5, ([.ref (bd_a ε 20), .int (bd_I S 10), .int (bd_I S 11), .int (bd_I S 12), .int (bd_I S 13), .int (bd_I S 14)] : List Value).set 5 (.int v))) = cX ε (bd_pI S 14 v) := rfl
theorem cX_p15 (ε : bd_E) (S : bd_T) (v : Int32) : (cX ε S).set 4 (bd_a ε 4, .inr (0, ([.ref (bd_a ε 21), .int (bd_I S 15)] : List Value).set 1 (.int v))) = cX ε (bd_pI S 15 v) := rfl
theorem cX_p16 (ε : bd_E) (S : bd_T) (v : Int32) : (cX ε S).set 5 (bd_a ε 5, .inr (2, ([.ref (bd_a ε 43), .ref (bd_a ε 22), .int (bd_I S 16)] : List Value).set 2 (.int v))) = cX ε (bd_pI S 16 v) := rfl
theorem cX_p17 (ε : bd_E) (S : bd_T) (v : Int32) : (cX ε S).set 8 (bd_a ε 8, .inr (6, ([.int (bd_I S 17), .ref (bd_a ε 23), .ref (bd_a ε 24), .ref (bd_a ε 25), .ref (bd_a ε 26), .ref (bd_a ε 27), .ref (bd_a ε 28)] : List Value).set 0 (.int v))) = cX ε (bd_pI S 17 v) := rfl
theorem cX_p18 (ε : bd_E) (S : bd_T) (v : Int32) : (cX ε S).set 9 (bd_a ε 9, .inr (4, ([.int (bd_I S 18), .int (bd_I S 19), .ref (bd_a ε 29), .ref (bd_a ε 30), .ref (bd_a ε 31), .ref (bd_a ε 32)] : List Value).set 0 (.int v))) = cX ε (bd_pI S 18 v) := rfl
theorem cX_p19 (ε : bd_E) (S : bd_T) (v : Int32) : (cX ε S).set 9 (bd_a ε 9, .inr (4, ([.int (bd_I S 18), .int (bd_I S 19), .ref (bd_a ε 29), .ref (bd_a ε 30), .ref (bd_a ε 31), .ref (bd_a ε 32)] : List Value).set 1 (.int v))) = cX ε (bd_pI S 19 v) := rfl
theorem cX_p20 (ε : bd_E) (S : bd_T) (v : Int32) : (cX ε S).set 10 (bd_a ε 10, .inr (6, ([.int (bd_I S 20), .ref (bd_a ε 33), .ref (bd_a ε 34), .ref (bd_a ε 35), .ref (bd_a ε 36), .ref (bd_a ε 37), .ref (bd_a ε 38)] : List Value).set 0 (.int v))) = cX ε (bd_pI S 20 v) := rfl
theorem cX_p21 (ε : bd_E) (S : bd_T) (v : Int32) : (cX ε S).set 11 (bd_a ε 11, .inr (4, ([.int (bd_I S 21), .int (bd_I S 22), .ref (bd_a ε 39), .ref (bd_a ε 40), .ref (bd_a ε 41), .ref (bd_a ε 42)] : List Value).set 0 (.int v))) = cX ε (bd_pI S 21 v) := rfl
theorem cX_p22 (ε : bd_E) (S : bd_T) (v : Int32) : (cX ε S).set 11 (bd_a ε 11, .inr (4, ([.int (bd_I S 21), .int (bd_I S 22), .ref (bd_a ε 39), .ref (bd_a ε 40), .ref (bd_a ε 41), .ref (bd_a ε 42)] : List Value).set 1 (.int v))) = cX ε (bd_pI S 22 v) := rfl
/-! cells of cM: objects [(0, '')]; rows of ints [(0, '.refused'), (1, '.tape'), (2, '.law'), (3, '.beginning'), (4, '.pace'), (5, '.candidateFrom'), (6, '.candidateTo'), (7, '.lookOf'), (8, '.lookAt'), (9, '.low'), (10, '.high'), (11, '.doubted'), (12, '.joinedTo'), (13, '.joinKind'), (14, '.joinN'), (15, '.from'), (16, '.to'), (17, '.row'), (18, '.same'), (19, '.kept')]; of booleans [(20, '.lets'), (21, '.isMay')]; of longs [(0, '.many'), (1, '.below')]; whole fields [(0, '.taped'), (1, '.at'), (2, '.things'), (3, '.room'), (4, '.windowFrom'), (5, '.windowTo'), (6, '.candidates'), (7, '.isNew'), (8, '.looks'), (9, '.leftOut'), (10, '.rowMany'), (11, '.hasImage'), (12, '.isKeeping'), (13, '.cursor')] -/
def cM_len (k : Nat) : Nat := ([7, 20, 6, 6, 6, 4, 4, 10, 10, 10, 10, 10, 6, 6, 6, 6, 6, 6, 10000, 150, 3000, 300] : List Nat).getD k 0
def cM_ljn (k : Nat) : Nat := ([1800, 301] : List Nat).getD k 0
def cM_o (ε : bd_E) (S : bd_T) : va_W := [(bd_a ε 0, .inr (9, [.ref (bd_a ε 1), .ref (bd_a ε 2), .ref (bd_a ε 3), .ref (bd_a ε 4), .ref (bd_a ε 5), .int (bd_I S 0), .int (bd_I S 1), .int (bd_I S 2), .ref (bd_a ε 6), .ref (bd_a ε 7), .int (bd_I S 3), .int (bd_I S 4), .int (bd_I S 5), .int (bd_I S 6), .int (bd_I S 7), .ref (bd_a ε 8), .ref (bd_a ε 9), .ref (bd_a ε 10), .ref (bd_a ε 11), .ref (bd_a ε 12), .int (bd_I S 8), .ref (bd_a ε 13), .ref (bd_a ε 14), .ref (bd_a ε 15), .ref (bd_a ε 21), .ref (bd_a ε 16), .ref (bd_a ε 17), .ref (bd_a ε 23), .ref (bd_a ε 24), .int (bd_I S 9), .ref (bd_a ε 22), .ref (bd_a ε 18), .int (bd_I S 10), .ref (bd_a ε 19), .ref (bd_a ε 20), .int (bd_I S 11), .int (bd_I S 12), .int (bd_I S 13)]))]
def cM_ia (ε : bd_E) (S : bd_T) (k : Nat) : Nat × va_E := (bd_a ε (1 + k), .inl (ε.1, cM_len k, .inl (bd_A S k)))
def cM_za (ε : bd_E) (S : bd_T) (k : Nat) : Nat × va_E := (bd_a ε (21 + k), .inl (ε.2.2.1, cM_len (20 + k), .inl (bd_A S (20 + k))))
def cM_ja (ε : bd_E) (S : bd_T) (k : Nat) : Nat × va_E := (bd_a ε (23 + k), .inl (ε.2.1, cM_ljn k, .inr (.inl (bd_J S k))))
def cM (ε : bd_E) (S : bd_T) : va_W := cM_o ε S ++ ((List.range 20).map (cM_ia ε S) ++ ((List.range 2).map (cM_za ε S) ++ (List.range 2).map (cM_ja ε S)))
theorem cM_o0 (ε : bd_E) (S : bd_T) : (cM ε S)[0]? = some (bd_a ε 0, .inr (9, [.ref (bd_a ε 1), .ref (bd_a ε 2), .ref (bd_a ε 3), .ref (bd_a ε 4), .ref (bd_a ε 5), .int (bd_I S 0), .int (bd_I S 1), .int (bd_I S 2), .ref (bd_a ε 6), .ref (bd_a ε 7), .int (bd_I S 3), .int (bd_I S 4), .int (bd_I S 5), .int (bd_I S 6), .int (bd_I S 7), .ref (bd_a ε 8), .ref (bd_a ε 9), .ref (bd_a ε 10), .ref (bd_a ε 11), .ref (bd_a ε 12), .int (bd_I S 8), .ref (bd_a ε 13), .ref (bd_a ε 14), .ref (bd_a ε 15), .ref (bd_a ε 21), .ref (bd_a ε 16), .ref (bd_a ε 17), .ref (bd_a ε 23), .ref (bd_a ε 24), .int (bd_I S 9), .ref (bd_a ε 22), .ref (bd_a ε 18), .int (bd_I S 10), .ref (bd_a ε 19), .ref (bd_a ε 20), .int (bd_I S 11), .int (bd_I S 12), .int (bd_I S 13)])) := rfl
theorem cM_gi (ε : bd_E) (S : bd_T) (k n : Nat) (hk : k < 20) (hn : cM_len k = n) : (cM ε S)[1 + k]? = some (bd_a ε (1 + k), .inl (ε.1, n, .inl (bd_A S k))) := by
  subst hn
  exact bd_seg_get (n := 20) (cM_o ε S) _ (cM_ia ε S) rfl hk
theorem cM_gz (ε : bd_E) (S : bd_T) (k n : Nat) (hk : k < 2) (hn : cM_len (20 + k) = n) : (cM ε S)[21 + k]? = some (bd_a ε (21 + k), .inl (ε.2.2.1, n, .inl (bd_A S (20 + k)))) := by
  subst hn
  have h := bd_seg_get (n := 2) (cM_o ε S ++ (List.range 20).map (cM_ia ε S)) ((List.range 2).map (cM_ja ε S)) (cM_za ε S) (m := 21) (by simp [cM_o]) hk
  rw [List.append_assoc] at h
  exact h
theorem cM_gj (ε : bd_E) (S : bd_T) (k n : Nat) (hk : k < 2) (hn : cM_ljn k = n) : (cM ε S)[23 + k]? = some (bd_a ε (23 + k), .inl (ε.2.1, n, .inr (.inl (bd_J S k)))) := by
  subst hn
  have h := bd_seg_get (n := 2) ((cM_o ε S ++ (List.range 20).map (cM_ia ε S)) ++ (List.range 2).map (cM_za ε S)) [] (cM_ja ε S) (m := 23) (by simp [cM_o]) hk
  rw [List.append_nil, List.append_assoc, List.append_assoc] at h
  exact h
theorem cM_si (ε : bd_E) (S : bd_T) (k n : Nat) (hk : k < 20) (hn : cM_len k = n) (v : Int32) (j : Nat) : (cM ε S).set (1 + k) (bd_a ε (1 + k), .inl (ε.1, n, .inl (upd (bd_A S k) j v))) = cM ε (bd_pA S k j v) := by
  subst hn
  have h := bd_seg_set (n := 20) (cM_o ε S) ((List.range 2).map (cM_za ε S) ++ (List.range 2).map (cM_ja ε S)) (cM_ia ε S) (cM_ia ε (bd_pA S k j v)) (m := 1) rfl hk (fun i hi => by simp [cM_ia, bd_A, bd_pA, hi])
  have e : (bd_a ε (1 + k), (.inl (ε.1, cM_len k, .inl (upd (bd_A S k) j v)) : va_E)) = cM_ia ε (bd_pA S k j v) k := by simp [cM_ia, bd_A, bd_pA]
  rw [e]
  unfold cM
  rw [h]
  have hz : (List.range 2).map (cM_za ε S) = (List.range 2).map (cM_za ε (bd_pA S k j v)) := by
    apply List.map_congr_left
    intro i _
    have : ¬ (20 + i = k) := by omega
    simp [cM_za, bd_A, bd_pA, this]
  rw [hz]
  rfl
theorem cM_sz (ε : bd_E) (S : bd_T) (k n : Nat) (hk : k < 2) (hn : cM_len (20 + k) = n) (j : Nat) (v : Int32) : (cM ε S).set (21 + k) (bd_a ε (21 + k), .inl (ε.2.2.1, n, .inl (upd (bd_A S (20 + k)) j v))) = cM ε (bd_pA S (20 + k) j v) := by
  subst hn
  have h := bd_seg_set (n := 2) (cM_o ε S ++ (List.range 20).map (cM_ia ε S)) ((List.range 2).map (cM_ja ε S)) (cM_za ε S) (cM_za ε (bd_pA S (20 + k) j v)) (m := 21) (by simp [cM_o]) hk (fun i hi => by simp [cM_za, bd_A, bd_pA, hi])
  have e : (bd_a ε (21 + k), (.inl (ε.2.2.1, cM_len (20 + k), .inl (upd (bd_A S (20 + k)) j v)) : va_E)) = cM_za ε (bd_pA S (20 + k) j v) k := by simp [cM_za, bd_A, bd_pA]
  rw [e]
  unfold cM
  rw [← List.append_assoc, h]
  have hz : (List.range 20).map (cM_ia ε S) = (List.range 20).map (cM_ia ε (bd_pA S (20 + k) j v)) := by
    apply List.map_congr_left
    intro i hi
    have hi := List.mem_range.mp hi
    have : ¬ (i = 20 + k) := by omega
    simp [cM_ia, bd_A, bd_pA, this]
  rw [hz, List.append_assoc]
  rfl
theorem cM_sj (ε : bd_E) (S : bd_T) (k n : Nat) (hk : k < 2) (hn : cM_ljn k = n) (v : Int64) (j : Nat) : (cM ε S).set (23 + k) (bd_a ε (23 + k), .inl (ε.2.1, n, .inr (.inl (vp_updL (bd_J S k) j v)))) = cM ε (bd_pJ S k j v) := by
  subst hn
  have h := bd_seg_set (n := 2) ((cM_o ε S ++ (List.range 20).map (cM_ia ε S)) ++ (List.range 2).map (cM_za ε S)) [] (cM_ja ε S) (cM_ja ε (bd_pJ S k j v)) (m := 23) (by simp [cM_o]) hk (fun i hi => by simp [cM_ja, bd_J, bd_pJ, hi])
  have e : (bd_a ε (23 + k), (.inl (ε.2.1, cM_ljn k, .inr (.inl (vp_updL (bd_J S k) j v))) : va_E)) = cM_ja ε (bd_pJ S k j v) k := by simp [cM_ja, bd_J, bd_pJ]
  rw [e]
  rw [List.append_nil, List.append_nil, List.append_assoc, List.append_assoc, List.append_assoc, List.append_assoc] at h
  exact h
theorem cM_p0 (ε : bd_E) (S : bd_T) (v : Int32) : (cM ε S).set 0 (bd_a ε 0, .inr (9, ([.ref (bd_a ε 1), .ref (bd_a ε 2), .ref (bd_a ε 3), .ref (bd_a ε 4), .ref (bd_a ε 5), .int (bd_I S 0), .int (bd_I S 1), .int (bd_I S 2), .ref (bd_a ε 6), .ref (bd_a ε 7), .int (bd_I S 3), .int (bd_I S 4), .int (bd_I S 5), .int (bd_I S 6), .int (bd_I S 7), .ref (bd_a ε 8), .ref (bd_a ε 9), .ref (bd_a ε 10), .ref (bd_a ε 11), .ref (bd_a ε 12), .int (bd_I S 8), .ref (bd_a ε 13), .ref (bd_a ε 14), .ref (bd_a ε 15), .ref (bd_a ε 21), .ref (bd_a ε 16), .ref (bd_a ε 17), .ref (bd_a ε 23), .ref (bd_a ε 24), .int (bd_I S 9), .ref (bd_a ε 22), .ref (bd_a ε 18), .int (bd_I S 10), .ref (bd_a ε 19), .ref (bd_a ε 20), .int (bd_I S 11), .int (bd_I S 12), .int (bd_I S 13)] : List Value).set 5 (.int v))) = cM ε (bd_pI S 0 v) := rfl
theorem cM_p1 (ε : bd_E) (S : bd_T) (v : Int32) : (cM ε S).set 0 (bd_a ε 0, .inr (9, ([.ref (bd_a ε 1), .ref (bd_a ε 2), .ref (bd_a ε 3), .ref (bd_a ε 4), .ref (bd_a ε 5), .int (bd_I S 0), .int (bd_I S 1), .int (bd_I S 2), .ref (bd_a ε 6), .ref (bd_a ε 7), .int (bd_I S 3), .int (bd_I S 4), .int (bd_I S 5), .int (bd_I S 6), .int (bd_I S 7), .ref (bd_a ε 8), .ref (bd_a ε 9), .ref (bd_a ε 10), .ref (bd_a ε 11), .ref (bd_a ε 12), .int (bd_I S 8), .ref (bd_a ε 13), .ref (bd_a ε 14), .ref (bd_a ε 15), .ref (bd_a ε 21), .ref (bd_a ε 16), .ref (bd_a ε 17), .ref (bd_a ε 23), .ref (bd_a ε 24), .int (bd_I S 9), .ref (bd_a ε 22), .ref (bd_a ε 18), .int (bd_I S 10), .ref (bd_a ε 19), .ref (bd_a ε 20), .int (bd_I S 11), .int (bd_I S 12), .int (bd_I S 13)] : List Value).set 6 (.int v))) = cM ε (bd_pI S 1 v) := rfl
theorem cM_p2 (ε : bd_E) (S : bd_T) (v : Int32) : (cM ε S).set 0 (bd_a ε 0, .inr (9, ([.ref (bd_a ε 1), .ref (bd_a ε 2), .ref (bd_a ε 3), .ref (bd_a ε 4), .ref (bd_a ε 5), .int (bd_I S 0), .int (bd_I S 1), .int (bd_I S 2), .ref (bd_a ε 6), .ref (bd_a ε 7), .int (bd_I S 3), .int (bd_I S 4), .int (bd_I S 5), .int (bd_I S 6), .int (bd_I S 7), .ref (bd_a ε 8), .ref (bd_a ε 9), .ref (bd_a ε 10), .ref (bd_a ε 11), .ref (bd_a ε 12), .int (bd_I S 8), .ref (bd_a ε 13), .ref (bd_a ε 14), .ref (bd_a ε 15), .ref (bd_a ε 21), .ref (bd_a ε 16), .ref (bd_a ε 17), .ref (bd_a ε 23), .ref (bd_a ε 24), .int (bd_I S 9), .ref (bd_a ε 22), .ref (bd_a ε 18), .int (bd_I S 10), .ref (bd_a ε 19), .ref (bd_a ε 20), .int (bd_I S 11), .int (bd_I S 12), .int (bd_I S 13)] : List Value).set 7 (.int v))) = cM ε (bd_pI S 2 v) := rfl
theorem cM_p3 (ε : bd_E) (S : bd_T) (v : Int32) : (cM ε S).set 0 (bd_a ε 0, .inr (9, ([.ref (bd_a ε 1), .ref (bd_a ε 2), .ref (bd_a ε 3), .ref (bd_a ε 4), .ref (bd_a ε 5), .int (bd_I S 0), .int (bd_I S 1), .int (bd_I S 2), .ref (bd_a ε 6), .ref (bd_a ε 7), .int (bd_I S 3), .int (bd_I S 4), .int (bd_I S 5), .int (bd_I S 6), .int (bd_I S 7), .ref (bd_a ε 8), .ref (bd_a ε 9), .ref (bd_a ε 10), .ref (bd_a ε 11), .ref (bd_a ε 12), .int (bd_I S 8), .ref (bd_a ε 13), .ref (bd_a ε 14), .ref (bd_a ε 15), .ref (bd_a ε 21), .ref (bd_a ε 16), .ref (bd_a ε 17), .ref (bd_a ε 23), .ref (bd_a ε 24), .int (bd_I S 9), .ref (bd_a ε 22), .ref (bd_a ε 18), .int (bd_I S 10), .ref (bd_a ε 19), .ref (bd_a ε 20), .int (bd_I S 11), .int (bd_I S 12), .int (bd_I S 13)] : List Value).set 10 (.int v))) = cM ε (bd_pI S 3 v) := rfl
theorem cM_p4 (ε : bd_E) (S : bd_T) (v : Int32) : (cM ε S).set 0 (bd_a ε 0, .inr (9, ([.ref (bd_a ε 1), .ref (bd_a ε 2), .ref (bd_a ε 3), .ref (bd_a ε 4), .ref (bd_a ε 5), .int (bd_I S 0), .int (bd_I S 1), .int (bd_I S 2), .ref (bd_a ε 6), .ref (bd_a ε 7), .int (bd_I S 3), .int (bd_I S 4), .int (bd_I S 5), .int (bd_I S 6), .int (bd_I S 7), .ref (bd_a ε 8), .ref (bd_a ε 9), .ref (bd_a ε 10), .ref (bd_a ε 11), .ref (bd_a ε 12), .int (bd_I S 8), .ref (bd_a ε 13), .ref (bd_a ε 14), .ref (bd_a ε 15), .ref (bd_a ε 21), .ref (bd_a ε 16), .ref (bd_a ε 17), .ref (bd_a ε 23), .ref (bd_a ε 24), .int (bd_I S 9), .ref (bd_a ε 22), .ref (bd_a ε 18), .int (bd_I S 10), .ref (bd_a ε 19), .ref (bd_a ε 20), .int (bd_I S 11), .int (bd_I S 12), .int (bd_I S 13)] : List Value).set 11 (.int v))) = cM ε (bd_pI S 4 v) := rfl
theorem cM_p5 (ε : bd_E) (S : bd_T) (v : Int32) : (cM ε S).set 0 (bd_a ε 0, .inr (9, ([.ref (bd_a ε 1), .ref (bd_a ε 2), .ref (bd_a ε 3), .ref (bd_a ε 4), .ref (bd_a ε 5), .int (bd_I S 0), .int (bd_I S 1), .int (bd_I S 2), .ref (bd_a ε 6), .ref (bd_a ε 7), .int (bd_I S 3), .int (bd_I S 4), .int (bd_I S 5), .int (bd_I S 6), .int (bd_I S 7), .ref (bd_a ε 8), .ref (bd_a ε 9), .ref (bd_a ε 10), .ref (bd_a ε 11), .ref (bd_a ε 12), .int (bd_I S 8), .ref (bd_a ε 13), .ref (bd_a ε 14), .ref (bd_a ε 15), .ref (bd_a ε 21), .ref (bd_a ε 16), .ref (bd_a ε 17), .ref (bd_a ε 23), .ref (bd_a ε 24), .int (bd_I S 9), .ref (bd_a ε 22), .ref (bd_a ε 18), .int (bd_I S 10), .ref (bd_a ε 19), .ref (bd_a ε 20), .int (bd_I S 11), .int (bd_I S 12), .int (bd_I S 13)] : List Value).set 12 (.int v))) = cM ε (bd_pI S 5 v) := rfl
theorem cM_p6 (ε : bd_E) (S : bd_T) (v : Int32) : (cM ε S).set 0 (bd_a ε 0, .inr (9, ([.ref (bd_a ε 1), .ref (bd_a ε 2), .ref (bd_a ε 3), .ref (bd_a ε 4), .ref (bd_a ε 5), .int (bd_I S 0), .int (bd_I S 1), .int (bd_I S 2), .ref (bd_a ε 6), .ref (bd_a ε 7), .int (bd_I S 3), .int (bd_I S 4), .int (bd_I S 5), .int (bd_I S 6), .int (bd_I S 7), .ref (bd_a ε 8), .ref (bd_a ε 9), .ref (bd_a ε 10), .ref (bd_a ε 11), .ref (bd_a ε 12), .int (bd_I S 8), .ref (bd_a ε 13), .ref (bd_a ε 14), .ref (bd_a ε 15), .ref (bd_a ε 21), .ref (bd_a ε 16), .ref (bd_a ε 17), .ref (bd_a ε 23), .ref (bd_a ε 24), .int (bd_I S 9), .ref (bd_a ε 22), .ref (bd_a ε 18), .int (bd_I S 10), .ref (bd_a ε 19), .ref (bd_a ε 20), .int (bd_I S 11), .int (bd_I S 12), .int (bd_I S 13)] : List Value).set 13 (.int v))) = cM ε (bd_pI S 6 v) := rfl
theorem cM_p7 (ε : bd_E) (S : bd_T) (v : Int32) : (cM ε S).set 0 (bd_a ε 0, .inr (9, ([.ref (bd_a ε 1), .ref (bd_a ε 2), .ref (bd_a ε 3), .ref (bd_a ε 4), .ref (bd_a ε 5), .int (bd_I S 0), .int (bd_I S 1), .int (bd_I S 2), .ref (bd_a ε 6), .ref (bd_a ε 7), .int (bd_I S 3), .int (bd_I S 4), .int (bd_I S 5), .int (bd_I S 6), .int (bd_I S 7), .ref (bd_a ε 8), .ref (bd_a ε 9), .ref (bd_a ε 10), .ref (bd_a ε 11), .ref (bd_a ε 12), .int (bd_I S 8), .ref (bd_a ε 13), .ref (bd_a ε 14), .ref (bd_a ε 15), .ref (bd_a ε 21), .ref (bd_a ε 16), .ref (bd_a ε 17), .ref (bd_a ε 23), .ref (bd_a ε 24), .int (bd_I S 9), .ref (bd_a ε 22), .ref (bd_a ε 18), .int (bd_I S 10), .ref (bd_a ε 19), .ref (bd_a ε 20), .int (bd_I S 11), .int (bd_I S 12), .int (bd_I S 13)] : List Value).set 14 (.int v))) = cM ε (bd_pI S 7 v) := rfl
theorem cM_p8 (ε : bd_E) (S : bd_T) (v : Int32) : (cM ε S).set 0 (bd_a ε 0, .inr (9, ([.ref (bd_a ε 1), .ref (bd_a ε 2), .ref (bd_a ε 3), .ref (bd_a ε 4), .ref (bd_a ε 5), .int (bd_I S 0), .int (bd_I S 1), .int (bd_I S 2), .ref (bd_a ε 6), .ref (bd_a ε 7), .int (bd_I S 3), .int (bd_I S 4), .int (bd_I S 5), .int (bd_I S 6), .int (bd_I S 7), .ref (bd_a ε 8), .ref (bd_a ε 9), .ref (bd_a ε 10), .ref (bd_a ε 11), .ref (bd_a ε 12), .int (bd_I S 8), .ref (bd_a ε 13), .ref (bd_a ε 14), .ref (bd_a ε 15), .ref (bd_a ε 21), .ref (bd_a ε 16), .ref (bd_a ε 17), .ref (bd_a ε 23), .ref (bd_a ε 24), .int (bd_I S 9), .ref (bd_a ε 22), .ref (bd_a ε 18), .int (bd_I S 10), .ref (bd_a ε 19), .ref (bd_a ε 20), .int (bd_I S 11), .int (bd_I S 12), .int (bd_I S 13)] : List Value).set 20 (.int v))) = cM ε (bd_pI S 8 v) := rfl
theorem cM_p9 (ε : bd_E) (S : bd_T) (v : Int32) : (cM ε S).set 0 (bd_a ε 0, .inr (9, ([.ref (bd_a ε 1), .ref (bd_a ε 2), .ref (bd_a ε 3), .ref (bd_a ε 4), .ref (bd_a ε 5), .int (bd_I S 0), .int (bd_I S 1), .int (bd_I S 2), .ref (bd_a ε 6), .ref (bd_a ε 7), .int (bd_I S 3), .int (bd_I S 4), .int (bd_I S 5), .int (bd_I S 6), .int (bd_I S 7), .ref (bd_a ε 8), .ref (bd_a ε 9), .ref (bd_a ε 10), .ref (bd_a ε 11), .ref (bd_a ε 12), .int (bd_I S 8), .ref (bd_a ε 13), .ref (bd_a ε 14), .ref (bd_a ε 15), .ref (bd_a ε 21), .ref (bd_a ε 16), .ref (bd_a ε 17), .ref (bd_a ε 23), .ref (bd_a ε 24), .int (bd_I S 9), .ref (bd_a ε 22), .ref (bd_a ε 18), .int (bd_I S 10), .ref (bd_a ε 19), .ref (bd_a ε 20), .int (bd_I S 11), .int (bd_I S 12), .int (bd_I S 13)] : List Value).set 29 (.int v))) = cM ε (bd_pI S 9 v) := rfl
theorem cM_p10 (ε : bd_E) (S : bd_T) (v : Int32) : (cM ε S).set 0 (bd_a ε 0, .inr (9, ([.ref (bd_a ε 1), .ref (bd_a ε 2), .ref (bd_a ε 3), .ref (bd_a ε 4), .ref (bd_a ε 5), .int (bd_I S 0), .int (bd_I S 1), .int (bd_I S 2), .ref (bd_a ε 6), .ref (bd_a ε 7), .int (bd_I S 3), .int (bd_I S 4), .int (bd_I S 5), .int (bd_I S 6), .int (bd_I S 7), .ref (bd_a ε 8), .ref (bd_a ε 9), .ref (bd_a ε 10), .ref (bd_a ε 11), .ref (bd_a ε 12), .int (bd_I S 8), .ref (bd_a ε 13), .ref (bd_a ε 14), .ref (bd_a ε 15), .ref (bd_a ε 21), .ref (bd_a ε 16), .ref (bd_a ε 17), .ref (bd_a ε 23), .ref (bd_a ε 24), .int (bd_I S 9), .ref (bd_a ε 22), .ref (bd_a ε 18), .int (bd_I S 10), .ref (bd_a ε 19), .ref (bd_a ε 20), .int (bd_I S 11), .int (bd_I S 12), .int (bd_I S 13)] : List Value).set 32 (.int v))) = cM ε (bd_pI S 10 v) := rfl
theorem cM_p11 (ε : bd_E) (S : bd_T) (v : Int32) : (cM ε S).set 0 (bd_a ε 0, .inr (9, ([.ref (bd_a ε 1), .ref (bd_a ε 2), .ref (bd_a ε 3), .ref (bd_a ε 4), .ref (bd_a ε 5), .int (bd_I S 0), .int (bd_I S 1), .int (bd_I S 2), .ref (bd_a ε 6), .ref (bd_a ε 7), .int (bd_I S 3), .int (bd_I S 4), .int (bd_I S 5), .int (bd_I S 6), .int (bd_I S 7), .ref (bd_a ε 8), .ref (bd_a ε 9), .ref (bd_a ε 10), .ref (bd_a ε 11), .ref (bd_a ε 12), .int (bd_I S 8), .ref (bd_a ε 13), .ref (bd_a ε 14), .ref (bd_a ε 15), .ref (bd_a ε 21), .ref (bd_a ε 16), .ref (bd_a ε 17), .ref (bd_a ε 23), .ref (bd_a ε 24), .int (bd_I S 9), .ref (bd_a ε 22), .ref (bd_a ε 18), .int (bd_I S 10), .ref (bd_a ε 19), .ref (bd_a ε 20), .int (bd_I S 11), .int (bd_I S 12), .int (bd_I S 13)] : List Value).set 35 (.int v))) = cM ε (bd_pI S 11 v) := rfl
theorem cM_p12 (ε : bd_E) (S : bd_T) (v : Int32) : (cM ε S).set 0 (bd_a ε 0, .inr (9, ([.ref (bd_a ε 1), .ref (bd_a ε 2), .ref (bd_a ε 3), .ref (bd_a ε 4), .ref (bd_a ε 5), .int (bd_I S 0), .int (bd_I S 1), .int (bd_I S 2), .ref (bd_a ε 6), .ref (bd_a ε 7), .int (bd_I S 3), .int (bd_I S 4), .int (bd_I S 5), .int (bd_I S 6), .int (bd_I S 7), .ref (bd_a ε 8), .ref (bd_a ε 9), .ref (bd_a ε 10), .ref (bd_a ε 11), .ref (bd_a ε 12), .int (bd_I S 8), .ref (bd_a ε 13), .ref (bd_a ε 14), .ref (bd_a ε 15), .ref (bd_a ε 21), .ref (bd_a ε 16), .ref (bd_a ε 17), .ref (bd_a ε 23), .ref (bd_a ε 24), .int (bd_I S 9), .ref (bd_a ε 22), .ref (bd_a ε 18), .int (bd_I S 10), .ref (bd_a ε 19), .ref (bd_a ε 20), .int (bd_I S 11), .int (bd_I S 12), .int (bd_I S 13)] : List Value).set 36 (.int v))) = cM ε (bd_pI S 12 v) := rfl
theorem cM_p13 (ε : bd_E) (S : bd_T) (v : Int32) : (cM ε S).set 0 (bd_a ε 0, .inr (9, ([.ref (bd_a ε 1), .ref (bd_a ε 2), .ref (bd_a ε 3), .ref (bd_a ε 4), .ref (bd_a ε 5), .int (bd_I S 0), .int (bd_I S 1), .int (bd_I S 2), .ref (bd_a ε 6), .ref (bd_a ε 7), .int (bd_I S 3), .int (bd_I S 4), .int (bd_I S 5), .int (bd_I S 6), .int (bd_I S 7), .ref (bd_a ε 8), .ref (bd_a ε 9), .ref (bd_a ε 10), .ref (bd_a ε 11), .ref (bd_a ε 12), .int (bd_I S 8), .ref (bd_a ε 13), .ref (bd_a ε 14), .ref (bd_a ε 15), .ref (bd_a ε 21), .ref (bd_a ε 16), .ref (bd_a ε 17), .ref (bd_a ε 23), .ref (bd_a ε 24), .int (bd_I S 9), .ref (bd_a ε 22), .ref (bd_a ε 18), .int (bd_I S 10), .ref (bd_a ε 19), .ref (bd_a ε 20), .int (bd_I S 11), .int (bd_I S 12), .int (bd_I S 13)] : List Value).set 37 (.int v))) = cM ε (bd_pI S 13 v) := rfl
