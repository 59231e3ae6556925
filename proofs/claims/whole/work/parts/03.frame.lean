/-! THE FRAME: a state of a system is three functions (whole fields, rows of ints, rows of longs); a walk says: when the method's meaning has a value, the machine comes to it -/
abbrev bd_T : Type := (Nat → Int32) × (Nat → Nat → Int32) × (Nat → Nat → Int64)
def bd_I (S : bd_T) (k : Nat) : Int32 := S.1 k
def bd_A (S : bd_T) (k : Nat) : Nat → Int32 := S.2.1 k
def bd_J (S : bd_T) (k : Nat) : Nat → Int64 := S.2.2 k
def bd_pI (S : bd_T) (k : Nat) (v : Int32) : bd_T := (fun j => if j = k then v else S.1 j, S.2.1, S.2.2)
def bd_pA (S : bd_T) (k i : Nat) (v : Int32) : bd_T := (S.1, fun j => if j = k then upd (S.2.1 j) i v else S.2.1 j, S.2.2)
def bd_pJ (S : bd_T) (k i : Nat) (v : Int64) : bd_T := (S.1, S.2.1, fun j => if j = k then vp_updL (S.2.2 j) i v else S.2.2 j)
def bd_in (i : Int32) (n : Nat) : Bool := decide (¬ (i < 0 ∨ n ≤ i.toNatClampNeg))
def bd_ga (S : bd_T) (k n : Nat) (i : Int32) : Option Int32 := if bd_in i n = true then some (bd_A S k i.toNatClampNeg) else none
def bd_gj (S : bd_T) (k n : Nat) (i : Int32) : Option Int64 := if bd_in i n = true then some (bd_J S k i.toNatClampNeg) else none
def bd_sa (S : bd_T) (k n : Nat) (i v : Int32) : Option bd_T := if bd_in i n = true then some (bd_pA S k i.toNatClampNeg v) else none
def bd_sj (S : bd_T) (k n : Nat) (i : Int32) (v : Int64) : Option bd_T := if bd_in i n = true then some (bd_pJ S k i.toNatClampNeg v) else none
def bd_si (S : bd_T) (k : Nat) (v : Int32) : Option bd_T := some (bd_pI S k v)
def bd_b2 {ρ α : Type} (o : Option (ρ × bd_T)) (f : ρ → bd_T → Option α) : Option α := o.bind (fun q => f q.1 q.2)
def bd_b1 {β α : Type} (x : β) (f : β → Option α) : Option α := f x
def bd_a (ε : ClassId × ClassId × ClassId × (Nat → Nat)) (k : Nat) : Nat := ε.2.2.2 k
def bd_ldiv (x y : Int64) : Option Int64 := if y = 0 then none else some (x / y)
def bd_lrem (x y : Int64) : Option Int64 := if y = 0 then none else some (x - x / y * y)
/-- a loop of at most n rounds -/
def bd_lp {σ τ : Type} : Nat → (σ → Option (σ ⊕ τ)) → σ → Option τ
  | 0, _, _ => none
  | n + 1, F, q => (F q).bind (fun z => Sum.elim (fun q' => bd_lp n F q') (fun r => some r) z)
def bd_K : Nat := 20000
def bd_vi : Int32 → Option Value := fun r => some (.int r)
def bd_vl : Int64 → Option Value := fun r => some (.long r)
def bd_vv : Unit → Option Value := fun _ => none
abbrev bd_E : Type := ClassId × ClassId × ClassId × (Nat → Nat)
def bd_y (ε : bd_E) : List (ClassId × FieldType) := [(ε.1, .int), (ε.2.1, .long), (ε.2.2.1, .boolean)]
def bd_nD : List MethodName := [⟨"BurnedDown$Reckoning", "load", "([JI)V"⟩, ⟨"BurnedDown$Reckoning", "none", "()J"⟩, ⟨"BurnedDown$Reckoning", "over", "(II)J"⟩, ⟨"BurnedDown$Reckoning", "both", "(JJ)J"⟩]
def bd_N (U : State) : Prop := (∀ q ∈ bd_nD, va_Nw (.declares q) U) ∧ (∀ q ∈ bd_nF, va_Nw (.fieldLinkNest q.1 q.2.1 q.2.2.1 q.2.2.2.1 q.2.2.2.2.1 q.2.2.2.2.2) U) ∧ ∀ q ∈ bd_nM, va_Nw (.methodLinkNest q.1 q.2.1 q.2.2.1 q.2.2.2) U
theorem bd_N_warm {s U : State} (hW : s.WarmedH U.vm) (h : bd_N s) : bd_N U := ⟨fun q hq => va_Nw.warmD hW (h.1 q hq), fun q hq => va_Nw.warmF hW (h.2.1 q hq), fun q hq => va_Nw.warmM hW (h.2.2 q hq)⟩
theorem bd_N_same {u U : State} (hv : u.vm = U.vm) (h : bd_N u) : bd_N U := ⟨fun q hq => va_Nw.same rfl hv (h.1 q hq), fun q hq => va_Nw.same rfl hv (h.2.1 q hq), fun q hq => va_Nw.same rfl hv (h.2.2 q hq)⟩
/-- what a method's end says -/
def bd_Q {ρ : Type} (D : va_G) (ε : bd_E) (cells : bd_T → va_W) (vi : ρ → Option Value) (t0 : Option (ρ × bd_T)) (A : Nat → Prop) : Array Value → State → Outcome → State → Prop := fun _ st oc t => (∃ (r : ρ) (S' : bd_T), oc = .returned (vi r) ∧ t0 = some (r, S') ∧ va_P D vwCl (cells S') t.heap ∧ va_K D vwCl (bd_y ε) t ∧ va_D A (cells S')) ∧ va_F A st t
def bd_P0 (D : va_G) (ε : bd_E) (ws : va_W) (sz : Nat) (U : State) : Prop := U.heap.size = sz ∧ va_P D vwCl ws U.heap ∧ va_K D vwCl (bd_y ε) U ∧ bd_N U ∧ va_D (fun _ => True) ws
/-- a method's contract -/
def bd_Con {ρ : Type} (l : Launch) (y : MethodName) (ws : List Cond) (rm : Room) (D : va_G) (ε : bd_E) (cells : bd_T → va_W) (vi : ρ → Option Value) (av : List Value) (S : bd_T) (t0 : Option (ρ × bd_T)) : Prop := ∀ sz : Nat, Met l y ws rm (va_Pc av (bd_P0 D ε (cells S) sz)) (bd_Q D ε cells vi t0 (va_A (cells S) sz)) 0 0 (va_A (cells S) sz)
abbrev bd_G : Type := Program × Launch × Env × Room × State × MethodId × Array Value × List Frame × Method × Code × (Nat → Prop) × (State → Prop) × va_G
def bd_V (Γ : bd_G) (nL : Nat) (ws : va_W) (pc : Nat) (ls : List (Nat × Value)) (st : List Value) : Prop := match Γ with
  | (p, l, e, R, s, m, args, below, meth, c, A, Q, D) => ∀ (H : Heap) (locs : List Loc) (arr : Array Slot), va_P D vwCl ws H → va_D A ws → va_S A s.heap H locs → lv_has arr nL ls → W p l e R s m args below meth c H locs 0 0 Q (F0 m pc arr st)
/-- the walk's judgement: if the meaning x is the method's own, and has a value, the machine comes to the end -/
def bd_S {ρ : Type} (Γ : bd_G) (nL : Nat) (t0 x : Option (ρ × bd_T)) (ws : va_W) (pc : Nat) (ls : List (Nat × Value)) (st : List Value) : Prop := x = t0 → x.isSome = true → bd_V Γ nL ws pc ls st
/-- what stands through a method's walk -/
def bd_C {ρ : Type} (Γ : bd_G) (cc : ByteArray) (nL : Nat) (own : String) (ret : Option FieldType) (R0 : Room) (ε : bd_E) (cells : bd_T → va_W) (vi : ρ → Option Value) (t0 : Option (ρ × bd_T)) : Prop := match Γ with
  | (p, l, e, R, s, m, args, below, meth, c, A, Q, D) => p.tables.exec = Jvm.exec ∧ c.code = cc ∧ c.maxLocals = nL ∧ s.vm.findClass own = some m.cls ∧ (∀ w ∈ bd_tbl, w.before args s = true) ∧ meth.sig.returnType = ret ∧ meth.locks = false ∧ va_K D vwCl (bd_y ε) s ∧ bd_N s ∧ R = R0 ∧ (∀ q : Nat, s.heap.size ≤ q → A q) ∧ Q = MQ below (bd_Q D ε cells vi t0 A) args s 0 0 A
def bd_l (Γ : bd_G) : Launch := match Γ with
  | (p, l, e, R, s, m, args, below, meth, c, A, Q, D) => l
def bd_D (Γ : bd_G) : va_G := match Γ with
  | (p, l, e, R, s, m, args, below, meth, c, A, Q, D) => D
theorem bd_blind (D : va_G) (ε : bd_E) (ws : va_W) (sz : Nat) (av : List Value) : FrameBlind (va_Pc av (bd_P0 D ε ws sz)) := by
  intro a U g mk h
  obtain ⟨h1, h2, h3, h4, h5, h6⟩ := h
  exact ⟨h1, h2, h3, va_K.moved (u := U) (U := U.calling g mk a) (Vm.Alike.refl U.vm) h4, bd_N_same rfl h5, h6⟩
set_option maxHeartbeats 1000000 in
/-- a contract out of a walk -/
theorem bd_con {ρ : Type} {l : Launch} {y : MethodName} {cc : ByteArray} {maxL : Nat} {ret : Option FieldType} {rm : Room} {D : va_G} {ε : bd_E} {cells : bd_T → va_W} {vi : ρ → Option Value} {av : List Value} {S : bd_T} {t0 : Option (ρ × bd_T)} (hy : plainName y.cls = true) (hlen : (lg_sl av).length ≤ maxL) (hrc : rm.cells = 0 ∧ rm.slots = 0) (h0 : t0.isSome = true)
    (body : ∀ Γ : bd_G, bd_l Γ = l → bd_D Γ = D → bd_C Γ cc maxL y.cls ret rm ε cells vi t0 → bd_S Γ maxL t0 t0 (cells S) 0 (lv_args 0 av) []) : bd_Con l y (Cond.code y cc maxL ret :: bd_tbl) rm D ε cells vi av S t0 := by
  intro sz
  refine Met.ofW (cc := cc) (maxL := maxL) (ret := ret) hy rfl ?_
  intro p e s m args below meth c s₁ B hml hv
  obtain ⟨rfl, hsz, hP, hK, hN, hD0⟩ := hv
  have hx := B.exec
  have hb := B.bytes
  have hr := B.returns
  have hts := fun w hw => atoms_spec (ws := Cond.code y cc maxL ret :: bd_tbl) B.pre w (List.mem_cons_of_mem _ hw)
  have hown : s.vm.findClass y.cls = some m.cls := findClass_of_methodNamed B.named
  have hlocks := B.notSynchronized
  subst hsz
  have hD := hD0.self (sz := s.heap.size)
  have hA : ∀ q : Nat, s.heap.size ≤ q → va_A (cells S) s.heap.size q := fun q h => Or.inr h
  have hl := lv_entry av (n := maxL) hlen
  rw [lg_entry_eq]
  refine body (p, l, e, _, s, m, av.toArray, below, meth, c, va_A (cells S) s.heap.size, _, D) rfl rfl ⟨hx, hb, hml, hown, hts, hr, hlocks, hK, hN, ?_, hA, rfl⟩ rfl h0 s.heap [] _ hP hD va_S.rf hl
  obtain ⟨a1, a2⟩ := hrc
  cases rm
  simp only at a1 a2
  subst a1; subst a2
  rfl
section BDR
variable {ρ α β : Type} {Γ : bd_G} {cc : ByteArray} {nL : Nat} {own : String} {ret : Option FieldType} {R0 : Room} {ε : bd_E} {cells : bd_T → va_W} {vi : ρ → Option Value} {t0 x : Option (ρ × bd_T)} {ws : va_W} {pc : Nat} {ls ls' : List (Nat × Value)} {rest : List Value}
theorem bs_iconst (hC : bd_C Γ cc nL own ret R0 ε cells vi t0) {n : Int} (v : Int32) (hd : decode cc pc = .ok (.iconst n, 1)) (hv : Int32.ofInt n = v) (k : bd_S Γ nL t0 x ws (pc + 1) ls (.int v :: rest)) : bd_S Γ nL t0 x ws pc ls rest := by
  obtain ⟨p, l, e, R, s, m, args, below, meth, c, A, Q, D⟩ := Γ
  intro e1 e2 H locs arr hP hD hS hl
  exact lv_iconst hC.1 hC.2.1 hd hv (k e1 e2 H locs arr hP hD hS hl)
theorem bs_bipush (hC : bd_C Γ cc nL own ret R0 ε cells vi t0) {n : Int} (v : Int32) (hd : decode cc pc = .ok (.bipush n, 2)) (hv : (Int8.ofInt n).toInt32 = v) (k : bd_S Γ nL t0 x ws (pc + 2) ls (.int v :: rest)) : bd_S Γ nL t0 x ws pc ls rest := by
  obtain ⟨p, l, e, R, s, m, args, below, meth, c, A, Q, D⟩ := Γ
  intro e1 e2 H locs arr hP hD hS hl
  exact lv_bipush hC.1 hC.2.1 hd hv (k e1 e2 H locs arr hP hD hS hl)
theorem bs_sipush (hC : bd_C Γ cc nL own ret R0 ε cells vi t0) {n : Int} (v : Int32) (hd : decode cc pc = .ok (.sipush n, 3)) (hv : (Int16.ofInt n).toInt32 = v) (k : bd_S Γ nL t0 x ws (pc + 3) ls (.int v :: rest)) : bd_S Γ nL t0 x ws pc ls rest := by
  obtain ⟨p, l, e, R, s, m, args, below, meth, c, A, Q, D⟩ := Γ
  intro e1 e2 H locs arr hP hD hS hl
  exact lv_sipush hC.1 hC.2.1 hd hv (k e1 e2 H locs arr hP hD hS hl)
theorem bs_lconst (hC : bd_C Γ cc nL own ret R0 ε cells vi t0) {n : Fin 2} (v : Int64) (hd : decode cc pc = .ok (.lconst n, 1)) (hv : Int64.ofNat (n : Nat) = v) (k : bd_S Γ nL t0 x ws (pc + 1) ls (.long v :: rest)) : bd_S Γ nL t0 x ws pc ls rest := by
  obtain ⟨p, l, e, R, s, m, args, below, meth, c, A, Q, D⟩ := Γ
  intro e1 e2 H locs arr hP hD hS hl
  exact lv_lconst hC.1 hC.2.1 hd hv (k e1 e2 H locs arr hP hD hS hl)
theorem bs_ldc (hC : bd_C Γ cc nL own ret R0 ε cells vi t0) {index : Nat} (v : Int32) (hm : Cond.constant own index v ∈ bd_tbl) (hd : decode cc pc = .ok (.ldc index, 2)) (k : bd_S Γ nL t0 x ws (pc + 2) ls (.int v :: rest)) : bd_S Γ nL t0 x ws pc ls rest := by
  obtain ⟨p, l, e, R, s, m, args, below, meth, c, A, Q, D⟩ := Γ
  intro e1 e2 H locs arr hP hD hS hl
  exact lv_ldc hC.1 hC.2.1 hC.2.2.2.1 (hC.2.2.2.2.1 _ hm) hd (k e1 e2 H locs arr hP hD hS hl)
theorem bs_ldcw (hC : bd_C Γ cc nL own ret R0 ε cells vi t0) {index : Nat} (v : Int32) (hm : Cond.constant own index v ∈ bd_tbl) (hd : decode cc pc = .ok (.ldc_w index, 3)) (k : bd_S Γ nL t0 x ws (pc + 3) ls (.int v :: rest)) : bd_S Γ nL t0 x ws pc ls rest := by
  obtain ⟨p, l, e, R, s, m, args, below, meth, c, A, Q, D⟩ := Γ
  intro e1 e2 H locs arr hP hD hS hl
  exact lv_ldcw hC.1 hC.2.1 hC.2.2.2.1 (hC.2.2.2.2.1 _ hm) hd (k e1 e2 H locs arr hP hD hS hl)
theorem bs_ldc2 (hC : bd_C Γ cc nL own ret R0 ε cells vi t0) {index : Nat} (v : Int64) (hm : Cond.constantLong own index v ∈ bd_tbl) (hd : decode cc pc = .ok (.ldc2_w index, 3)) (k : bd_S Γ nL t0 x ws (pc + 3) ls (.long v :: rest)) : bd_S Γ nL t0 x ws pc ls rest := by
  obtain ⟨p, l, e, R, s, m, args, below, meth, c, A, Q, D⟩ := Γ
  intro e1 e2 H locs arr hP hD hS hl
  exact lv_ldc2 hC.1 hC.2.1 hC.2.2.2.1 (hC.2.2.2.2.1 _ hm) hd (k e1 e2 H locs arr hP hD hS hl)
theorem bs_iload_n (hC : bd_C Γ cc nL own ret R0 ε cells vi t0) {kf : Fin 4} {i : Nat} {v : Int32} (q : Nat) (hd : decode cc pc = .ok (.iload_n kf, 1)) (hi : (kf : Nat) = i) (hq : ls[q]? = some (i, .int v)) (k : bd_S Γ nL t0 x ws (pc + 1) ls (.int v :: rest)) : bd_S Γ nL t0 x ws pc ls rest := by
  obtain ⟨p, l, e, R, s, m, args, below, meth, c, A, Q, D⟩ := Γ
  intro e1 e2 H locs arr hP hD hS hl
  exact lv_iload_n hC.1 hC.2.1 hd hi (lv_at hl q hq) (k e1 e2 H locs arr hP hD hS hl)
theorem bs_iload (hC : bd_C Γ cc nL own ret R0 ε cells vi t0) {i : Nat} {v : Int32} (q : Nat) (hd : decode cc pc = .ok (.iload i, 2)) (hq : ls[q]? = some (i, .int v)) (k : bd_S Γ nL t0 x ws (pc + 2) ls (.int v :: rest)) : bd_S Γ nL t0 x ws pc ls rest := by
  obtain ⟨p, l, e, R, s, m, args, below, meth, c, A, Q, D⟩ := Γ
  intro e1 e2 H locs arr hP hD hS hl
  exact lv_iload hC.1 hC.2.1 hd (lv_at hl q hq) (k e1 e2 H locs arr hP hD hS hl)
theorem bs_lload_n (hC : bd_C Γ cc nL own ret R0 ε cells vi t0) {kf : Fin 4} {i : Nat} {v : Int64} (q : Nat) (hd : decode cc pc = .ok (.lload_n kf, 1)) (hi : (kf : Nat) = i) (hq : ls[q]? = some (i, .long v)) (k : bd_S Γ nL t0 x ws (pc + 1) ls (.long v :: rest)) : bd_S Γ nL t0 x ws pc ls rest := by
  obtain ⟨p, l, e, R, s, m, args, below, meth, c, A, Q, D⟩ := Γ
  intro e1 e2 H locs arr hP hD hS hl
  exact lv_lload_n hC.1 hC.2.1 hd hi (lv_at hl q hq) (k e1 e2 H locs arr hP hD hS hl)
theorem bs_lload (hC : bd_C Γ cc nL own ret R0 ε cells vi t0) {i : Nat} {v : Int64} (q : Nat) (hd : decode cc pc = .ok (.lload i, 2)) (hq : ls[q]? = some (i, .long v)) (k : bd_S Γ nL t0 x ws (pc + 2) ls (.long v :: rest)) : bd_S Γ nL t0 x ws pc ls rest := by
  obtain ⟨p, l, e, R, s, m, args, below, meth, c, A, Q, D⟩ := Γ
  intro e1 e2 H locs arr hP hD hS hl
  exact lv_lload hC.1 hC.2.1 hd (lv_at hl q hq) (k e1 e2 H locs arr hP hD hS hl)
theorem bs_aload_n (hC : bd_C Γ cc nL own ret R0 ε cells vi t0) {kf : Fin 4} {i : Nat} {v : Nat} (q : Nat) (hd : decode cc pc = .ok (.aload_n kf, 1)) (hi : (kf : Nat) = i) (hq : ls[q]? = some (i, .ref v)) (k : bd_S Γ nL t0 x ws (pc + 1) ls (.ref v :: rest)) : bd_S Γ nL t0 x ws pc ls rest := by
  obtain ⟨p, l, e, R, s, m, args, below, meth, c, A, Q, D⟩ := Γ
  intro e1 e2 H locs arr hP hD hS hl
  exact lv_aload_n hC.1 hC.2.1 hd hi (lv_at hl q hq) (k e1 e2 H locs arr hP hD hS hl)
theorem bs_aload (hC : bd_C Γ cc nL own ret R0 ε cells vi t0) {i : Nat} {v : Nat} (q : Nat) (hd : decode cc pc = .ok (.aload i, 2)) (hq : ls[q]? = some (i, .ref v)) (k : bd_S Γ nL t0 x ws (pc + 2) ls (.ref v :: rest)) : bd_S Γ nL t0 x ws pc ls rest := by
  obtain ⟨p, l, e, R, s, m, args, below, meth, c, A, Q, D⟩ := Γ
  intro e1 e2 H locs arr hP hD hS hl
  exact lv_aload hC.1 hC.2.1 hd (lv_at hl q hq) (k e1 e2 H locs arr hP hD hS hl)
theorem bs_istore_n (hC : bd_C Γ cc nL own ret R0 ε cells vi t0) {kf : Fin 4} {i : Nat} {v : Int32} (ls' : List (Nat × Value)) (hd : decode cc pc = .ok (.istore_n kf, 1)) (hi : (kf : Nat) = i) (hn : i < nL) (hq : (i, Value.int v) :: ls.filter (fun q => !(q.1 == i) && !(q.1 + 1 == i && q.2.category == 2)) = ls') (k : bd_S Γ nL t0 x ws (pc + 1) ls' rest) : bd_S Γ nL t0 x ws pc ls (.int v :: rest) := by
  obtain ⟨p, l, e, R, s, m, args, below, meth, c, A, Q, D⟩ := Γ
  intro e1 e2 H locs arr hP hD hS hl
  exact lv_istore_n hC.1 hC.2.1 hd hi hl hn hq (fun arr hl => k e1 e2 H locs arr hP hD hS hl)
theorem bs_istore (hC : bd_C Γ cc nL own ret R0 ε cells vi t0) {i : Nat} {v : Int32} (ls' : List (Nat × Value)) (hd : decode cc pc = .ok (.istore i, 2)) (hn : i < nL) (hq : (i, Value.int v) :: ls.filter (fun q => !(q.1 == i) && !(q.1 + 1 == i && q.2.category == 2)) = ls') (k : bd_S Γ nL t0 x ws (pc + 2) ls' rest) : bd_S Γ nL t0 x ws pc ls (.int v :: rest) := by
  obtain ⟨p, l, e, R, s, m, args, below, meth, c, A, Q, D⟩ := Γ
  intro e1 e2 H locs arr hP hD hS hl
  exact lv_istore hC.1 hC.2.1 hd hl hn hq (fun arr hl => k e1 e2 H locs arr hP hD hS hl)
theorem bs_lstore_n (hC : bd_C Γ cc nL own ret R0 ε cells vi t0) {kf : Fin 4} {i : Nat} {v : Int64} (ls' : List (Nat × Value)) (hd : decode cc pc = .ok (.lstore_n kf, 1)) (hi : (kf : Nat) = i) (hn : i + 1 < nL) (hq : (i, Value.long v) :: ls.filter (fun q => !(q.1 == i) && (!(q.1 == i + 1) && !(q.1 + 1 == i && q.2.category == 2))) = ls') (k : bd_S Γ nL t0 x ws (pc + 1) ls' rest) : bd_S Γ nL t0 x ws pc ls (.long v :: rest) := by
  obtain ⟨p, l, e, R, s, m, args, below, meth, c, A, Q, D⟩ := Γ
  intro e1 e2 H locs arr hP hD hS hl
  exact lv_lstore_n hC.1 hC.2.1 hd hi hl hn hq (fun arr hl => k e1 e2 H locs arr hP hD hS hl)
theorem bs_lstore (hC : bd_C Γ cc nL own ret R0 ε cells vi t0) {i : Nat} {v : Int64} (ls' : List (Nat × Value)) (hd : decode cc pc = .ok (.lstore i, 2)) (hn : i + 1 < nL) (hq : (i, Value.long v) :: ls.filter (fun q => !(q.1 == i) && (!(q.1 == i + 1) && !(q.1 + 1 == i && q.2.category == 2))) = ls') (k : bd_S Γ nL t0 x ws (pc + 2) ls' rest) : bd_S Γ nL t0 x ws pc ls (.long v :: rest) := by
  obtain ⟨p, l, e, R, s, m, args, below, meth, c, A, Q, D⟩ := Γ
  intro e1 e2 H locs arr hP hD hS hl
  exact lv_lstore hC.1 hC.2.1 hd hl hn hq (fun arr hl => k e1 e2 H locs arr hP hD hS hl)
theorem bs_astore_n (hC : bd_C Γ cc nL own ret R0 ε cells vi t0) {kf : Fin 4} {i : Nat} {v : Nat} (ls' : List (Nat × Value)) (hd : decode cc pc = .ok (.astore_n kf, 1)) (hi : (kf : Nat) = i) (hn : i < nL) (hq : (i, Value.ref v) :: ls.filter (fun q => !(q.1 == i) && !(q.1 + 1 == i && q.2.category == 2)) = ls') (k : bd_S Γ nL t0 x ws (pc + 1) ls' rest) : bd_S Γ nL t0 x ws pc ls (.ref v :: rest) := by
  obtain ⟨p, l, e, R, s, m, args, below, meth, c, A, Q, D⟩ := Γ
  intro e1 e2 H locs arr hP hD hS hl
  exact lv_astore_n hC.1 hC.2.1 hd hi hl hn hq (fun arr hl => k e1 e2 H locs arr hP hD hS hl)
theorem bs_iinc (hC : bd_C Γ cc nL own ret R0 ε cells vi t0) {i : Nat} {n : Int} {v w : Int32} (q : Nat) (ls' : List (Nat × Value)) (hd : decode cc pc = .ok (.iinc i n, 3)) (hk : ls[q]? = some (i, .int v)) (hv : v + Int32.ofInt n = w) (hn : i < nL) (hq : (i, Value.int w) :: ls.filter (fun q => !(q.1 == i) && !(q.1 + 1 == i && q.2.category == 2)) = ls') (k : bd_S Γ nL t0 x ws (pc + 3) ls' rest) : bd_S Γ nL t0 x ws pc ls rest := by
  obtain ⟨p, l, e, R, s, m, args, below, meth, c, A, Q, D⟩ := Γ
  intro e1 e2 H locs arr hP hD hS hl
  exact lv_iinc hC.1 hC.2.1 hd hl hk hv hn hq (fun arr hl => k e1 e2 H locs arr hP hD hS hl)
theorem bs_pick (ks : List Nat) (hq : lv_pick ls ks = ls') (k : bd_S Γ nL t0 x ws pc ls' rest) : bd_S Γ nL t0 x ws pc ls rest := by
  obtain ⟨p, l, e, R, s, m, args, below, meth, c, A, Q, D⟩ := Γ
  intro e1 e2 H locs arr hP hD hS hl
  exact k e1 e2 H locs arr hP hD hS (lv_sub hl ks hq)
theorem bs_iadd (hC : bd_C Γ cc nL own ret R0 ε cells vi t0) {a b : Int32} (hd : decode cc pc = .ok (.iadd, 1)) (k : bd_S Γ nL t0 x ws (pc + 1) ls (.int (a + b) :: rest)) : bd_S Γ nL t0 x ws pc ls (.int b :: .int a :: rest) := by
  obtain ⟨p, l, e, R, s, m, args, below, meth, c, A, Q, D⟩ := Γ
  intro e1 e2 H locs arr hP hD hS hl
  exact lv_iadd hC.1 hC.2.1 hd (k e1 e2 H locs arr hP hD hS hl)
theorem bs_isub (hC : bd_C Γ cc nL own ret R0 ε cells vi t0) {a b : Int32} (hd : decode cc pc = .ok (.isub, 1)) (k : bd_S Γ nL t0 x ws (pc + 1) ls (.int (a - b) :: rest)) : bd_S Γ nL t0 x ws pc ls (.int b :: .int a :: rest) := by
  obtain ⟨p, l, e, R, s, m, args, below, meth, c, A, Q, D⟩ := Γ
  intro e1 e2 H locs arr hP hD hS hl
  exact lv_isub hC.1 hC.2.1 hd (k e1 e2 H locs arr hP hD hS hl)
theorem bs_imul (hC : bd_C Γ cc nL own ret R0 ε cells vi t0) {a b : Int32} (hd : decode cc pc = .ok (.imul, 1)) (k : bd_S Γ nL t0 x ws (pc + 1) ls (.int (a * b) :: rest)) : bd_S Γ nL t0 x ws pc ls (.int b :: .int a :: rest) := by
  obtain ⟨p, l, e, R, s, m, args, below, meth, c, A, Q, D⟩ := Γ
  intro e1 e2 H locs arr hP hD hS hl
  exact lv_imul hC.1 hC.2.1 hd (k e1 e2 H locs arr hP hD hS hl)
theorem bs_iand (hC : bd_C Γ cc nL own ret R0 ε cells vi t0) {a b : Int32} (hd : decode cc pc = .ok (.iand, 1)) (k : bd_S Γ nL t0 x ws (pc + 1) ls (.int (a &&& b) :: rest)) : bd_S Γ nL t0 x ws pc ls (.int b :: .int a :: rest) := by
  obtain ⟨p, l, e, R, s, m, args, below, meth, c, A, Q, D⟩ := Γ
  intro e1 e2 H locs arr hP hD hS hl
  exact lv_iand hC.1 hC.2.1 hd (k e1 e2 H locs arr hP hD hS hl)
theorem bs_ior (hC : bd_C Γ cc nL own ret R0 ε cells vi t0) {a b : Int32} (hd : decode cc pc = .ok (.ior, 1)) (k : bd_S Γ nL t0 x ws (pc + 1) ls (.int (a ||| b) :: rest)) : bd_S Γ nL t0 x ws pc ls (.int b :: .int a :: rest) := by
  obtain ⟨p, l, e, R, s, m, args, below, meth, c, A, Q, D⟩ := Γ
  intro e1 e2 H locs arr hP hD hS hl
  exact lv_ior hC.1 hC.2.1 hd (k e1 e2 H locs arr hP hD hS hl)
theorem bs_ixor (hC : bd_C Γ cc nL own ret R0 ε cells vi t0) {a b : Int32} (hd : decode cc pc = .ok (.ixor, 1)) (k : bd_S Γ nL t0 x ws (pc + 1) ls (.int (a ^^^ b) :: rest)) : bd_S Γ nL t0 x ws pc ls (.int b :: .int a :: rest) := by
  obtain ⟨p, l, e, R, s, m, args, below, meth, c, A, Q, D⟩ := Γ
  intro e1 e2 H locs arr hP hD hS hl
  exact lv_ixor hC.1 hC.2.1 hd (k e1 e2 H locs arr hP hD hS hl)
theorem bs_ishl (hC : bd_C Γ cc nL own ret R0 ε cells vi t0) {a b : Int32} (hd : decode cc pc = .ok (.ishl, 1)) (k : bd_S Γ nL t0 x ws (pc + 1) ls (.int (a <<< (b &&& 31)) :: rest)) : bd_S Γ nL t0 x ws pc ls (.int b :: .int a :: rest) := by
  obtain ⟨p, l, e, R, s, m, args, below, meth, c, A, Q, D⟩ := Γ
  intro e1 e2 H locs arr hP hD hS hl
  exact lv_ishl hC.1 hC.2.1 hd (k e1 e2 H locs arr hP hD hS hl)
theorem bs_ishr (hC : bd_C Γ cc nL own ret R0 ε cells vi t0) {a b : Int32} (hd : decode cc pc = .ok (.ishr, 1)) (k : bd_S Γ nL t0 x ws (pc + 1) ls (.int (a >>> (b &&& 31)) :: rest)) : bd_S Γ nL t0 x ws pc ls (.int b :: .int a :: rest) := by
  obtain ⟨p, l, e, R, s, m, args, below, meth, c, A, Q, D⟩ := Γ
  intro e1 e2 H locs arr hP hD hS hl
  exact lv_ishr hC.1 hC.2.1 hd (k e1 e2 H locs arr hP hD hS hl)
theorem bs_ladd (hC : bd_C Γ cc nL own ret R0 ε cells vi t0) {a b : Int64} (hd : decode cc pc = .ok (.ladd, 1)) (k : bd_S Γ nL t0 x ws (pc + 1) ls (.long (a + b) :: rest)) : bd_S Γ nL t0 x ws pc ls (.long b :: .long a :: rest) := by
  obtain ⟨p, l, e, R, s, m, args, below, meth, c, A, Q, D⟩ := Γ
  intro e1 e2 H locs arr hP hD hS hl
  exact lv_ladd hC.1 hC.2.1 hd (k e1 e2 H locs arr hP hD hS hl)
theorem bs_lsub (hC : bd_C Γ cc nL own ret R0 ε cells vi t0) {a b : Int64} (hd : decode cc pc = .ok (.lsub, 1)) (k : bd_S Γ nL t0 x ws (pc + 1) ls (.long (a - b) :: rest)) : bd_S Γ nL t0 x ws pc ls (.long b :: .long a :: rest) := by
  obtain ⟨p, l, e, R, s, m, args, below, meth, c, A, Q, D⟩ := Γ
  intro e1 e2 H locs arr hP hD hS hl
  exact lv_lsub hC.1 hC.2.1 hd (k e1 e2 H locs arr hP hD hS hl)
theorem bs_lmul (hC : bd_C Γ cc nL own ret R0 ε cells vi t0) {a b : Int64} (hd : decode cc pc = .ok (.lmul, 1)) (k : bd_S Γ nL t0 x ws (pc + 1) ls (.long (a * b) :: rest)) : bd_S Γ nL t0 x ws pc ls (.long b :: .long a :: rest) := by
  obtain ⟨p, l, e, R, s, m, args, below, meth, c, A, Q, D⟩ := Γ
  intro e1 e2 H locs arr hP hD hS hl
  exact lv_lmul hC.1 hC.2.1 hd (k e1 e2 H locs arr hP hD hS hl)
theorem bs_land (hC : bd_C Γ cc nL own ret R0 ε cells vi t0) {a b : Int64} (hd : decode cc pc = .ok (.land, 1)) (k : bd_S Γ nL t0 x ws (pc + 1) ls (.long (a &&& b) :: rest)) : bd_S Γ nL t0 x ws pc ls (.long b :: .long a :: rest) := by
  obtain ⟨p, l, e, R, s, m, args, below, meth, c, A, Q, D⟩ := Γ
  intro e1 e2 H locs arr hP hD hS hl
  exact lv_land hC.1 hC.2.1 hd (k e1 e2 H locs arr hP hD hS hl)
theorem bs_lor (hC : bd_C Γ cc nL own ret R0 ε cells vi t0) {a b : Int64} (hd : decode cc pc = .ok (.lor, 1)) (k : bd_S Γ nL t0 x ws (pc + 1) ls (.long (a ||| b) :: rest)) : bd_S Γ nL t0 x ws pc ls (.long b :: .long a :: rest) := by
  obtain ⟨p, l, e, R, s, m, args, below, meth, c, A, Q, D⟩ := Γ
  intro e1 e2 H locs arr hP hD hS hl
  exact lv_lor hC.1 hC.2.1 hd (k e1 e2 H locs arr hP hD hS hl)
theorem bs_idivc (hC : bd_C Γ cc nL own ret R0 ε cells vi t0) {a b : Int32} (hd : decode cc pc = .ok (.idiv, 1)) (hne : ¬ b = 0) (k : bd_S Γ nL t0 x ws (pc + 1) ls (.int (a / b) :: rest)) : bd_S Γ nL t0 x ws pc ls (.int b :: .int a :: rest) := by
  obtain ⟨p, l, e, R, s, m, args, below, meth, c, A, Q, D⟩ := Γ
  intro e1 e2 H locs arr hP hD hS hl
  exact lv_idiv hC.1 hC.2.1 hd hne (k e1 e2 H locs arr hP hD hS hl)
theorem bs_iremc (hC : bd_C Γ cc nL own ret R0 ε cells vi t0) {a b : Int32} (hd : decode cc pc = .ok (.irem, 1)) (hne : ¬ b = 0) (k : bd_S Γ nL t0 x ws (pc + 1) ls (.int (a - a / b * b) :: rest)) : bd_S Γ nL t0 x ws pc ls (.int b :: .int a :: rest) := by
  obtain ⟨p, l, e, R, s, m, args, below, meth, c, A, Q, D⟩ := Γ
  intro e1 e2 H locs arr hP hD hS hl
  exact lv_irem hC.1 hC.2.1 hd hne (k e1 e2 H locs arr hP hD hS hl)
theorem bs_ineg (hC : bd_C Γ cc nL own ret R0 ε cells vi t0) {a : Int32} (hd : decode cc pc = .ok (.ineg, 1)) (k : bd_S Γ nL t0 x ws (pc + 1) ls (.int (-a) :: rest)) : bd_S Γ nL t0 x ws pc ls (.int a :: rest) := by
  obtain ⟨p, l, e, R, s, m, args, below, meth, c, A, Q, D⟩ := Γ
  intro e1 e2 H locs arr hP hD hS hl
  exact lv_ineg hC.1 hC.2.1 hd (k e1 e2 H locs arr hP hD hS hl)
theorem bs_i2l (hC : bd_C Γ cc nL own ret R0 ε cells vi t0) {a : Int32} (hd : decode cc pc = .ok (.i2l, 1)) (k : bd_S Γ nL t0 x ws (pc + 1) ls (.long (a.toInt64) :: rest)) : bd_S Γ nL t0 x ws pc ls (.int a :: rest) := by
  obtain ⟨p, l, e, R, s, m, args, below, meth, c, A, Q, D⟩ := Γ
  intro e1 e2 H locs arr hP hD hS hl
  exact lv_i2l hC.1 hC.2.1 hd rfl (k e1 e2 H locs arr hP hD hS hl)
theorem bs_l2i (hC : bd_C Γ cc nL own ret R0 ε cells vi t0) {a : Int64} (hd : decode cc pc = .ok (.l2i, 1)) (k : bd_S Γ nL t0 x ws (pc + 1) ls (.int (a.toInt32) :: rest)) : bd_S Γ nL t0 x ws pc ls (.long a :: rest) := by
  obtain ⟨p, l, e, R, s, m, args, below, meth, c, A, Q, D⟩ := Γ
  intro e1 e2 H locs arr hP hD hS hl
  exact lv_l2i hC.1 hC.2.1 hd rfl (k e1 e2 H locs arr hP hD hS hl)
theorem bs_iushr (hC : bd_C Γ cc nL own ret R0 ε cells vi t0) {a b : Int32} (hd : decode cc pc = .ok (.iushr, 1)) (k : bd_S Γ nL t0 x ws (pc + 1) ls (.int ((a.toUInt32 >>> (b.toUInt32 &&& Int32.toUInt32 31)).toInt32) :: rest)) : bd_S Γ nL t0 x ws pc ls (.int b :: .int a :: rest) := by
  obtain ⟨p, l, e, R, s, m, args, below, meth, c, A, Q, D⟩ := Γ
  intro e1 e2 H locs arr hP hD hS hl
  exact lv_iushr hC.1 hC.2.1 hd rfl (k e1 e2 H locs arr hP hD hS hl)
theorem bs_lushr (hC : bd_C Γ cc nL own ret R0 ε cells vi t0) {a : Int64} {b : Int32} (hd : decode cc pc = .ok (.lushr, 1)) (k : bd_S Γ nL t0 x ws (pc + 1) ls (.long ((a.toUInt64 >>> (b.toInt64.toUInt64 &&& Int64.toUInt64 63)).toInt64) :: rest)) : bd_S Γ nL t0 x ws pc ls (.int b :: .long a :: rest) := by
  obtain ⟨p, l, e, R, s, m, args, below, meth, c, A, Q, D⟩ := Γ
  intro e1 e2 H locs arr hP hD hS hl
  exact lv_lushr hC.1 hC.2.1 hd rfl (k e1 e2 H locs arr hP hD hS hl)
theorem bs_lshl (hC : bd_C Γ cc nL own ret R0 ε cells vi t0) {a : Int64} {b : Int32} (hd : decode cc pc = .ok (.lshl, 1)) (k : bd_S Γ nL t0 x ws (pc + 1) ls (.long (a <<< (b.toInt64 &&& 63)) :: rest)) : bd_S Γ nL t0 x ws pc ls (.int b :: .long a :: rest) := by
  obtain ⟨p, l, e, R, s, m, args, below, meth, c, A, Q, D⟩ := Γ
  intro e1 e2 H locs arr hP hD hS hl
  exact lv_lshl hC.1 hC.2.1 hd rfl (k e1 e2 H locs arr hP hD hS hl)
theorem bs_lshr (hC : bd_C Γ cc nL own ret R0 ε cells vi t0) {a : Int64} {b : Int32} (hd : decode cc pc = .ok (.lshr, 1)) (k : bd_S Γ nL t0 x ws (pc + 1) ls (.long (a >>> (b.toInt64 &&& 63)) :: rest)) : bd_S Γ nL t0 x ws pc ls (.int b :: .long a :: rest) := by
  obtain ⟨p, l, e, R, s, m, args, below, meth, c, A, Q, D⟩ := Γ
  intro e1 e2 H locs arr hP hD hS hl
  exact lv_lshr hC.1 hC.2.1 hd rfl (k e1 e2 H locs arr hP hD hS hl)
theorem bs_dup (hC : bd_C Γ cc nL own ret R0 ε cells vi t0) {v : Value} (hd : decode cc pc = .ok (.dup, 1)) (hv : v.category = 1) (k : bd_S Γ nL t0 x ws (pc + 1) ls (v :: v :: rest)) : bd_S Γ nL t0 x ws pc ls (v :: rest) := by
  obtain ⟨p, l, e, R, s, m, args, below, meth, c, A, Q, D⟩ := Γ
  intro e1 e2 H locs arr hP hD hS hl
  exact lv_dup hC.1 hC.2.1 hd hv (k e1 e2 H locs arr hP hD hS hl)
theorem bs_pop (hC : bd_C Γ cc nL own ret R0 ε cells vi t0) {v : Value} (hd : decode cc pc = .ok (.pop, 1)) (hv : v.category = 1) (k : bd_S Γ nL t0 x ws (pc + 1) ls (rest)) : bd_S Γ nL t0 x ws pc ls (v :: rest) := by
  obtain ⟨p, l, e, R, s, m, args, below, meth, c, A, Q, D⟩ := Γ
  intro e1 e2 H locs arr hP hD hS hl
  exact lv_pop hC.1 hC.2.1 hd hv (k e1 e2 H locs arr hP hD hS hl)
theorem bs_dup2 (hC : bd_C Γ cc nL own ret R0 ε cells vi t0) {v w : Value} (hd : decode cc pc = .ok (.dup2, 1)) (hv : v.category = 1) (hw : w.category = 1) (k : bd_S Γ nL t0 x ws (pc + 1) ls (v :: w :: v :: w :: rest)) : bd_S Γ nL t0 x ws pc ls (v :: w :: rest) := by
  obtain ⟨p, l, e, R, s, m, args, below, meth, c, A, Q, D⟩ := Γ
  intro e1 e2 H locs arr hP hD hS hl
  exact lv_dup2_11 hC.1 hC.2.1 hd hv hw (k e1 e2 H locs arr hP hD hS hl)
theorem bs_lcmp (hC : bd_C Γ cc nL own ret R0 ε cells vi t0) {a b : Int64} (hd : decode cc pc = .ok (.lcmp, 1)) (k : bd_S Γ nL t0 x ws (pc + 1) ls (.int (lg_cmp a b) :: rest)) : bd_S Γ nL t0 x ws pc ls (.long b :: .long a :: rest) := by
  obtain ⟨p, l, e, R, s, m, args, below, meth, c, A, Q, D⟩ := Γ
  intro e1 e2 H locs arr hP hD hS hl
  exact W.lcmp hC.1 hC.2.1 hd (k e1 e2 H locs arr hP hD hS hl)
theorem bs_if_eq (hC : bd_C Γ cc nL own ret R0 ε cells vi t0) {v : Int32} {off : Int} (tgt : Nat) {xt xf : Option α} {K : α → Option (ρ × bd_T)} {dc : Decidable (v = 0)} (hd : decode cc pc = .ok (.ifCond .eq off, 3)) (ht : (pc : Int) + off = (tgt : Int)) (h1 : v = 0 → bd_S Γ nL t0 (xt.bind K) ws (tgt) ls rest) (h2 : ¬ v = 0 → bd_S Γ nL t0 (xf.bind K) ws (pc + 3) ls rest) : bd_S Γ nL t0 ((@ite (Option α) (v = 0) dc xt xf).bind K) ws pc ls (.int v :: rest) := by
  obtain ⟨p, l, e, R, s, m, args, below, meth, c, A, Q, D⟩ := Γ
  intro e1 e2 H locs arr hP hD hS hl
  refine lv_if_eq (tgt := tgt) hC.1 hC.2.1 hd ht (fun q => ?_) (fun q => ?_)
  · rw [if_pos q] at e1 e2; exact h1 q e1 e2 H locs arr hP hD hS hl
  · rw [if_neg q] at e1 e2; exact h2 q e1 e2 H locs arr hP hD hS hl
theorem bs_if_eqT (hC : bd_C Γ cc nL own ret R0 ε cells vi t0) {v : Int32} {off : Int} (tgt : Nat) (hd : decode cc pc = .ok (.ifCond .eq off, 3)) (ht : (pc : Int) + off = (tgt : Int)) (hq : v = 0) (k : bd_S Γ nL t0 x ws (tgt) ls rest) : bd_S Γ nL t0 x ws pc ls (.int v :: rest) := by
  obtain ⟨p, l, e, R, s, m, args, below, meth, c, A, Q, D⟩ := Γ
  intro e1 e2 H locs arr hP hD hS hl
  exact lv_if_eq (tgt := tgt) hC.1 hC.2.1 hd ht (fun _ => k e1 e2 H locs arr hP hD hS hl) (fun q => absurd hq q)
theorem bs_if_eqF (hC : bd_C Γ cc nL own ret R0 ε cells vi t0) {v : Int32} {off : Int} (tgt : Nat) (hd : decode cc pc = .ok (.ifCond .eq off, 3)) (ht : (pc : Int) + off = (tgt : Int)) (hq : ¬ v = 0) (k : bd_S Γ nL t0 x ws (pc + 3) ls rest) : bd_S Γ nL t0 x ws pc ls (.int v :: rest) := by
  obtain ⟨p, l, e, R, s, m, args, below, meth, c, A, Q, D⟩ := Γ
  intro e1 e2 H locs arr hP hD hS hl
  exact lv_if_eq (tgt := tgt) hC.1 hC.2.1 hd ht (fun q => absurd q hq) (fun _ => k e1 e2 H locs arr hP hD hS hl)
theorem bs_icmp_eq (hC : bd_C Γ cc nL own ret R0 ε cells vi t0) {v w : Int32} {off : Int} (tgt : Nat) {xt xf : Option α} {K : α → Option (ρ × bd_T)} {dc : Decidable (v = w)} (hd : decode cc pc = .ok (.if_icmp .eq off, 3)) (ht : (pc : Int) + off = (tgt : Int)) (h1 : v = w → bd_S Γ nL t0 (xt.bind K) ws (tgt) ls rest) (h2 : ¬ v = w → bd_S Γ nL t0 (xf.bind K) ws (pc + 3) ls rest) : bd_S Γ nL t0 ((@ite (Option α) (v = w) dc xt xf).bind K) ws pc ls (.int w :: .int v :: rest) := by
  obtain ⟨p, l, e, R, s, m, args, below, meth, c, A, Q, D⟩ := Γ
  intro e1 e2 H locs arr hP hD hS hl
  refine lv_icmp_eq (tgt := tgt) hC.1 hC.2.1 hd ht (fun q => ?_) (fun q => ?_)
  · rw [if_pos q] at e1 e2; exact h1 q e1 e2 H locs arr hP hD hS hl
  · rw [if_neg q] at e1 e2; exact h2 q e1 e2 H locs arr hP hD hS hl
theorem bs_icmp_eqT (hC : bd_C Γ cc nL own ret R0 ε cells vi t0) {v w : Int32} {off : Int} (tgt : Nat) (hd : decode cc pc = .ok (.if_icmp .eq off, 3)) (ht : (pc : Int) + off = (tgt : Int)) (hq : v = w) (k : bd_S Γ nL t0 x ws (tgt) ls rest) : bd_S Γ nL t0 x ws pc ls (.int w :: .int v :: rest) := by
  obtain ⟨p, l, e, R, s, m, args, below, meth, c, A, Q, D⟩ := Γ
  intro e1 e2 H locs arr hP hD hS hl
  exact lv_icmp_eq (tgt := tgt) hC.1 hC.2.1 hd ht (fun _ => k e1 e2 H locs arr hP hD hS hl) (fun q => absurd hq q)
theorem bs_icmp_eqF (hC : bd_C Γ cc nL own ret R0 ε cells vi t0) {v w : Int32} {off : Int} (tgt : Nat) (hd : decode cc pc = .ok (.if_icmp .eq off, 3)) (ht : (pc : Int) + off = (tgt : Int)) (hq : ¬ v = w) (k : bd_S Γ nL t0 x ws (pc + 3) ls rest) : bd_S Γ nL t0 x ws pc ls (.int w :: .int v :: rest) := by
  obtain ⟨p, l, e, R, s, m, args, below, meth, c, A, Q, D⟩ := Γ
  intro e1 e2 H locs arr hP hD hS hl
  exact lv_icmp_eq (tgt := tgt) hC.1 hC.2.1 hd ht (fun q => absurd q hq) (fun _ => k e1 e2 H locs arr hP hD hS hl)
theorem bs_lif_eq (hC : bd_C Γ cc nL own ret R0 ε cells vi t0) {a b : Int64} {off : Int} (tgt : Nat) {xt xf : Option α} {K : α → Option (ρ × bd_T)} {dc : Decidable (a = b)} (hd0 : decode cc pc = .ok (.lcmp, 1)) (hd : decode cc (pc + 1) = .ok (.ifCond .eq off, 3)) (ht : ((pc + 1 : Nat) : Int) + off = (tgt : Int)) (h1 : a = b → bd_S Γ nL t0 (xt.bind K) ws (tgt) ls rest) (h2 : ¬ a = b → bd_S Γ nL t0 (xf.bind K) ws (pc + 1 + 3) ls rest) : bd_S Γ nL t0 ((@ite (Option α) (a = b) dc xt xf).bind K) ws pc ls (.long b :: .long a :: rest) := by
  obtain ⟨p, l, e, R, s, m, args, below, meth, c, A, Q, D⟩ := Γ
  intro e1 e2 H locs arr hP hD hS hl
  refine W.lcmp hC.1 hC.2.1 hd0 ?_
  refine lv_if_eq (tgt := tgt) hC.1 hC.2.1 hd ht (fun q => ?_) (fun q => ?_)
  · rw [if_pos ((lg_cmp_eq a b).mp q)] at e1 e2; exact h1 ((lg_cmp_eq a b).mp q) e1 e2 H locs arr hP hD hS hl
  · rw [if_neg (fun z => q ((lg_cmp_eq a b).mpr z))] at e1 e2; exact h2 (fun z => q ((lg_cmp_eq a b).mpr z)) e1 e2 H locs arr hP hD hS hl
theorem bs_if_ne (hC : bd_C Γ cc nL own ret R0 ε cells vi t0) {v : Int32} {off : Int} (tgt : Nat) {xt xf : Option α} {K : α → Option (ρ × bd_T)} {dc : Decidable (v = 0)} (hd : decode cc pc = .ok (.ifCond .ne off, 3)) (ht : (pc : Int) + off = (tgt : Int)) (h1 : v = 0 → bd_S Γ nL t0 (xt.bind K) ws (pc + 3) ls rest) (h2 : ¬ v = 0 → bd_S Γ nL t0 (xf.bind K) ws (tgt) ls rest) : bd_S Γ nL t0 ((@ite (Option α) (v = 0) dc xt xf).bind K) ws pc ls (.int v :: rest) := by
  obtain ⟨p, l, e, R, s, m, args, below, meth, c, A, Q, D⟩ := Γ
  intro e1 e2 H locs arr hP hD hS hl
  refine lv_if_ne (tgt := tgt) hC.1 hC.2.1 hd ht (fun q => ?_) (fun q => ?_)
  · rw [if_neg q] at e1 e2; exact h2 q e1 e2 H locs arr hP hD hS hl
  · rw [if_pos q] at e1 e2; exact h1 q e1 e2 H locs arr hP hD hS hl
theorem bs_if_neT (hC : bd_C Γ cc nL own ret R0 ε cells vi t0) {v : Int32} {off : Int} (tgt : Nat) (hd : decode cc pc = .ok (.ifCond .ne off, 3)) (ht : (pc : Int) + off = (tgt : Int)) (hq : ¬ v = 0) (k : bd_S Γ nL t0 x ws (tgt) ls rest) : bd_S Γ nL t0 x ws pc ls (.int v :: rest) := by
  obtain ⟨p, l, e, R, s, m, args, below, meth, c, A, Q, D⟩ := Γ
  intro e1 e2 H locs arr hP hD hS hl
  exact lv_if_ne (tgt := tgt) hC.1 hC.2.1 hd ht (fun _ => k e1 e2 H locs arr hP hD hS hl) (fun q => absurd q hq)
theorem bs_if_neF (hC : bd_C Γ cc nL own ret R0 ε cells vi t0) {v : Int32} {off : Int} (tgt : Nat) (hd : decode cc pc = .ok (.ifCond .ne off, 3)) (ht : (pc : Int) + off = (tgt : Int)) (hq : v = 0) (k : bd_S Γ nL t0 x ws (pc + 3) ls rest) : bd_S Γ nL t0 x ws pc ls (.int v :: rest) := by
  obtain ⟨p, l, e, R, s, m, args, below, meth, c, A, Q, D⟩ := Γ
  intro e1 e2 H locs arr hP hD hS hl
  exact lv_if_ne (tgt := tgt) hC.1 hC.2.1 hd ht (fun q => absurd hq q) (fun _ => k e1 e2 H locs arr hP hD hS hl)
theorem bs_icmp_ne (hC : bd_C Γ cc nL own ret R0 ε cells vi t0) {v w : Int32} {off : Int} (tgt : Nat) {xt xf : Option α} {K : α → Option (ρ × bd_T)} {dc : Decidable (v = w)} (hd : decode cc pc = .ok (.if_icmp .ne off, 3)) (ht : (pc : Int) + off = (tgt : Int)) (h1 : v = w → bd_S Γ nL t0 (xt.bind K) ws (pc + 3) ls rest) (h2 : ¬ v = w → bd_S Γ nL t0 (xf.bind K) ws (tgt) ls rest) : bd_S Γ nL t0 ((@ite (Option α) (v = w) dc xt xf).bind K) ws pc ls (.int w :: .int v :: rest) := by
  obtain ⟨p, l, e, R, s, m, args, below, meth, c, A, Q, D⟩ := Γ
  intro e1 e2 H locs arr hP hD hS hl
  refine lv_icmp_ne (tgt := tgt) hC.1 hC.2.1 hd ht (fun q => ?_) (fun q => ?_)
  · rw [if_neg q] at e1 e2; exact h2 q e1 e2 H locs arr hP hD hS hl
  · rw [if_pos q] at e1 e2; exact h1 q e1 e2 H locs arr hP hD hS hl
theorem bs_icmp_neT (hC : bd_C Γ cc nL own ret R0 ε cells vi t0) {v w : Int32} {off : Int} (tgt : Nat) (hd : decode cc pc = .ok (.if_icmp .ne off, 3)) (ht : (pc : Int) + off = (tgt : Int)) (hq : ¬ v = w) (k : bd_S Γ nL t0 x ws (tgt) ls rest) : bd_S Γ nL t0 x ws pc ls (.int w :: .int v :: rest) := by
  obtain ⟨p, l, e, R, s, m, args, below, meth, c, A, Q, D⟩ := Γ
  intro e1 e2 H locs arr hP hD hS hl
  exact lv_icmp_ne (tgt := tgt) hC.1 hC.2.1 hd ht (fun _ => k e1 e2 H locs arr hP hD hS hl) (fun q => absurd q hq)
theorem bs_icmp_neF (hC : bd_C Γ cc nL own ret R0 ε cells vi t0) {v w : Int32} {off : Int} (tgt : Nat) (hd : decode cc pc = .ok (.if_icmp .ne off, 3)) (ht : (pc : Int) + off = (tgt : Int)) (hq : v = w) (k : bd_S Γ nL t0 x ws (pc + 3) ls rest) : bd_S Γ nL t0 x ws pc ls (.int w :: .int v :: rest) := by
  obtain ⟨p, l, e, R, s, m, args, below, meth, c, A, Q, D⟩ := Γ
  intro e1 e2 H locs arr hP hD hS hl
  exact lv_icmp_ne (tgt := tgt) hC.1 hC.2.1 hd ht (fun q => absurd hq q) (fun _ => k e1 e2 H locs arr hP hD hS hl)
theorem bs_lif_ne (hC : bd_C Γ cc nL own ret R0 ε cells vi t0) {a b : Int64} {off : Int} (tgt : Nat) {xt xf : Option α} {K : α → Option (ρ × bd_T)} {dc : Decidable (a = b)} (hd0 : decode cc pc = .ok (.lcmp, 1)) (hd : decode cc (pc + 1) = .ok (.ifCond .ne off, 3)) (ht : ((pc + 1 : Nat) : Int) + off = (tgt : Int)) (h1 : a = b → bd_S Γ nL t0 (xt.bind K) ws (pc + 1 + 3) ls rest) (h2 : ¬ a = b → bd_S Γ nL t0 (xf.bind K) ws (tgt) ls rest) : bd_S Γ nL t0 ((@ite (Option α) (a = b) dc xt xf).bind K) ws pc ls (.long b :: .long a :: rest) := by
  obtain ⟨p, l, e, R, s, m, args, below, meth, c, A, Q, D⟩ := Γ
  intro e1 e2 H locs arr hP hD hS hl
  refine W.lcmp hC.1 hC.2.1 hd0 ?_
  refine lv_if_ne (tgt := tgt) hC.1 hC.2.1 hd ht (fun q => ?_) (fun q => ?_)
  · rw [if_neg (fun z => q ((lg_cmp_eq a b).mpr z))] at e1 e2; exact h2 (fun z => q ((lg_cmp_eq a b).mpr z)) e1 e2 H locs arr hP hD hS hl
  · rw [if_pos ((lg_cmp_eq a b).mp q)] at e1 e2; exact h1 ((lg_cmp_eq a b).mp q) e1 e2 H locs arr hP hD hS hl
theorem bs_if_lt (hC : bd_C Γ cc nL own ret R0 ε cells vi t0) {v : Int32} {off : Int} (tgt : Nat) {xt xf : Option α} {K : α → Option (ρ × bd_T)} {dc : Decidable (v < 0)} (hd : decode cc pc = .ok (.ifCond .lt off, 3)) (ht : (pc : Int) + off = (tgt : Int)) (h1 : v < 0 → bd_S Γ nL t0 (xt.bind K) ws (tgt) ls rest) (h2 : ¬ v < 0 → bd_S Γ nL t0 (xf.bind K) ws (pc + 3) ls rest) : bd_S Γ nL t0 ((@ite (Option α) (v < 0) dc xt xf).bind K) ws pc ls (.int v :: rest) := by
  obtain ⟨p, l, e, R, s, m, args, below, meth, c, A, Q, D⟩ := Γ
  intro e1 e2 H locs arr hP hD hS hl
  refine lv_if_lt (tgt := tgt) hC.1 hC.2.1 hd ht (fun q => ?_) (fun q => ?_)
  · rw [if_pos q] at e1 e2; exact h1 q e1 e2 H locs arr hP hD hS hl
  · rw [if_neg q] at e1 e2; exact h2 q e1 e2 H locs arr hP hD hS hl
theorem bs_if_ltT (hC : bd_C Γ cc nL own ret R0 ε cells vi t0) {v : Int32} {off : Int} (tgt : Nat) (hd : decode cc pc = .ok (.ifCond .lt off, 3)) (ht : (pc : Int) + off = (tgt : Int)) (hq : v < 0) (k : bd_S Γ nL t0 x ws (tgt) ls rest) : bd_S Γ nL t0 x ws pc ls (.int v :: rest) := by
  obtain ⟨p, l, e, R, s, m, args, below, meth, c, A, Q, D⟩ := Γ
  intro e1 e2 H locs arr hP hD hS hl
  exact lv_if_lt (tgt := tgt) hC.1 hC.2.1 hd ht (fun _ => k e1 e2 H locs arr hP hD hS hl) (fun q => absurd hq q)
theorem bs_if_ltF (hC : bd_C Γ cc nL own ret R0 ε cells vi t0) {v : Int32} {off : Int} (tgt : Nat) (hd : decode cc pc = .ok (.ifCond .lt off, 3)) (ht : (pc : Int) + off = (tgt : Int)) (hq : ¬ v < 0) (k : bd_S Γ nL t0 x ws (pc + 3) ls rest) : bd_S Γ nL t0 x ws pc ls (.int v :: rest) := by
  obtain ⟨p, l, e, R, s, m, args, below, meth, c, A, Q, D⟩ := Γ
  intro e1 e2 H locs arr hP hD hS hl
  exact lv_if_lt (tgt := tgt) hC.1 hC.2.1 hd ht (fun q => absurd q hq) (fun _ => k e1 e2 H locs arr hP hD hS hl)
theorem bs_icmp_lt (hC : bd_C Γ cc nL own ret R0 ε cells vi t0) {v w : Int32} {off : Int} (tgt : Nat) {xt xf : Option α} {K : α → Option (ρ × bd_T)} {dc : Decidable (v < w)} (hd : decode cc pc = .ok (.if_icmp .lt off, 3)) (ht : (pc : Int) + off = (tgt : Int)) (h1 : v < w → bd_S Γ nL t0 (xt.bind K) ws (tgt) ls rest) (h2 : ¬ v < w → bd_S Γ nL t0 (xf.bind K) ws (pc + 3) ls rest) : bd_S Γ nL t0 ((@ite (Option α) (v < w) dc xt xf).bind K) ws pc ls (.int w :: .int v :: rest) := by
  obtain ⟨p, l, e, R, s, m, args, below, meth, c, A, Q, D⟩ := Γ
  intro e1 e2 H locs arr hP hD hS hl
  refine lv_icmp_lt (tgt := tgt) hC.1 hC.2.1 hd ht (fun q => ?_) (fun q => ?_)
  · rw [if_pos q] at e1 e2; exact h1 q e1 e2 H locs arr hP hD hS hl
  · rw [if_neg q] at e1 e2; exact h2 q e1 e2 H locs arr hP hD hS hl
theorem bs_icmp_ltT (hC : bd_C Γ cc nL own ret R0 ε cells vi t0) {v w : Int32} {off : Int} (tgt : Nat) (hd : decode cc pc = .ok (.if_icmp .lt off, 3)) (ht : (pc : Int) + off = (tgt : Int)) (hq : v < w) (k : bd_S Γ nL t0 x ws (tgt) ls rest) : bd_S Γ nL t0 x ws pc ls (.int w :: .int v :: rest) := by
  obtain ⟨p, l, e, R, s, m, args, below, meth, c, A, Q, D⟩ := Γ
  intro e1 e2 H locs arr hP hD hS hl
  exact lv_icmp_lt (tgt := tgt) hC.1 hC.2.1 hd ht (fun _ => k e1 e2 H locs arr hP hD hS hl) (fun q => absurd hq q)
theorem bs_icmp_ltF (hC : bd_C Γ cc nL own ret R0 ε cells vi t0) {v w : Int32} {off : Int} (tgt : Nat) (hd : decode cc pc = .ok (.if_icmp .lt off, 3)) (ht : (pc : Int) + off = (tgt : Int)) (hq : ¬ v < w) (k : bd_S Γ nL t0 x ws (pc + 3) ls rest) : bd_S Γ nL t0 x ws pc ls (.int w :: .int v :: rest) := by
  obtain ⟨p, l, e, R, s, m, args, below, meth, c, A, Q, D⟩ := Γ
  intro e1 e2 H locs arr hP hD hS hl
  exact lv_icmp_lt (tgt := tgt) hC.1 hC.2.1 hd ht (fun q => absurd q hq) (fun _ => k e1 e2 H locs arr hP hD hS hl)
theorem bs_lif_lt (hC : bd_C Γ cc nL own ret R0 ε cells vi t0) {a b : Int64} {off : Int} (tgt : Nat) {xt xf : Option α} {K : α → Option (ρ × bd_T)} {dc : Decidable (a < b)} (hd0 : decode cc pc = .ok (.lcmp, 1)) (hd : decode cc (pc + 1) = .ok (.ifCond .lt off, 3)) (ht : ((pc + 1 : Nat) : Int) + off = (tgt : Int)) (h1 : a < b → bd_S Γ nL t0 (xt.bind K) ws (tgt) ls rest) (h2 : ¬ a < b → bd_S Γ nL t0 (xf.bind K) ws (pc + 1 + 3) ls rest) : bd_S Γ nL t0 ((@ite (Option α) (a < b) dc xt xf).bind K) ws pc ls (.long b :: .long a :: rest) := by
  obtain ⟨p, l, e, R, s, m, args, below, meth, c, A, Q, D⟩ := Γ
  intro e1 e2 H locs arr hP hD hS hl
  refine W.lcmp hC.1 hC.2.1 hd0 ?_
  refine lv_if_lt (tgt := tgt) hC.1 hC.2.1 hd ht (fun q => ?_) (fun q => ?_)
  · rw [if_pos ((lg_cmp_lt a b).mp q)] at e1 e2; exact h1 ((lg_cmp_lt a b).mp q) e1 e2 H locs arr hP hD hS hl
  · rw [if_neg (fun z => q ((lg_cmp_lt a b).mpr z))] at e1 e2; exact h2 (fun z => q ((lg_cmp_lt a b).mpr z)) e1 e2 H locs arr hP hD hS hl
theorem bs_if_ge (hC : bd_C Γ cc nL own ret R0 ε cells vi t0) {v : Int32} {off : Int} (tgt : Nat) {xt xf : Option α} {K : α → Option (ρ × bd_T)} {dc : Decidable (0 ≤ v)} (hd : decode cc pc = .ok (.ifCond .ge off, 3)) (ht : (pc : Int) + off = (tgt : Int)) (h1 : 0 ≤ v → bd_S Γ nL t0 (xt.bind K) ws (tgt) ls rest) (h2 : ¬ 0 ≤ v → bd_S Γ nL t0 (xf.bind K) ws (pc + 3) ls rest) : bd_S Γ nL t0 ((@ite (Option α) (0 ≤ v) dc xt xf).bind K) ws pc ls (.int v :: rest) := by
  obtain ⟨p, l, e, R, s, m, args, below, meth, c, A, Q, D⟩ := Γ
  intro e1 e2 H locs arr hP hD hS hl
  refine lv_if_ge (tgt := tgt) hC.1 hC.2.1 hd ht (fun q => ?_) (fun q => ?_)
  · rw [if_pos q] at e1 e2; exact h1 q e1 e2 H locs arr hP hD hS hl
  · rw [if_neg q] at e1 e2; exact h2 q e1 e2 H locs arr hP hD hS hl
theorem bs_if_geT (hC : bd_C Γ cc nL own ret R0 ε cells vi t0) {v : Int32} {off : Int} (tgt : Nat) (hd : decode cc pc = .ok (.ifCond .ge off, 3)) (ht : (pc : Int) + off = (tgt : Int)) (hq : 0 ≤ v) (k : bd_S Γ nL t0 x ws (tgt) ls rest) : bd_S Γ nL t0 x ws pc ls (.int v :: rest) := by
  obtain ⟨p, l, e, R, s, m, args, below, meth, c, A, Q, D⟩ := Γ
  intro e1 e2 H locs arr hP hD hS hl
  exact lv_if_ge (tgt := tgt) hC.1 hC.2.1 hd ht (fun _ => k e1 e2 H locs arr hP hD hS hl) (fun q => absurd hq q)
theorem bs_if_geF (hC : bd_C Γ cc nL own ret R0 ε cells vi t0) {v : Int32} {off : Int} (tgt : Nat) (hd : decode cc pc = .ok (.ifCond .ge off, 3)) (ht : (pc : Int) + off = (tgt : Int)) (hq : ¬ 0 ≤ v) (k : bd_S Γ nL t0 x ws (pc + 3) ls rest) : bd_S Γ nL t0 x ws pc ls (.int v :: rest) := by
  obtain ⟨p, l, e, R, s, m, args, below, meth, c, A, Q, D⟩ := Γ
  intro e1 e2 H locs arr hP hD hS hl
  exact lv_if_ge (tgt := tgt) hC.1 hC.2.1 hd ht (fun q => absurd q hq) (fun _ => k e1 e2 H locs arr hP hD hS hl)
theorem bs_icmp_ge (hC : bd_C Γ cc nL own ret R0 ε cells vi t0) {v w : Int32} {off : Int} (tgt : Nat) {xt xf : Option α} {K : α → Option (ρ × bd_T)} {dc : Decidable (w ≤ v)} (hd : decode cc pc = .ok (.if_icmp .ge off, 3)) (ht : (pc : Int) + off = (tgt : Int)) (h1 : w ≤ v → bd_S Γ nL t0 (xt.bind K) ws (tgt) ls rest) (h2 : ¬ w ≤ v → bd_S Γ nL t0 (xf.bind K) ws (pc + 3) ls rest) : bd_S Γ nL t0 ((@ite (Option α) (w ≤ v) dc xt xf).bind K) ws pc ls (.int w :: .int v :: rest) := by
  obtain ⟨p, l, e, R, s, m, args, below, meth, c, A, Q, D⟩ := Γ
  intro e1 e2 H locs arr hP hD hS hl
  refine lv_icmp_ge (tgt := tgt) hC.1 hC.2.1 hd ht (fun q => ?_) (fun q => ?_)
  · rw [if_pos q] at e1 e2; exact h1 q e1 e2 H locs arr hP hD hS hl
  · rw [if_neg q] at e1 e2; exact h2 q e1 e2 H locs arr hP hD hS hl
theorem bs_icmp_geT (hC : bd_C Γ cc nL own ret R0 ε cells vi t0) {v w : Int32} {off : Int} (tgt : Nat) (hd : decode cc pc = .ok (.if_icmp .ge off, 3)) (ht : (pc : Int) + off = (tgt : Int)) (hq : w ≤ v) (k : bd_S Γ nL t0 x ws (tgt) ls rest) : bd_S Γ nL t0 x ws pc ls (.int w :: .int v :: rest) := by
  obtain ⟨p, l, e, R, s, m, args, below, meth, c, A, Q, D⟩ := Γ
  intro e1 e2 H locs arr hP hD hS hl
  exact lv_icmp_ge (tgt := tgt) hC.1 hC.2.1 hd ht (fun _ => k e1 e2 H locs arr hP hD hS hl) (fun q => absurd hq q)
theorem bs_icmp_geF (hC : bd_C Γ cc nL own ret R0 ε cells vi t0) {v w : Int32} {off : Int} (tgt : Nat) (hd : decode cc pc = .ok (.if_icmp .ge off, 3)) (ht : (pc : Int) + off = (tgt : Int)) (hq : ¬ w ≤ v) (k : bd_S Γ nL t0 x ws (pc + 3) ls rest) : bd_S Γ nL t0 x ws pc ls (.int w :: .int v :: rest) := by
  obtain ⟨p, l, e, R, s, m, args, below, meth, c, A, Q, D⟩ := Γ
  intro e1 e2 H locs arr hP hD hS hl
  exact lv_icmp_ge (tgt := tgt) hC.1 hC.2.1 hd ht (fun q => absurd q hq) (fun _ => k e1 e2 H locs arr hP hD hS hl)
theorem bs_lif_ge (hC : bd_C Γ cc nL own ret R0 ε cells vi t0) {a b : Int64} {off : Int} (tgt : Nat) {xt xf : Option α} {K : α → Option (ρ × bd_T)} {dc : Decidable (b ≤ a)} (hd0 : decode cc pc = .ok (.lcmp, 1)) (hd : decode cc (pc + 1) = .ok (.ifCond .ge off, 3)) (ht : ((pc + 1 : Nat) : Int) + off = (tgt : Int)) (h1 : b ≤ a → bd_S Γ nL t0 (xt.bind K) ws (tgt) ls rest) (h2 : ¬ b ≤ a → bd_S Γ nL t0 (xf.bind K) ws (pc + 1 + 3) ls rest) : bd_S Γ nL t0 ((@ite (Option α) (b ≤ a) dc xt xf).bind K) ws pc ls (.long b :: .long a :: rest) := by
  obtain ⟨p, l, e, R, s, m, args, below, meth, c, A, Q, D⟩ := Γ
  intro e1 e2 H locs arr hP hD hS hl
  refine W.lcmp hC.1 hC.2.1 hd0 ?_
  refine lv_if_ge (tgt := tgt) hC.1 hC.2.1 hd ht (fun q => ?_) (fun q => ?_)
  · rw [if_pos ((lg_cmp_ge a b).mp q)] at e1 e2; exact h1 ((lg_cmp_ge a b).mp q) e1 e2 H locs arr hP hD hS hl
  · rw [if_neg (fun z => q ((lg_cmp_ge a b).mpr z))] at e1 e2; exact h2 (fun z => q ((lg_cmp_ge a b).mpr z)) e1 e2 H locs arr hP hD hS hl
theorem bs_if_gt (hC : bd_C Γ cc nL own ret R0 ε cells vi t0) {v : Int32} {off : Int} (tgt : Nat) {xt xf : Option α} {K : α → Option (ρ × bd_T)} {dc : Decidable (0 < v)} (hd : decode cc pc = .ok (.ifCond .gt off, 3)) (ht : (pc : Int) + off = (tgt : Int)) (h1 : 0 < v → bd_S Γ nL t0 (xt.bind K) ws (tgt) ls rest) (h2 : ¬ 0 < v → bd_S Γ nL t0 (xf.bind K) ws (pc + 3) ls rest) : bd_S Γ nL t0 ((@ite (Option α) (0 < v) dc xt xf).bind K) ws pc ls (.int v :: rest) := by
  obtain ⟨p, l, e, R, s, m, args, below, meth, c, A, Q, D⟩ := Γ
  intro e1 e2 H locs arr hP hD hS hl
  refine lv_if_gt (tgt := tgt) hC.1 hC.2.1 hd ht (fun q => ?_) (fun q => ?_)
  · rw [if_pos q] at e1 e2; exact h1 q e1 e2 H locs arr hP hD hS hl
  · rw [if_neg q] at e1 e2; exact h2 q e1 e2 H locs arr hP hD hS hl
theorem bs_if_gtT (hC : bd_C Γ cc nL own ret R0 ε cells vi t0) {v : Int32} {off : Int} (tgt : Nat) (hd : decode cc pc = .ok (.ifCond .gt off, 3)) (ht : (pc : Int) + off = (tgt : Int)) (hq : 0 < v) (k : bd_S Γ nL t0 x ws (tgt) ls rest) : bd_S Γ nL t0 x ws pc ls (.int v :: rest) := by
  obtain ⟨p, l, e, R, s, m, args, below, meth, c, A, Q, D⟩ := Γ
  intro e1 e2 H locs arr hP hD hS hl
  exact lv_if_gt (tgt := tgt) hC.1 hC.2.1 hd ht (fun _ => k e1 e2 H locs arr hP hD hS hl) (fun q => absurd hq q)
theorem bs_if_gtF (hC : bd_C Γ cc nL own ret R0 ε cells vi t0) {v : Int32} {off : Int} (tgt : Nat) (hd : decode cc pc = .ok (.ifCond .gt off, 3)) (ht : (pc : Int) + off = (tgt : Int)) (hq : ¬ 0 < v) (k : bd_S Γ nL t0 x ws (pc + 3) ls rest) : bd_S Γ nL t0 x ws pc ls (.int v :: rest) := by
  obtain ⟨p, l, e, R, s, m, args, below, meth, c, A, Q, D⟩ := Γ
  intro e1 e2 H locs arr hP hD hS hl
  exact lv_if_gt (tgt := tgt) hC.1 hC.2.1 hd ht (fun q => absurd q hq) (fun _ => k e1 e2 H locs arr hP hD hS hl)
theorem bs_icmp_gt (hC : bd_C Γ cc nL own ret R0 ε cells vi t0) {v w : Int32} {off : Int} (tgt : Nat) {xt xf : Option α} {K : α → Option (ρ × bd_T)} {dc : Decidable (w < v)} (hd : decode cc pc = .ok (.if_icmp .gt off, 3)) (ht : (pc : Int) + off = (tgt : Int)) (h1 : w < v → bd_S Γ nL t0 (xt.bind K) ws (tgt) ls rest) (h2 : ¬ w < v → bd_S Γ nL t0 (xf.bind K) ws (pc + 3) ls rest) : bd_S Γ nL t0 ((@ite (Option α) (w < v) dc xt xf).bind K) ws pc ls (.int w :: .int v :: rest) := by
  obtain ⟨p, l, e, R, s, m, args, below, meth, c, A, Q, D⟩ := Γ
  intro e1 e2 H locs arr hP hD hS hl
  refine lv_icmp_gt (tgt := tgt) hC.1 hC.2.1 hd ht (fun q => ?_) (fun q => ?_)
  · rw [if_pos q] at e1 e2; exact h1 q e1 e2 H locs arr hP hD hS hl
  · rw [if_neg q] at e1 e2; exact h2 q e1 e2 H locs arr hP hD hS hl
theorem bs_icmp_gtT (hC : bd_C Γ cc nL own ret R0 ε cells vi t0) {v w : Int32} {off : Int} (tgt : Nat) (hd : decode cc pc = .ok (.if_icmp .gt off, 3)) (ht : (pc : Int) + off = (tgt : Int)) (hq : w < v) (k : bd_S Γ nL t0 x ws (tgt) ls rest) : bd_S Γ nL t0 x ws pc ls (.int w :: .int v :: rest) := by
  obtain ⟨p, l, e, R, s, m, args, below, meth, c, A, Q, D⟩ := Γ
  intro e1 e2 H locs arr hP hD hS hl
  exact lv_icmp_gt (tgt := tgt) hC.1 hC.2.1 hd ht (fun _ => k e1 e2 H locs arr hP hD hS hl) (fun q => absurd hq q)
theorem bs_icmp_gtF (hC : bd_C Γ cc nL own ret R0 ε cells vi t0) {v w : Int32} {off : Int} (tgt : Nat) (hd : decode cc pc = .ok (.if_icmp .gt off, 3)) (ht : (pc : Int) + off = (tgt : Int)) (hq : ¬ w < v) (k : bd_S Γ nL t0 x ws (pc + 3) ls rest) : bd_S Γ nL t0 x ws pc ls (.int w :: .int v :: rest) := by
  obtain ⟨p, l, e, R, s, m, args, below, meth, c, A, Q, D⟩ := Γ
  intro e1 e2 H locs arr hP hD hS hl
  exact lv_icmp_gt (tgt := tgt) hC.1 hC.2.1 hd ht (fun q => absurd q hq) (fun _ => k e1 e2 H locs arr hP hD hS hl)
theorem bs_lif_gt (hC : bd_C Γ cc nL own ret R0 ε cells vi t0) {a b : Int64} {off : Int} (tgt : Nat) {xt xf : Option α} {K : α → Option (ρ × bd_T)} {dc : Decidable (b < a)} (hd0 : decode cc pc = .ok (.lcmp, 1)) (hd : decode cc (pc + 1) = .ok (.ifCond .gt off, 3)) (ht : ((pc + 1 : Nat) : Int) + off = (tgt : Int)) (h1 : b < a → bd_S Γ nL t0 (xt.bind K) ws (tgt) ls rest) (h2 : ¬ b < a → bd_S Γ nL t0 (xf.bind K) ws (pc + 1 + 3) ls rest) : bd_S Γ nL t0 ((@ite (Option α) (b < a) dc xt xf).bind K) ws pc ls (.long b :: .long a :: rest) := by
  obtain ⟨p, l, e, R, s, m, args, below, meth, c, A, Q, D⟩ := Γ
  intro e1 e2 H locs arr hP hD hS hl
  refine W.lcmp hC.1 hC.2.1 hd0 ?_
  refine lv_if_gt (tgt := tgt) hC.1 hC.2.1 hd ht (fun q => ?_) (fun q => ?_)
  · rw [if_pos ((lg_cmp_gt a b).mp q)] at e1 e2; exact h1 ((lg_cmp_gt a b).mp q) e1 e2 H locs arr hP hD hS hl
  · rw [if_neg (fun z => q ((lg_cmp_gt a b).mpr z))] at e1 e2; exact h2 (fun z => q ((lg_cmp_gt a b).mpr z)) e1 e2 H locs arr hP hD hS hl
theorem bs_if_le (hC : bd_C Γ cc nL own ret R0 ε cells vi t0) {v : Int32} {off : Int} (tgt : Nat) {xt xf : Option α} {K : α → Option (ρ × bd_T)} {dc : Decidable (v ≤ 0)} (hd : decode cc pc = .ok (.ifCond .le off, 3)) (ht : (pc : Int) + off = (tgt : Int)) (h1 : v ≤ 0 → bd_S Γ nL t0 (xt.bind K) ws (tgt) ls rest) (h2 : ¬ v ≤ 0 → bd_S Γ nL t0 (xf.bind K) ws (pc + 3) ls rest) : bd_S Γ nL t0 ((@ite (Option α) (v ≤ 0) dc xt xf).bind K) ws pc ls (.int v :: rest) := by
  obtain ⟨p, l, e, R, s, m, args, below, meth, c, A, Q, D⟩ := Γ
  intro e1 e2 H locs arr hP hD hS hl
  refine lv_if_le (tgt := tgt) hC.1 hC.2.1 hd ht (fun q => ?_) (fun q => ?_)
  · rw [if_pos q] at e1 e2; exact h1 q e1 e2 H locs arr hP hD hS hl
  · rw [if_neg q] at e1 e2; exact h2 q e1 e2 H locs arr hP hD hS hl
theorem bs_if_leT (hC : bd_C Γ cc nL own ret R0 ε cells vi t0) {v : Int32} {off : Int} (tgt : Nat) (hd : decode cc pc = .ok (.ifCond .le off, 3)) (ht : (pc : Int) + off = (tgt : Int)) (hq : v ≤ 0) (k : bd_S Γ nL t0 x ws (tgt) ls rest) : bd_S Γ nL t0 x ws pc ls (.int v :: rest) := by
  obtain ⟨p, l, e, R, s, m, args, below, meth, c, A, Q, D⟩ := Γ
  intro e1 e2 H locs arr hP hD hS hl
  exact lv_if_le (tgt := tgt) hC.1 hC.2.1 hd ht (fun _ => k e1 e2 H locs arr hP hD hS hl) (fun q => absurd hq q)
theorem bs_if_leF (hC : bd_C Γ cc nL own ret R0 ε cells vi t0) {v : Int32} {off : Int} (tgt : Nat) (hd : decode cc pc = .ok (.ifCond .le off, 3)) (ht : (pc : Int) + off = (tgt : Int)) (hq : ¬ v ≤ 0) (k : bd_S Γ nL t0 x ws (pc + 3) ls rest) : bd_S Γ nL t0 x ws pc ls (.int v :: rest) := by
  obtain ⟨p, l, e, R, s, m, args, below, meth, c, A, Q, D⟩ := Γ
  intro e1 e2 H locs arr hP hD hS hl
  exact lv_if_le (tgt := tgt) hC.1 hC.2.1 hd ht (fun q => absurd q hq) (fun _ => k e1 e2 H locs arr hP hD hS hl)
theorem bs_icmp_le (hC : bd_C Γ cc nL own ret R0 ε cells vi t0) {v w : Int32} {off : Int} (tgt : Nat) {xt xf : Option α} {K : α → Option (ρ × bd_T)} {dc : Decidable (v ≤ w)} (hd : decode cc pc = .ok (.if_icmp .le off, 3)) (ht : (pc : Int) + off = (tgt : Int)) (h1 : v ≤ w → bd_S Γ nL t0 (xt.bind K) ws (tgt) ls rest) (h2 : ¬ v ≤ w → bd_S Γ nL t0 (xf.bind K) ws (pc + 3) ls rest) : bd_S Γ nL t0 ((@ite (Option α) (v ≤ w) dc xt xf).bind K) ws pc ls (.int w :: .int v :: rest) := by
  obtain ⟨p, l, e, R, s, m, args, below, meth, c, A, Q, D⟩ := Γ
  intro e1 e2 H locs arr hP hD hS hl
  refine lv_icmp_le (tgt := tgt) hC.1 hC.2.1 hd ht (fun q => ?_) (fun q => ?_)
  · rw [if_pos q] at e1 e2; exact h1 q e1 e2 H locs arr hP hD hS hl
  · rw [if_neg q] at e1 e2; exact h2 q e1 e2 H locs arr hP hD hS hl
theorem bs_icmp_leT (hC : bd_C Γ cc nL own ret R0 ε cells vi t0) {v w : Int32} {off : Int} (tgt : Nat) (hd : decode cc pc = .ok (.if_icmp .le off, 3)) (ht : (pc : Int) + off = (tgt : Int)) (hq : v ≤ w) (k : bd_S Γ nL t0 x ws (tgt) ls rest) : bd_S Γ nL t0 x ws pc ls (.int w :: .int v :: rest) := by
  obtain ⟨p, l, e, R, s, m, args, below, meth, c, A, Q, D⟩ := Γ
  intro e1 e2 H locs arr hP hD hS hl
  exact lv_icmp_le (tgt := tgt) hC.1 hC.2.1 hd ht (fun _ => k e1 e2 H locs arr hP hD hS hl) (fun q => absurd hq q)
theorem bs_icmp_leF (hC : bd_C Γ cc nL own ret R0 ε cells vi t0) {v w : Int32} {off : Int} (tgt : Nat) (hd : decode cc pc = .ok (.if_icmp .le off, 3)) (ht : (pc : Int) + off = (tgt : Int)) (hq : ¬ v ≤ w) (k : bd_S Γ nL t0 x ws (pc + 3) ls rest) : bd_S Γ nL t0 x ws pc ls (.int w :: .int v :: rest) := by
  obtain ⟨p, l, e, R, s, m, args, below, meth, c, A, Q, D⟩ := Γ
  intro e1 e2 H locs arr hP hD hS hl
  exact lv_icmp_le (tgt := tgt) hC.1 hC.2.1 hd ht (fun q => absurd q hq) (fun _ => k e1 e2 H locs arr hP hD hS hl)
theorem bs_lif_le (hC : bd_C Γ cc nL own ret R0 ε cells vi t0) {a b : Int64} {off : Int} (tgt : Nat) {xt xf : Option α} {K : α → Option (ρ × bd_T)} {dc : Decidable (a ≤ b)} (hd0 : decode cc pc = .ok (.lcmp, 1)) (hd : decode cc (pc + 1) = .ok (.ifCond .le off, 3)) (ht : ((pc + 1 : Nat) : Int) + off = (tgt : Int)) (h1 : a ≤ b → bd_S Γ nL t0 (xt.bind K) ws (tgt) ls rest) (h2 : ¬ a ≤ b → bd_S Γ nL t0 (xf.bind K) ws (pc + 1 + 3) ls rest) : bd_S Γ nL t0 ((@ite (Option α) (a ≤ b) dc xt xf).bind K) ws pc ls (.long b :: .long a :: rest) := by
  obtain ⟨p, l, e, R, s, m, args, below, meth, c, A, Q, D⟩ := Γ
  intro e1 e2 H locs arr hP hD hS hl
  refine W.lcmp hC.1 hC.2.1 hd0 ?_
  refine lv_if_le (tgt := tgt) hC.1 hC.2.1 hd ht (fun q => ?_) (fun q => ?_)
  · rw [if_pos ((lg_cmp_le a b).mp q)] at e1 e2; exact h1 ((lg_cmp_le a b).mp q) e1 e2 H locs arr hP hD hS hl
  · rw [if_neg (fun z => q ((lg_cmp_le a b).mpr z))] at e1 e2; exact h2 (fun z => q ((lg_cmp_le a b).mpr z)) e1 e2 H locs arr hP hD hS hl
theorem bs_goto (hC : bd_C Γ cc nL own ret R0 ε cells vi t0) {off : Int} (tgt : Nat) (hd : decode cc pc = .ok (.goto off, 3)) (ht : (pc : Int) + off = (tgt : Int)) (k : bd_S Γ nL t0 x ws tgt ls rest) : bd_S Γ nL t0 x ws pc ls rest := by
  obtain ⟨p, l, e, R, s, m, args, below, meth, c, A, Q, D⟩ := Γ
  intro e1 e2 H locs arr hP hD hS hl
  exact lv_goto (tgt := tgt) hC.1 hC.2.1 hd ht (k e1 e2 H locs arr hP hD hS hl)
theorem bs_tabIn (hC : bd_C Γ cc nL own ret R0 ε cells vi t0) {dflt lo hi : Int} {offs : Array Int} {len : Nat} {v : Int32} (q : Int32) (off : Int) (tgt : Nat) (hd : decode cc pc = .ok (.tableswitch dflt lo hi offs, len)) (hv : v = q) (h1 : ¬ q.toInt < lo) (h2 : ¬ hi < q.toInt) (ho : offs[(q.toInt - lo).toNat]? = some off) (ht : (pc : Int) + off = (tgt : Int)) (k : bd_S Γ nL t0 x ws tgt ls rest) : bd_S Γ nL t0 x ws pc ls (.int v :: rest) := by
  obtain ⟨p, l, e, R, s, m, args, below, meth, c, A, Q, D⟩ := Γ
  intro e1 e2 H locs arr hP hD hS hl
  subst hv
  exact lv_tableIn (tgt := tgt) hC.1 hC.2.1 hd h1 h2 ho ht (k e1 e2 H locs arr hP hD hS hl)
theorem bs_tabOut (hC : bd_C Γ cc nL own ret R0 ε cells vi t0) {dflt lo hi : Int} {offs : Array Int} {len : Nat} {v : Int32} (tgt : Nat) (hd : decode cc pc = .ok (.tableswitch dflt lo hi offs, len)) (h : v.toInt < lo ∨ hi < v.toInt) (ht : (pc : Int) + dflt = (tgt : Int)) (k : bd_S Γ nL t0 x ws tgt ls rest) : bd_S Γ nL t0 x ws pc ls (.int v :: rest) := by
  obtain ⟨p, l, e, R, s, m, args, below, meth, c, A, Q, D⟩ := Γ
  intro e1 e2 H locs arr hP hD hS hl
  exact lv_tableOut (tgt := tgt) hC.1 hC.2.1 hd h ht (k e1 e2 H locs arr hP hD hS hl)
theorem bs_lookup (hC : bd_C Γ cc nL own ret R0 ε cells vi t0) {dflt : Int} {ps : Array (Int × Int)} {len : Nat} {v : Int32} {off : Int} (tgt : Nat) (hd : decode cc pc = .ok (.lookupswitch dflt ps, len)) (hp : (ps.toList.zip (ps.toList.drop 1)).all (fun (a, next) => a.1 < next.1) = true) (ho : Op.lookupswitch.offset ps.toList dflt v.toInt = off) (ht : (pc : Int) + off = (tgt : Int)) (k : bd_S Γ nL t0 x ws tgt ls rest) : bd_S Γ nL t0 x ws pc ls (.int v :: rest) := by
  obtain ⟨p, l, e, R, s, m, args, below, meth, c, A, Q, D⟩ := Γ
  intro e1 e2 H locs arr hP hD hS hl
  exact lv_lookup (tgt := tgt) hC.1 hC.2.1 hd hp ho ht (k e1 e2 H locs arr hP hD hS hl)
/-- a case of the meaning, without a step of the machine -/
theorem bs_case {c : Prop} {dc : Decidable c} {xt xf : Option α} {K : α → Option (ρ × bd_T)} {st : List Value} (h1 : c → bd_S Γ nL t0 (xt.bind K) ws pc ls st) (h2 : ¬ c → bd_S Γ nL t0 (xf.bind K) ws pc ls st) : bd_S Γ nL t0 ((@ite (Option α) c dc xt xf).bind K) ws pc ls st := by
  intro e1 e2
  by_cases q : c
  · rw [if_pos q] at e1 e2; exact h1 q e1 e2
  · rw [if_neg q] at e1 e2; exact h2 q e1 e2
/-- a value of the meaning -/
theorem bs_some {z : α} {K : α → Option (ρ × bd_T)} {st : List Value} (k : bd_S Γ nL t0 (K z) ws pc ls st) : bd_S Γ nL t0 ((some z).bind K) ws pc ls st := k
/-- a step of the meaning that may fail -/
theorem bs_opt {o : Option β} {f : β → Option α} {K : α → Option (ρ × bd_T)} {st : List Value} (k : ∀ z, o = some z → bd_S Γ nL t0 ((f z).bind K) ws pc ls st) : bd_S Γ nL t0 ((o.bind f).bind K) ws pc ls st := by
  intro e1 e2
  cases o with
  | none => cases e2
  | some z => exact k z rfl e1 e2
/-! fields and rows -/
theorem bs_get (hC : bd_C Γ cc nL own ret R0 ε cells vi t0) {C : String} {T : u_T} {N ci index a : Nat} {fs : List Value} {v : Value} (hin : ∀ w ∈ u_ws C T N, w ∈ bd_tbl) (q0 : Nat) (he : ws[q0]? = some (a, .inr (ci, fs))) (hc : vwCl[ci]? = some (C, T, N)) (kf : Nat) (hk : kf < N) (hm : Cond.fieldLink own index (T kf).1 (T kf).2.1 (T kf).2.2.1 ∈ bd_tbl) (hv : fs[kf]? = some v) (hd : decode cc pc = .ok (.getfield index, 3)) (k : bd_S Γ nL t0 x ws (pc + 3) ls (v :: rest)) : bd_S Γ nL t0 x ws pc ls (.ref a :: rest) := by
  obtain ⟨p, l, e, R, s, m, args, below, meth, c, A, Q, D⟩ := Γ
  intro e1 e2 H locs arr hP hD hS hl
  obtain ⟨hx, hb, hml, hown, hts, hr, hlk, hK, hN, hR, hA, hQ⟩ := hC
  exact va_get hx hb hts hin hown hK hP q0 he hc kf hk (hts _ hm) (fun _ h9 => h9) hv hd (k e1 e2 H locs arr hP hD hS hl)
theorem bs_getN (hC : bd_C Γ cc nL own ret R0 ε cells vi t0) {C host : String} {T : u_T} {N ci index a : Nat} {fs : List Value} {v : Value} (hin : ∀ w ∈ u_ws C T N, w ∈ bd_tbl) (q0 : Nat) (he : ws[q0]? = some (a, .inr (ci, fs))) (hc : vwCl[ci]? = some (C, T, N)) (kf : Nat) (hk : kf < N) (hm : ((own, index, (T kf).1, (T kf).2.1, (T kf).2.2.1, host) : String × Nat × String × String × String × String) ∈ bd_nF) (hv : fs[kf]? = some v) (hd : decode cc pc = .ok (.getfield index, 3)) (k : bd_S Γ nL t0 x ws (pc + 3) ls (v :: rest)) : bd_S Γ nL t0 x ws pc ls (.ref a :: rest) := by
  obtain ⟨p, l, e, R, s, m, args, below, meth, c, A, Q, D⟩ := Γ
  intro e1 e2 H locs arr hP hD hS hl
  obtain ⟨hx, hb, hml, hown, hts, hr, hlk, hK, hN, hR, hA, hQ⟩ := hC
  exact va_getN (host := host) hx hb hts hin hown hK hP q0 he hc kf hk (va_Nw.use rfl (hN.2.1 _ hm)) (fun _ h9 => h9) hv hd (k e1 e2 H locs arr hP hD hS hl)
theorem bs_put (hC : bd_C Γ cc nL own ret R0 ε cells vi t0) {C : String} {T : u_T} {N ci index a kk : Nat} {S : bd_T} {fs : List Value} {v : Int32} {f : bd_T → Option α} {K : α → Option (ρ × bd_T)} (hin : ∀ w ∈ u_ws C T N, w ∈ bd_tbl) (ty0 : Nat → FieldType) (hty : ∀ k, k < N → parseFieldDescriptor (T k).2.2.1 = some (ty0 k)) (hnm : ∀ a, a < N → ∀ b, b < N → a ≠ b → (T a).2.1 ≠ (T b).2.1) (q0 : Nat) (he : (cells S)[q0]? = some (a, .inr (ci, fs))) (hc : vwCl[ci]? = some (C, T, N)) (kf : Nat) (hk : kf < N) (hm : Cond.fieldLink own index (T kf).1 (T kf).2.1 (T kf).2.2.1 ∈ bd_tbl) (hfin : (T kf).2.2.2 = false) (hn : narrow (ty0 kf) (.int v) = .int v) (hfit : fits (ty0 kf) (.int v) = true) (hlen : kf < fs.length) (hset : (cells S).set q0 (a, .inr (ci, fs.set kf (.int v))) = cells (bd_pI S kk v)) (hd : decode cc pc = .ok (.putfield index, 3)) (k : ∀ S' : bd_T, bd_si S kk v = some S' → bd_S Γ nL t0 ((f S').bind K) (cells S') (pc + 3) ls rest) : bd_S Γ nL t0 (((bd_si S kk v).bind f).bind K) (cells S) pc ls (.int v :: .ref a :: rest) := by
  obtain ⟨p, l, e, R, s, m, args, below, meth, c, A, Q, D⟩ := Γ
  intro e1 e2 H locs arr hP hD hS hl
  obtain ⟨hx, hb, hml, hown, hts, hr, hlk, hK, hN, hR, hA, hQ⟩ := hC
  refine va_put hx hb hts hin ty0 hty hnm hown hK hP hD hS q0 he hc kf hk (hts _ hm) (fun _ h9 => h9) hfin (hty kf hk) hn hfit hlen hd (fun H1 locs1 hP hD hS => ?_)
  rw [hset] at hP hD
  exact k _ rfl e1 e2 H1 locs1 arr hP hD hS hl
theorem bs_putN (hC : bd_C Γ cc nL own ret R0 ε cells vi t0) {C host : String} {T : u_T} {N ci index a kk : Nat} {S : bd_T} {fs : List Value} {v : Int32} {f : bd_T → Option α} {K : α → Option (ρ × bd_T)} (hin : ∀ w ∈ u_ws C T N, w ∈ bd_tbl) (ty0 : Nat → FieldType) (hty : ∀ k, k < N → parseFieldDescriptor (T k).2.2.1 = some (ty0 k)) (hnm : ∀ a, a < N → ∀ b, b < N → a ≠ b → (T a).2.1 ≠ (T b).2.1) (q0 : Nat) (he : (cells S)[q0]? = some (a, .inr (ci, fs))) (hc : vwCl[ci]? = some (C, T, N)) (kf : Nat) (hk : kf < N) (hm : ((own, index, (T kf).1, (T kf).2.1, (T kf).2.2.1, host) : String × Nat × String × String × String × String) ∈ bd_nF) (hfin : (T kf).2.2.2 = false) (hn : narrow (ty0 kf) (.int v) = .int v) (hfit : fits (ty0 kf) (.int v) = true) (hlen : kf < fs.length) (hset : (cells S).set q0 (a, .inr (ci, fs.set kf (.int v))) = cells (bd_pI S kk v)) (hd : decode cc pc = .ok (.putfield index, 3)) (k : ∀ S' : bd_T, bd_si S kk v = some S' → bd_S Γ nL t0 ((f S').bind K) (cells S') (pc + 3) ls rest) : bd_S Γ nL t0 (((bd_si S kk v).bind f).bind K) (cells S) pc ls (.int v :: .ref a :: rest) := by
  obtain ⟨p, l, e, R, s, m, args, below, meth, c, A, Q, D⟩ := Γ
  intro e1 e2 H locs arr hP hD hS hl
  obtain ⟨hx, hb, hml, hown, hts, hr, hlk, hK, hN, hR, hA, hQ⟩ := hC
  refine va_putN (host := host) hx hb hts hin ty0 hty hnm hown hK hP hD hS q0 he hc kf hk (va_Nw.use rfl (hN.2.1 _ hm)) (fun _ h9 => h9) hfin (hty kf hk) hn hfit hlen hd (fun H1 locs1 hP hD hS => ?_)
  rw [hset] at hP hD
  exact k _ rfl e1 e2 H1 locs1 arr hP hD hS hl
theorem bs_alenI (hC : bd_C Γ cc nL own ret R0 ε cells vi t0) {a n : Nat} {f : Nat → Int32} {v : Int32} (q0 : Nat) (ha : ws[q0]? = some (a, .inl (ε.1, n, .inl f))) (hv : Int32.ofNat n = v) (hd : decode cc pc = .ok (.arraylength, 1)) (k : bd_S Γ nL t0 x ws (pc + 1) ls (.int v :: rest)) : bd_S Γ nL t0 x ws pc ls (.ref a :: rest) := by
  obtain ⟨p, l, e, R, s, m, args, below, meth, c, A, Q, D⟩ := Γ
  intro e1 e2 H locs arr hP hD hS hl
  obtain ⟨hx, hb, hml, hown, hts, hr, hlk, hK, hN, hR, hA, hQ⟩ := hC
  exact va_alen (ty := .int) hx hb hK hP q0 0 ha rfl hv hd (k e1 e2 H locs arr hP hD hS hl)
theorem bs_alenJ (hC : bd_C Γ cc nL own ret R0 ε cells vi t0) {a n : Nat} {f : Nat → Int64} {v : Int32} (q0 : Nat) (ha : ws[q0]? = some (a, .inl (ε.2.1, n, .inr (.inl f)))) (hv : Int32.ofNat n = v) (hd : decode cc pc = .ok (.arraylength, 1)) (k : bd_S Γ nL t0 x ws (pc + 1) ls (.int v :: rest)) : bd_S Γ nL t0 x ws pc ls (.ref a :: rest) := by
  obtain ⟨p, l, e, R, s, m, args, below, meth, c, A, Q, D⟩ := Γ
  intro e1 e2 H locs arr hP hD hS hl
  obtain ⟨hx, hb, hml, hown, hts, hr, hlk, hK, hN, hR, hA, hQ⟩ := hC
  exact va_alen (ty := .long) hx hb hK hP q0 1 ha rfl hv hd (k e1 e2 H locs arr hP hD hS hl)
theorem bd_in_of {i : Int32} {n : Nat} (h : bd_in i n = true) : vp_in i n := by
  simpa only [bd_in, decide_eq_true_eq, vp_in] using h
theorem bs_iald (hC : bd_C Γ cc nL own ret R0 ε cells vi t0) {a n kk : Nat} {S : bd_T} {i : Int32} {f : Int32 → Option α} {K : α → Option (ρ × bd_T)} (q0 : Nat) (ha : ws[q0]? = some (a, .inl (ε.1, n, .inl (bd_A S kk)))) (hd : decode cc pc = .ok (.iaload, 1)) (k : ∀ z : Int32, bd_ga S kk n i = some z → bd_S Γ nL t0 ((f z).bind K) ws (pc + 1) ls (.int z :: rest)) : bd_S Γ nL t0 (((bd_ga S kk n i).bind f).bind K) ws pc ls (.int i :: .ref a :: rest) := by
  obtain ⟨p, l, e, R, s, m, args, below, meth, c, A, Q, D⟩ := Γ
  intro e1 e2 H locs arr hP hD hS hl
  by_cases hi : bd_in i n = true
  · have hz : bd_ga S kk n i = some (bd_A S kk i.toNatClampNeg) := if_pos hi
    rw [hz] at e1 e2
    obtain ⟨hx, hb, hml, hown, hts, hr, hlk, hK, hN, hR, hA, hQ⟩ := hC
    exact va_iald hx hb hK hP q0 0 ha rfl (bd_in_of hi) hd (k _ hz e1 e2 H locs arr hP hD hS hl)
  · have hz : bd_ga S kk n i = none := if_neg hi
    rw [hz] at e2; cases e2
theorem bs_zald (hC : bd_C Γ cc nL own ret R0 ε cells vi t0) {a n kk : Nat} {S : bd_T} {i : Int32} {f : Int32 → Option α} {K : α → Option (ρ × bd_T)} (q0 : Nat) (ha : ws[q0]? = some (a, .inl (ε.2.2.1, n, .inl (bd_A S kk)))) (hd : decode cc pc = .ok (.baload, 1)) (k : ∀ z : Int32, bd_ga S kk n i = some z → bd_S Γ nL t0 ((f z).bind K) ws (pc + 1) ls (.int z :: rest)) : bd_S Γ nL t0 (((bd_ga S kk n i).bind f).bind K) ws pc ls (.int i :: .ref a :: rest) := by
  obtain ⟨p, l, e, R, s, m, args, below, meth, c, A, Q, D⟩ := Γ
  intro e1 e2 H locs arr hP hD hS hl
  by_cases hi : bd_in i n = true
  · have hz : bd_ga S kk n i = some (bd_A S kk i.toNatClampNeg) := if_pos hi
    rw [hz] at e1 e2
    obtain ⟨hx, hb, hml, hown, hts, hr, hlk, hK, hN, hR, hA, hQ⟩ := hC
    exact va_zald hx hb hK hP q0 2 ha rfl (bd_in_of hi) hd (k _ hz e1 e2 H locs arr hP hD hS hl)
  · have hz : bd_ga S kk n i = none := if_neg hi
    rw [hz] at e2; cases e2
theorem bs_lald (hC : bd_C Γ cc nL own ret R0 ε cells vi t0) {a n kk : Nat} {S : bd_T} {i : Int32} {f : Int64 → Option α} {K : α → Option (ρ × bd_T)} (q0 : Nat) (ha : ws[q0]? = some (a, .inl (ε.2.1, n, .inr (.inl (bd_J S kk))))) (hd : decode cc pc = .ok (.laload, 1)) (k : ∀ z : Int64, bd_gj S kk n i = some z → bd_S Γ nL t0 ((f z).bind K) ws (pc + 1) ls (.long z :: rest)) : bd_S Γ nL t0 (((bd_gj S kk n i).bind f).bind K) ws pc ls (.int i :: .ref a :: rest) := by
  obtain ⟨p, l, e, R, s, m, args, below, meth, c, A, Q, D⟩ := Γ
  intro e1 e2 H locs arr hP hD hS hl
  by_cases hi : bd_in i n = true
  · have hz : bd_gj S kk n i = some (bd_J S kk i.toNatClampNeg) := if_pos hi
    rw [hz] at e1 e2
    obtain ⟨hx, hb, hml, hown, hts, hr, hlk, hK, hN, hR, hA, hQ⟩ := hC
    exact va_lald hx hb hK hP q0 1 ha rfl (bd_in_of hi) hd (k _ hz e1 e2 H locs arr hP hD hS hl)
  · have hz : bd_gj S kk n i = none := if_neg hi
    rw [hz] at e2; cases e2
theorem bs_iast (hC : bd_C Γ cc nL own ret R0 ε cells vi t0) {a n kk : Nat} {S : bd_T} {i v : Int32} {f : bd_T → Option α} {K : α → Option (ρ × bd_T)} (q0 : Nat) (ha : (cells S)[q0]? = some (a, .inl (ε.1, n, .inl (bd_A S kk)))) (hset : ∀ j : Nat, (cells S).set q0 (a, .inl (ε.1, n, .inl (upd (bd_A S kk) j v))) = cells (bd_pA S kk j v)) (hd : decode cc pc = .ok (.iastore, 1)) (k : ∀ S' : bd_T, bd_sa S kk n i v = some S' → bd_S Γ nL t0 ((f S').bind K) (cells S') (pc + 1) ls rest) : bd_S Γ nL t0 (((bd_sa S kk n i v).bind f).bind K) (cells S) pc ls (.int v :: .int i :: .ref a :: rest) := by
  obtain ⟨p, l, e, R, s, m, args, below, meth, c, A, Q, D⟩ := Γ
  intro e1 e2 H locs arr hP hD hS hl
  by_cases hi : bd_in i n = true
  · have hz : bd_sa S kk n i v = some (bd_pA S kk i.toNatClampNeg v) := if_pos hi
    rw [hz] at e1 e2
    obtain ⟨hx, hb, hml, hown, hts, hr, hlk, hK, hN, hR, hA, hQ⟩ := hC
    refine va_iast hx hb hK hP hD hS q0 0 ha rfl (bd_in_of hi) hd (fun H1 locs1 hP hD hS => ?_)
    rw [hset] at hP hD
    exact k _ hz e1 e2 H1 locs1 arr hP hD hS hl
  · have hz : bd_sa S kk n i v = none := if_neg hi
    rw [hz] at e2; cases e2
theorem bs_zast (hC : bd_C Γ cc nL own ret R0 ε cells vi t0) {a n kk : Nat} {S : bd_T} {i v : Int32} {f : bd_T → Option α} {K : α → Option (ρ × bd_T)} (q0 : Nat) (ha : (cells S)[q0]? = some (a, .inl (ε.2.2.1, n, .inl (bd_A S kk)))) (hset : ∀ (j : Nat) (v : Int32), (cells S).set q0 (a, .inl (ε.2.2.1, n, .inl (upd (bd_A S kk) j v))) = cells (bd_pA S kk j v)) (hd : decode cc pc = .ok (.bastore, 1)) (k : ∀ S' : bd_T, bd_sa S kk n i (vp_nar .boolean v) = some S' → bd_S Γ nL t0 ((f S').bind K) (cells S') (pc + 1) ls rest) : bd_S Γ nL t0 (((bd_sa S kk n i (vp_nar .boolean v)).bind f).bind K) (cells S) pc ls (.int v :: .int i :: .ref a :: rest) := by
  obtain ⟨p, l, e, R, s, m, args, below, meth, c, A, Q, D⟩ := Γ
  intro e1 e2 H locs arr hP hD hS hl
  by_cases hi : bd_in i n = true
  · have hz : bd_sa S kk n i (vp_nar .boolean v) = some (bd_pA S kk i.toNatClampNeg (vp_nar .boolean v)) := if_pos hi
    rw [hz] at e1 e2
    obtain ⟨hx, hb, hml, hown, hts, hr, hlk, hK, hN, hR, hA, hQ⟩ := hC
    refine va_zast hx hb hK hP hD hS q0 2 ha rfl (bd_in_of hi) hd (fun H1 locs1 hP hD hS => ?_)
    rw [hset] at hP hD
    exact k _ hz e1 e2 H1 locs1 arr hP hD hS hl
  · have hz : bd_sa S kk n i (vp_nar .boolean v) = none := if_neg hi
    rw [hz] at e2; cases e2
theorem bs_last (hC : bd_C Γ cc nL own ret R0 ε cells vi t0) {a n kk : Nat} {S : bd_T} {i : Int32} {v : Int64} {f : bd_T → Option α} {K : α → Option (ρ × bd_T)} (q0 : Nat) (ha : (cells S)[q0]? = some (a, .inl (ε.2.1, n, .inr (.inl (bd_J S kk))))) (hset : ∀ j : Nat, (cells S).set q0 (a, .inl (ε.2.1, n, .inr (.inl (vp_updL (bd_J S kk) j v)))) = cells (bd_pJ S kk j v)) (hd : decode cc pc = .ok (.lastore, 1)) (k : ∀ S' : bd_T, bd_sj S kk n i v = some S' → bd_S Γ nL t0 ((f S').bind K) (cells S') (pc + 1) ls rest) : bd_S Γ nL t0 (((bd_sj S kk n i v).bind f).bind K) (cells S) pc ls (.long v :: .int i :: .ref a :: rest) := by
  obtain ⟨p, l, e, R, s, m, args, below, meth, c, A, Q, D⟩ := Γ
  intro e1 e2 H locs arr hP hD hS hl
  by_cases hi : bd_in i n = true
  · have hz : bd_sj S kk n i v = some (bd_pJ S kk i.toNatClampNeg v) := if_pos hi
    rw [hz] at e1 e2
    obtain ⟨hx, hb, hml, hown, hts, hr, hlk, hK, hN, hR, hA, hQ⟩ := hC
    refine va_last hx hb hK hP hD hS q0 1 ha rfl (bd_in_of hi) hd (fun H1 locs1 hP hD hS => ?_)
    rw [hset] at hP hD
    exact k _ hz e1 e2 H1 locs1 arr hP hD hS hl
  · have hz : bd_sj S kk n i v = none := if_neg hi
    rw [hz] at e2; cases e2
theorem bs_ldiv (hC : bd_C Γ cc nL own ret R0 ε cells vi t0) {a b : Int64} {f : Int64 → Option α} {K : α → Option (ρ × bd_T)} (hd : decode cc pc = .ok (.ldiv, 1)) (k : ∀ z : Int64, bd_ldiv a b = some z → bd_S Γ nL t0 ((f z).bind K) ws (pc + 1) ls (.long z :: rest)) : bd_S Γ nL t0 (((bd_ldiv a b).bind f).bind K) ws pc ls (.long b :: .long a :: rest) := by
  obtain ⟨p, l, e, R, s, m, args, below, meth, c, A, Q, D⟩ := Γ
  intro e1 e2 H locs arr hP hD hS hl
  by_cases hi : b = 0
  · have hz : bd_ldiv a b = none := if_pos hi
    rw [hz] at e2; cases e2
  · have hz : bd_ldiv a b = some (a / b) := if_neg hi
    rw [hz] at e1 e2
    exact lv_ldiv hC.1 hC.2.1 hd hi (k _ hz e1 e2 H locs arr hP hD hS hl)
theorem bs_lrem (hC : bd_C Γ cc nL own ret R0 ε cells vi t0) {a b : Int64} {f : Int64 → Option α} {K : α → Option (ρ × bd_T)} (hd : decode cc pc = .ok (.lrem, 1)) (k : ∀ z : Int64, bd_lrem a b = some z → bd_S Γ nL t0 ((f z).bind K) ws (pc + 1) ls (.long z :: rest)) : bd_S Γ nL t0 (((bd_lrem a b).bind f).bind K) ws pc ls (.long b :: .long a :: rest) := by
  obtain ⟨p, l, e, R, s, m, args, below, meth, c, A, Q, D⟩ := Γ
  intro e1 e2 H locs arr hP hD hS hl
  by_cases hi : b = 0
  · have hz : bd_lrem a b = none := if_pos hi
    rw [hz] at e2; cases e2
  · have hz : bd_lrem a b = some (a - a / b * b) := if_neg hi
    rw [hz] at e1 e2
    exact lv_lrem hC.1 hC.2.1 hd hi (k _ hz e1 e2 H locs arr hP hD hS hl)
theorem bs_leti {a : Int32} {f : Int32 → Option α} {K : α → Option (ρ × bd_T)} (k : ∀ z : Int32, z = a → bd_S Γ nL t0 ((f z).bind K) ws pc ls (.int z :: rest)) : bd_S Γ nL t0 ((bd_b1 a f).bind K) ws pc ls (.int a :: rest) := k a rfl
theorem bs_letl {a : Int64} {f : Int64 → Option α} {K : α → Option (ρ × bd_T)} (k : ∀ z : Int64, z = a → bd_S Γ nL t0 ((f z).bind K) ws pc ls (.long z :: rest)) : bd_S Γ nL t0 ((bd_b1 a f).bind K) ws pc ls (.long a :: rest) := k a rfl
/-! returns -/
theorem bs_iret {t0 x : Option (Int32 × bd_T)} {S : bd_T} {v : Int32} (hC : bd_C Γ cc nL own (some .int) R0 ε cells bd_vi t0) (hd : decode cc pc = .ok (.ireturn, 1)) (hx : x = some (v, S)) : bd_S Γ nL t0 x (cells S) pc ls [.int v] := by
  obtain ⟨p, l, e, R, s, m, args, below, meth, c, A, Q, D⟩ := Γ
  intro e1 e2 H locs arr hP hD hS hl
  subst hx
  obtain ⟨hx, hb, hml, hown, hts, hr, hlk, hK, hN, hR, hA, hQ⟩ := hC
  subst hQ
  exact W.iret (v := v) hx hb hr (fun t ht hW => ⟨⟨v, S, rfl, e1.symm, by rw [ht]; exact hP, va_K.moved hW.alike hK, hD⟩, hS.F ht⟩) hS.2.2 hd hlk
theorem bs_zret {t0 x : Option (Int32 × bd_T)} {S : bd_T} {v : Int32} (hC : bd_C Γ cc nL own (some .boolean) R0 ε cells bd_vi t0) (hd : decode cc pc = .ok (.ireturn, 1)) (hn : narrow .boolean (.int v) = .int v) (hx : x = some (v, S)) : bd_S Γ nL t0 x (cells S) pc ls [.int v] := by
  obtain ⟨p, l, e, R, s, m, args, below, meth, c, A, Q, D⟩ := Γ
  intro e1 e2 H locs arr hP hD hS hl
  subst hx
  obtain ⟨hx, hb, hml, hown, hts, hr, hlk, hK, hN, hR, hA, hQ⟩ := hC
  subst hQ
  exact W.zret (v := v) hx hb hr hn (fun t ht hW => ⟨⟨v, S, rfl, e1.symm, by rw [ht]; exact hP, va_K.moved hW.alike hK, hD⟩, hS.F ht⟩) hS.2.2 hd hlk
theorem bs_lret {t0 x : Option (Int64 × bd_T)} {S : bd_T} {v : Int64} (hC : bd_C Γ cc nL own (some .long) R0 ε cells bd_vl t0) (hd : decode cc pc = .ok (.lreturn, 1)) (hx : x = some (v, S)) : bd_S Γ nL t0 x (cells S) pc ls [.long v] := by
  obtain ⟨p, l, e, R, s, m, args, below, meth, c, A, Q, D⟩ := Γ
  intro e1 e2 H locs arr hP hD hS hl
  subst hx
  obtain ⟨hx, hb, hml, hown, hts, hr, hlk, hK, hN, hR, hA, hQ⟩ := hC
  subst hQ
  exact W.lret (v := v) hx hb hr (fun t ht hW => ⟨⟨v, S, rfl, e1.symm, by rw [ht]; exact hP, va_K.moved hW.alike hK, hD⟩, hS.F ht⟩) hS.2.2 hd hlk
theorem bs_vret {t0 x : Option (Unit × bd_T)} {S : bd_T} (hC : bd_C Γ cc nL own none R0 ε cells bd_vv t0) (hd : decode cc pc = .ok (.return_, 1)) (hx : x = some ((), S)) : bd_S Γ nL t0 x (cells S) pc ls [] := by
  obtain ⟨p, l, e, R, s, m, args, below, meth, c, A, Q, D⟩ := Γ
  intro e1 e2 H locs arr hP hD hS hl
  subst hx
  obtain ⟨hx, hb, hml, hown, hts, hr, hlk, hK, hN, hR, hA, hQ⟩ := hC
  subst hQ
  exact W.vret hx hb hr (fun t ht hW => ⟨⟨(), S, rfl, e1.symm, by rw [ht]; exact hP, va_K.moved hW.alike hK, hD⟩, hS.F ht⟩) hS.2.2 hd hlk
/-! calls -/
theorem bd_go {ρ' : Type} {p : Program} {l : Launch} {e : Env} {R : Room} {s : State} {m : MethodId} {args : Array Value} {below : List Frame} {meth : Method} {c : Code} {A : Nat → Prop} {Q : State → Prop} {D : va_G} {H : Heap} {locs : List Loc} {arr : Array Slot} {st0 : List Value} {a : Array Value} {S : bd_T} {vj : ρ' → Option Value} {t1 : Option (ρ' × bd_T)}
    (hr : va_Run p l e R s m args below meth c H locs 0 0 0 0 (F0 m pc arr st0) rest (bd_Q D ε cells vj t1 (va_A (cells S) H.size) a) (va_A (cells S) H.size)) (hD : va_D A (cells S)) (hS : va_S A s.heap H locs) (hA : ∀ q : Nat, s.heap.size ≤ q → A q)
    (kk : ∀ (r : ρ') (S' : bd_T) (H1 : Heap) (locs1 : List Loc), t1 = some (r, S') → va_P D vwCl (cells S') H1 → va_D A (cells S') → va_S A s.heap H1 locs1 → W p l e R s m args below meth c H1 locs1 0 0 Q (F0 m (pc + 3) arr ((vj r).toList ++ rest))) : W p l e R s m args below meth c H locs 0 0 Q (F0 m pc arr st0) := by
  have hF : ∀ q, va_A (cells S) H.size q → A q := fun q h => by
    rcases h with ⟨k, e, h⟩ | h
    · exact hD.2 k _ h
    · exact hA q (Nat.le_trans hS.1 h)
  intro T hT X
  obtain ⟨v, st₀, t, T', L, h0, X', hL, e1, e2, ⟨⟨r, S', hv, hp, hP1, hK1, hD1⟩, hz, hk⟩, st⟩ := hr T hT X
  cases hv
  rw [h0] at hz hk
  obtain ⟨t2, a1, b1⟩ := kk r S' T'.heap (locs ++ L) hp (by rw [e1]; exact hP1) (hD1.weaken (fun _ _ _ h => hF _ h))
    ⟨Nat.le_trans hS.1 (by rw [e1]; exact hz), fun q h1 h2 => by rw [e1, hk q (Nat.lt_of_lt_of_le h1 hS.1) (fun z => h2 (hF q z))]; exact hS.2.1 q h1 h2, fun q hq => by
      rcases List.mem_append.mp hq with h | h
      · exact hS.2.2 q h
      · exact hF _ (hL q h)⟩ T' rfl X'
  exact ⟨t2, st t2 a1, b1⟩
theorem bd_p0 {s U : State} {D : va_G} {ε : bd_E} {A : Nat → Prop} {ws : va_W} {H : Heap} (hP : va_P D vwCl ws H) (hK : va_K D vwCl (bd_y ε) s) (hN : bd_N s) (hD : va_D A ws) (hU : U.heap = H) (hW : s.WarmedH U.vm) : bd_P0 D ε ws H.size U := ⟨by rw [hU], by rw [hU]; exact hP, va_K.moved hW.alike hK, bd_N_warm hW hN, hD.weaken (fun _ _ _ _ => trivial)⟩
/-- what a call asks of callee and room -/
def bd_R (R0 rm : Room) (maxL : Nat) : Prop := rm.cells = 0 ∧ rm.slots = 0 ∧ rm.frames + 1 ≤ R0.frames ∧ 8 + (maxL + 11) + rm.locals ≤ R0.locals
def bd_Y (y : MethodName) (n : Nat) : Prop := y.cls ≠ "java/lang/invoke/MethodHandle" ∧ y.cls ≠ "java/lang/invoke/VarHandle" ∧ (parseMethodDescriptor y.desc).map (fun d => d.parameters.length) = some n
theorem bs_callS {ρ' : Type} (hC : bd_C Γ cc nL own ret R0 ε cells vi t0) {S : bd_T} {y : MethodName} {bytes : ByteArray} {maxL index n : Nat} {ret' : Option FieldType} {rm : Room} {vj : ρ' → Option Value} {t1 : Option (ρ' × bd_T)} {f : ρ' → bd_T → Option α} {K : α → Option (ρ × bd_T)} {st : List Value} (As : List Value) (rest : List Value)
    (hM : t1.isSome = true → bd_Con (bd_l Γ) y (Cond.code y bytes maxL ret' :: bd_tbl) rm (bd_D Γ) ε cells vj As S t1) (m1 : Cond.code y bytes maxL ret' ∈ bd_tbl) (m2 : Cond.methodLink own index y ∈ bd_tbl) (m3 : Cond.static y ∈ bd_tbl) (m4 : Cond.initialized y.cls ∈ bd_tbl) (hY : bd_Y y n) (hR : bd_R R0 rm maxL) (hn : As.length = n) (hst : st = As.reverse ++ rest) (hW : (rest.map fun v => v.category).sum ≤ 8) (hd : decode cc pc = .ok (.invokestatic index, 3))
    (k : ∀ (r : ρ') (S' : bd_T), t1 = some (r, S') → bd_S Γ nL t0 ((f r S').bind K) (cells S') (pc + 3) ls ((vj r).toList ++ rest)) : bd_S Γ nL t0 ((bd_b2 t1 f).bind K) (cells S) pc ls st := by
  obtain ⟨p, l, e, R, s, m, args, below, meth, c, A, Q, D⟩ := Γ
  intro e1 e2 H locs arr hP hD hS hl
  have h1 : t1.isSome = true := by cases h : t1 with
    | none => rw [h] at e2; cases e2
    | some z => rfl
  obtain ⟨hx, hb, hml, hown, hts, hr, hlk, hK, hN, hR', hA, hQ⟩ := hC
  subst hR'
  refine bd_go (a := As.toArray) (va_runS (As := As) (rest := rest) ⟨hx, hb, hml, hown, hts⟩ (hM h1 H.size) ⟨callB_of n hts (bd_good m1) rfl hR.1 hR.2.1 (hts _ m4) (hts _ m2) hY hR.2.2, hts _ m3⟩ ⟨bd_blind D ε _ _ _, fun U hU hW => ⟨rfl, bd_p0 hP hK hN hD hU hW⟩⟩ rfl hn hl.1 hst (lv_room hW) hd ⟨Nat.zero_le _, Nat.zero_le _⟩) hD hS hA (fun r S' H1 locs1 h2 hP hD hS => ?_)
  rw [h2] at e1 e2
  exact k r S' h2 e1 e2 H1 locs1 arr hP hD hS hl
theorem bs_callSN {ρ' : Type} (hC : bd_C Γ cc nL own ret R0 ε cells vi t0) {S : bd_T} {y : MethodName} {host : String} {bytes : ByteArray} {maxL index n : Nat} {ret' : Option FieldType} {rm : Room} {vj : ρ' → Option Value} {t1 : Option (ρ' × bd_T)} {f : ρ' → bd_T → Option α} {K : α → Option (ρ × bd_T)} {st : List Value} (As : List Value) (rest : List Value)
    (hM : t1.isSome = true → bd_Con (bd_l Γ) y (Cond.code y bytes maxL ret' :: bd_tbl) rm (bd_D Γ) ε cells vj As S t1) (m1 : Cond.code y bytes maxL ret' ∈ bd_tbl) (m2 : ((own, index, y, host) : String × Nat × MethodName × String) ∈ bd_nM) (m3 : Cond.static y ∈ bd_tbl) (m4 : Cond.initialized y.cls ∈ bd_tbl) (hY : bd_Y y n) (hR : bd_R R0 rm maxL) (hn : As.length = n) (hst : st = As.reverse ++ rest) (hW : (rest.map fun v => v.category).sum ≤ 8) (hd : decode cc pc = .ok (.invokestatic index, 3))
    (k : ∀ (r : ρ') (S' : bd_T), t1 = some (r, S') → bd_S Γ nL t0 ((f r S').bind K) (cells S') (pc + 3) ls ((vj r).toList ++ rest)) : bd_S Γ nL t0 ((bd_b2 t1 f).bind K) (cells S) pc ls st := by
  obtain ⟨p, l, e, R, s, m, args, below, meth, c, A, Q, D⟩ := Γ
  intro e1 e2 H locs arr hP hD hS hl
  have h1 : t1.isSome = true := by cases h : t1 with
    | none => rw [h] at e2; cases e2
    | some z => rfl
  obtain ⟨hx, hb, hml, hown, hts, hr, hlk, hK, hN, hR', hA, hQ⟩ := hC
  subst hR'
  refine bd_go (a := As.toArray) (va_runSN (host := host) (As := As) (rest := rest) ⟨hx, hb, hml, hown, hts⟩ (hM h1 H.size) ⟨va_cnB n hts (bd_good m1) rfl hR.1 hR.2.1 (hN.2.2 _ m2) (hts _ m4) hY hR.2.2, hts _ m3, trivial⟩ ⟨bd_blind D ε _ _ _, fun U hU hW => ⟨rfl, bd_p0 hP hK hN hD hU hW⟩⟩ rfl hn hl.1 hst (lv_room hW) hd ⟨Nat.zero_le _, Nat.zero_le _⟩) hD hS hA (fun r S' H1 locs1 h2 hP hD hS => ?_)
  rw [h2] at e1 e2
  exact k r S' h2 e1 e2 H1 locs1 arr hP hD hS hl
theorem bs_callV {ρ' : Type} (hC : bd_C Γ cc nL own ret R0 ε cells vi t0) {S : bd_T} {y : MethodName} {bytes : ByteArray} {maxL index n b q0 ci : Nat} {C : vw_C} {fs : List Value} {ret' : Option FieldType} {rm : Room} {vj : ρ' → Option Value} {t1 : Option (ρ' × bd_T)} {f : ρ' → bd_T → Option α} {K : α → Option (ρ × bd_T)} {st : List Value} (As : List Value) (rest : List Value)
    (hM : t1.isSome = true → bd_Con (bd_l Γ) y (Cond.code y bytes maxL ret' :: bd_tbl) rm (bd_D Γ) ε cells vj (.ref b :: As) S t1) (m1 : Cond.code y bytes maxL ret' ∈ bd_tbl) (m2 : Cond.methodLink own index y ∈ bd_tbl) (m3 : Cond.instanceMethod y ∈ bd_tbl) (m4 : Cond.initialized y.cls ∈ bd_tbl) (m5 : Cond.selects C.1 y y ∈ bd_tbl) (he : (cells S)[q0]? = some (b, .inr (ci, fs))) (hc : vwCl[ci]? = some C) (hY : bd_Y y n) (hR : bd_R R0 rm maxL) (hn : As.length = n) (hst : st = As.reverse ++ .ref b :: rest) (hW : (rest.map fun v => v.category).sum ≤ 8) (hd : decode cc pc = .ok (.invokevirtual index, 3))
    (k : ∀ (r : ρ') (S' : bd_T), t1 = some (r, S') → bd_S Γ nL t0 ((f r S').bind K) (cells S') (pc + 3) ls ((vj r).toList ++ rest)) : bd_S Γ nL t0 ((bd_b2 t1 f).bind K) (cells S) pc ls st := by
  obtain ⟨p, l, e, R, s, m, args, below, meth, c, A, Q, D⟩ := Γ
  intro e1 e2 H locs arr hP hD hS hl
  have h1 : t1.isSome = true := by cases h : t1 with
    | none => rw [h] at e2; cases e2
    | some z => rfl
  obtain ⟨hx, hb, hml, hown, hts, hr, hlk, hK, hN, hR', hA, hQ⟩ := hC
  subst hR'
  refine bd_go (a := (Value.ref b :: As).toArray) (va_runV (C := C.1) (As := As) (rest := rest) ⟨hx, hb, hml, hown, hts⟩ (hM h1 H.size) ⟨callB_of n hts (bd_good m1) rfl hR.1 hR.2.1 (hts _ m4) (hts _ m2) hY hR.2.2, hts _ m3, hts _ m5⟩ ⟨bd_blind D ε _ _ _, va_recv hK hP hc he, fun U hU hW => ⟨rfl, bd_p0 hP hK hN hD hU hW⟩⟩ rfl hn hl.1 hst (lv_room hW) hd ⟨Nat.zero_le _, Nat.zero_le _⟩) hD hS hA (fun r S' H1 locs1 h2 hP hD hS => ?_)
  rw [h2] at e1 e2
  exact k r S' h2 e1 e2 H1 locs1 arr hP hD hS hl
theorem bs_callVN {ρ' : Type} (hC : bd_C Γ cc nL own ret R0 ε cells vi t0) {S : bd_T} {y : MethodName} {host : String} {bytes : ByteArray} {maxL index n b q0 ci : Nat} {C : vw_C} {fs : List Value} {ret' : Option FieldType} {rm : Room} {vj : ρ' → Option Value} {t1 : Option (ρ' × bd_T)} {f : ρ' → bd_T → Option α} {K : α → Option (ρ × bd_T)} {st : List Value} (As : List Value) (rest : List Value)
    (hM : t1.isSome = true → bd_Con (bd_l Γ) y (Cond.code y bytes maxL ret' :: bd_tbl) rm (bd_D Γ) ε cells vj (.ref b :: As) S t1) (m1 : Cond.code y bytes maxL ret' ∈ bd_tbl) (m2 : ((own, index, y, host) : String × Nat × MethodName × String) ∈ bd_nM) (m3 : Cond.instanceMethod y ∈ bd_tbl) (m4 : Cond.initialized y.cls ∈ bd_tbl) (m5 : Cond.selects C.1 y y ∈ bd_tbl) (he : (cells S)[q0]? = some (b, .inr (ci, fs))) (hc : vwCl[ci]? = some C) (hY : bd_Y y n) (hR : bd_R R0 rm maxL) (hn : As.length = n) (hst : st = As.reverse ++ .ref b :: rest) (hW : (rest.map fun v => v.category).sum ≤ 8) (hd : decode cc pc = .ok (.invokevirtual index, 3))
    (k : ∀ (r : ρ') (S' : bd_T), t1 = some (r, S') → bd_S Γ nL t0 ((f r S').bind K) (cells S') (pc + 3) ls ((vj r).toList ++ rest)) : bd_S Γ nL t0 ((bd_b2 t1 f).bind K) (cells S) pc ls st := by
  obtain ⟨p, l, e, R, s, m, args, below, meth, c, A, Q, D⟩ := Γ
  intro e1 e2 H locs arr hP hD hS hl
  have h1 : t1.isSome = true := by cases h : t1 with
    | none => rw [h] at e2; cases e2
    | some z => rfl
  obtain ⟨hx, hb, hml, hown, hts, hr, hlk, hK, hN, hR', hA, hQ⟩ := hC
  subst hR'
  refine bd_go (a := (Value.ref b :: As).toArray) (va_runVN (C := C.1) (host := host) (As := As) (rest := rest) ⟨hx, hb, hml, hown, hts⟩ (hM h1 H.size) ⟨va_cnB n hts (bd_good m1) rfl hR.1 hR.2.1 (hN.2.2 _ m2) (hts _ m4) hY hR.2.2, hts _ m3, hts _ m5⟩ ⟨bd_blind D ε _ _ _, va_recv hK hP hc he, fun U hU hW => ⟨rfl, bd_p0 hP hK hN hD hU hW⟩⟩ rfl hn hl.1 hst (lv_room hW) hd ⟨Nat.zero_le _, Nat.zero_le _⟩) hD hS hA (fun r S' H1 locs1 h2 hP hD hS => ?_)
  rw [h2] at e1 e2
  exact k r S' h2 e1 e2 H1 locs1 arr hP hD hS hl
/-- a method of a superclass, found from the class of the receiver: the reference x names it in its owner -/
theorem bs_callU {ρ' : Type} (hC : bd_C Γ cc nL own ret R0 ε cells vi t0) {S : bd_T} {x' y : MethodName} {owner : String} {bytes : ByteArray} {maxL index n b q0 ci : Nat} {C : vw_C} {fs : List Value} {ret' : Option FieldType} {rm : Room} {vj : ρ' → Option Value} {t1 : Option (ρ' × bd_T)} {f : ρ' → bd_T → Option α} {K : α → Option (ρ × bd_T)} {st : List Value} (As : List Value) (rest : List Value)
    (hM : t1.isSome = true → bd_Con (bd_l Γ) y (Cond.code y bytes maxL ret' :: bd_tbl) rm (bd_D Γ) ε cells vj (.ref b :: As) S t1) (m1 : Cond.code y bytes maxL ret' ∈ bd_tbl) (m2 : Cond.methodLink own index x' ∈ bd_tbl) (m3 : Cond.instanceMethod y ∈ bd_tbl) (m4 : Cond.initialized y.cls ∈ bd_tbl) (m5 : Cond.selects C.1 x' y ∈ bd_tbl) (m6 : Cond.sameMethod x'.cls owner x'.name x'.desc ∈ bd_tbl) (m7 : (⟨owner, x'.name, x'.desc⟩ : MethodName) ∈ bd_nD ∨ y = ⟨owner, x'.name, x'.desc⟩) (ho : owner ≠ "java/lang/invoke/MethodHandle" ∧ owner ≠ "java/lang/invoke/VarHandle" ∧ (parseMethodDescriptor x'.desc).map (fun d => d.parameters.length) = some n) (he : (cells S)[q0]? = some (b, .inr (ci, fs))) (hc : vwCl[ci]? = some C) (hR : bd_R R0 rm maxL) (hn : As.length = n) (hst : st = As.reverse ++ .ref b :: rest) (hW : (rest.map fun v => v.category).sum ≤ 8) (hd : decode cc pc = .ok (.invokevirtual index, 3))
    (k : ∀ (r : ρ') (S' : bd_T), t1 = some (r, S') → bd_S Γ nL t0 ((f r S').bind K) (cells S') (pc + 3) ls ((vj r).toList ++ rest)) : bd_S Γ nL t0 ((bd_b2 t1 f).bind K) (cells S) pc ls st := by
  obtain ⟨p, l, e, R, s, m, args, below, meth, c, A, Q, D⟩ := Γ
  intro e1 e2 H locs arr hP hD hS hl
  have h1 : t1.isSome = true := by cases h : t1 with
    | none => rw [h] at e2; cases e2
    | some z => rfl
  obtain ⟨hx, hb, hml, hown, hts, hr, hlk, hK, hN, hR', hA, hQ⟩ := hC
  subst hR'
  have hdecl : va_Decl s ⟨owner, x'.name, x'.desc⟩ := by
    rcases m7 with h | h
    · exact va_Decl.abs (hN.1 _ h)
    · rw [← h]; exact va_Decl.of (hts _ m3) (hts _ m1)
  refine bd_go (a := (Value.ref b :: As).toArray) (va_runU (C := C.1) (owner := owner) (x := x') (As := As) (rest := rest) ⟨hx, hb, hml, hown, hts⟩ (hM h1 H.size) ⟨⟨hR.1, hR.2.1, hR.2.2.1, hR.2.2.2, pay_in hts (bd_good m1), List.mem_cons_self⟩, hts _ m1, hts _ m4, ⟨ho.1, ho.2.1⟩, fun sig h => by have h2 := ho.2.2; rw [h] at h2; exact (Option.some.inj h2).symm, hts _ m2, hts _ m6, hdecl, hts _ m5, hts _ m3⟩ ⟨bd_blind D ε _ _ _, va_recv hK hP hc he, fun U hU hW => ⟨rfl, bd_p0 hP hK hN hD hU hW⟩⟩ rfl hn hl.1 hst (lv_room hW) hd ⟨Nat.zero_le _, Nat.zero_le _⟩) hD hS hA (fun r S' H1 locs1 h2 hP hD hS => ?_)
  rw [h2] at e1 e2
  exact k r S' h2 e1 e2 H1 locs1 arr hP hD hS hl
theorem bs_callS_i (hC : bd_C Γ cc nL own ret R0 ε cells vi t0) {S : bd_T} {y : MethodName} {bytes : ByteArray} {maxL index n : Nat} {ret' : Option FieldType} {rm : Room} {t1 : Option (Int32 × bd_T)} {f : Int32 → bd_T → Option α} {K : α → Option (ρ × bd_T)} {st : List Value} (As : List Value) (rest : List Value)
    (hM : t1.isSome = true → bd_Con (bd_l Γ) y (Cond.code y bytes maxL ret' :: bd_tbl) rm (bd_D Γ) ε cells bd_vi As S t1) (m1 : Cond.code y bytes maxL ret' ∈ bd_tbl) (m2 : Cond.methodLink own index y ∈ bd_tbl) (m3 : Cond.static y ∈ bd_tbl) (m4 : Cond.initialized y.cls ∈ bd_tbl) (hY : bd_Y y n) (hR : bd_R R0 rm maxL) (hn : As.length = n) (hst : st = As.reverse ++ rest) (hW : (rest.map fun v => v.category).sum ≤ 8) (hd : decode cc pc = .ok (.invokestatic index, 3))
    (k : ∀ (r : Int32) (S' : bd_T), t1 = some (r, S') → bd_S Γ nL t0 ((f r S').bind K) (cells S') (pc + 3) ls (.int r :: rest)) : bd_S Γ nL t0 ((bd_b2 t1 f).bind K) (cells S) pc ls st := bs_callS (vj := bd_vi) hC As rest hM m1 m2 m3 m4 hY hR hn hst hW hd k
theorem bs_callS_l (hC : bd_C Γ cc nL own ret R0 ε cells vi t0) {S : bd_T} {y : MethodName} {bytes : ByteArray} {maxL index n : Nat} {ret' : Option FieldType} {rm : Room} {t1 : Option (Int64 × bd_T)} {f : Int64 → bd_T → Option α} {K : α → Option (ρ × bd_T)} {st : List Value} (As : List Value) (rest : List Value)
    (hM : t1.isSome = true → bd_Con (bd_l Γ) y (Cond.code y bytes maxL ret' :: bd_tbl) rm (bd_D Γ) ε cells bd_vl As S t1) (m1 : Cond.code y bytes maxL ret' ∈ bd_tbl) (m2 : Cond.methodLink own index y ∈ bd_tbl) (m3 : Cond.static y ∈ bd_tbl) (m4 : Cond.initialized y.cls ∈ bd_tbl) (hY : bd_Y y n) (hR : bd_R R0 rm maxL) (hn : As.length = n) (hst : st = As.reverse ++ rest) (hW : (rest.map fun v => v.category).sum ≤ 8) (hd : decode cc pc = .ok (.invokestatic index, 3))
    (k : ∀ (r : Int64) (S' : bd_T), t1 = some (r, S') → bd_S Γ nL t0 ((f r S').bind K) (cells S') (pc + 3) ls (.long r :: rest)) : bd_S Γ nL t0 ((bd_b2 t1 f).bind K) (cells S) pc ls st := bs_callS (vj := bd_vl) hC As rest hM m1 m2 m3 m4 hY hR hn hst hW hd k
theorem bs_callS_v (hC : bd_C Γ cc nL own ret R0 ε cells vi t0) {S : bd_T} {y : MethodName} {bytes : ByteArray} {maxL index n : Nat} {ret' : Option FieldType} {rm : Room} {t1 : Option (Unit × bd_T)} {f : Unit → bd_T → Option α} {K : α → Option (ρ × bd_T)} {st : List Value} (As : List Value) (rest : List Value)
    (hM : t1.isSome = true → bd_Con (bd_l Γ) y (Cond.code y bytes maxL ret' :: bd_tbl) rm (bd_D Γ) ε cells bd_vv As S t1) (m1 : Cond.code y bytes maxL ret' ∈ bd_tbl) (m2 : Cond.methodLink own index y ∈ bd_tbl) (m3 : Cond.static y ∈ bd_tbl) (m4 : Cond.initialized y.cls ∈ bd_tbl) (hY : bd_Y y n) (hR : bd_R R0 rm maxL) (hn : As.length = n) (hst : st = As.reverse ++ rest) (hW : (rest.map fun v => v.category).sum ≤ 8) (hd : decode cc pc = .ok (.invokestatic index, 3))
    (k : ∀ (r : Unit) (S' : bd_T), t1 = some (r, S') → bd_S Γ nL t0 ((f r S').bind K) (cells S') (pc + 3) ls (rest)) : bd_S Γ nL t0 ((bd_b2 t1 f).bind K) (cells S) pc ls st := bs_callS (vj := bd_vv) hC As rest hM m1 m2 m3 m4 hY hR hn hst hW hd k
theorem bs_callSN_i (hC : bd_C Γ cc nL own ret R0 ε cells vi t0) {S : bd_T} {y : MethodName} {host : String} {bytes : ByteArray} {maxL index n : Nat} {ret' : Option FieldType} {rm : Room} {t1 : Option (Int32 × bd_T)} {f : Int32 → bd_T → Option α} {K : α → Option (ρ × bd_T)} {st : List Value} (As : List Value) (rest : List Value)
    (hM : t1.isSome = true → bd_Con (bd_l Γ) y (Cond.code y bytes maxL ret' :: bd_tbl) rm (bd_D Γ) ε cells bd_vi As S t1) (m1 : Cond.code y bytes maxL ret' ∈ bd_tbl) (m2 : ((own, index, y, host) : String × Nat × MethodName × String) ∈ bd_nM) (m3 : Cond.static y ∈ bd_tbl) (m4 : Cond.initialized y.cls ∈ bd_tbl) (hY : bd_Y y n) (hR : bd_R R0 rm maxL) (hn : As.length = n) (hst : st = As.reverse ++ rest) (hW : (rest.map fun v => v.category).sum ≤ 8) (hd : decode cc pc = .ok (.invokestatic index, 3))
    (k : ∀ (r : Int32) (S' : bd_T), t1 = some (r, S') → bd_S Γ nL t0 ((f r S').bind K) (cells S') (pc + 3) ls (.int r :: rest)) : bd_S Γ nL t0 ((bd_b2 t1 f).bind K) (cells S) pc ls st := bs_callSN (vj := bd_vi) hC As rest hM m1 m2 m3 m4 hY hR hn hst hW hd k
theorem bs_callSN_l (hC : bd_C Γ cc nL own ret R0 ε cells vi t0) {S : bd_T} {y : MethodName} {host : String} {bytes : ByteArray} {maxL index n : Nat} {ret' : Option FieldType} {rm : Room} {t1 : Option (Int64 × bd_T)} {f : Int64 → bd_T → Option α} {K : α → Option (ρ × bd_T)} {st : List Value} (As : List Value) (rest : List Value)
    (hM : t1.isSome = true → bd_Con (bd_l Γ) y (Cond.code y bytes maxL ret' :: bd_tbl) rm (bd_D Γ) ε cells bd_vl As S t1) (m1 : Cond.code y bytes maxL ret' ∈ bd_tbl) (m2 : ((own, index, y, host) : String × Nat × MethodName × String) ∈ bd_nM) (m3 : Cond.static y ∈ bd_tbl) (m4 : Cond.initialized y.cls ∈ bd_tbl) (hY : bd_Y y n) (hR : bd_R R0 rm maxL) (hn : As.length = n) (hst : st = As.reverse ++ rest) (hW : (rest.map fun v => v.category).sum ≤ 8) (hd : decode cc pc = .ok (.invokestatic index, 3))
    (k : ∀ (r : Int64) (S' : bd_T), t1 = some (r, S') → bd_S Γ nL t0 ((f r S').bind K) (cells S') (pc + 3) ls (.long r :: rest)) : bd_S Γ nL t0 ((bd_b2 t1 f).bind K) (cells S) pc ls st := bs_callSN (vj := bd_vl) hC As rest hM m1 m2 m3 m4 hY hR hn hst hW hd k
theorem bs_callSN_v (hC : bd_C Γ cc nL own ret R0 ε cells vi t0) {S : bd_T} {y : MethodName} {host : String} {bytes : ByteArray} {maxL index n : Nat} {ret' : Option FieldType} {rm : Room} {t1 : Option (Unit × bd_T)} {f : Unit → bd_T → Option α} {K : α → Option (ρ × bd_T)} {st : List Value} (As : List Value) (rest : List Value)
    (hM : t1.isSome = true → bd_Con (bd_l Γ) y (Cond.code y bytes maxL ret' :: bd_tbl) rm (bd_D Γ) ε cells bd_vv As S t1) (m1 : Cond.code y bytes maxL ret' ∈ bd_tbl) (m2 : ((own, index, y, host) : String × Nat × MethodName × String) ∈ bd_nM) (m3 : Cond.static y ∈ bd_tbl) (m4 : Cond.initialized y.cls ∈ bd_tbl) (hY : bd_Y y n) (hR : bd_R R0 rm maxL) (hn : As.length = n) (hst : st = As.reverse ++ rest) (hW : (rest.map fun v => v.category).sum ≤ 8) (hd : decode cc pc = .ok (.invokestatic index, 3))
    (k : ∀ (r : Unit) (S' : bd_T), t1 = some (r, S') → bd_S Γ nL t0 ((f r S').bind K) (cells S') (pc + 3) ls (rest)) : bd_S Γ nL t0 ((bd_b2 t1 f).bind K) (cells S) pc ls st := bs_callSN (vj := bd_vv) hC As rest hM m1 m2 m3 m4 hY hR hn hst hW hd k
theorem bs_callV_i (hC : bd_C Γ cc nL own ret R0 ε cells vi t0) {S : bd_T} {y : MethodName} {bytes : ByteArray} {maxL index n b q0 ci : Nat} {C : vw_C} {fs : List Value} {ret' : Option FieldType} {rm : Room} {t1 : Option (Int32 × bd_T)} {f : Int32 → bd_T → Option α} {K : α → Option (ρ × bd_T)} {st : List Value} (As : List Value) (rest : List Value)
    (hM : t1.isSome = true → bd_Con (bd_l Γ) y (Cond.code y bytes maxL ret' :: bd_tbl) rm (bd_D Γ) ε cells bd_vi (.ref b :: As) S t1) (m1 : Cond.code y bytes maxL ret' ∈ bd_tbl) (m2 : Cond.methodLink own index y ∈ bd_tbl) (m3 : Cond.instanceMethod y ∈ bd_tbl) (m4 : Cond.initialized y.cls ∈ bd_tbl) (m5 : Cond.selects C.1 y y ∈ bd_tbl) (he : (cells S)[q0]? = some (b, .inr (ci, fs))) (hc : vwCl[ci]? = some C) (hY : bd_Y y n) (hR : bd_R R0 rm maxL) (hn : As.length = n) (hst : st = As.reverse ++ .ref b :: rest) (hW : (rest.map fun v => v.category).sum ≤ 8) (hd : decode cc pc = .ok (.invokevirtual index, 3))
    (k : ∀ (r : Int32) (S' : bd_T), t1 = some (r, S') → bd_S Γ nL t0 ((f r S').bind K) (cells S') (pc + 3) ls (.int r :: rest)) : bd_S Γ nL t0 ((bd_b2 t1 f).bind K) (cells S) pc ls st := bs_callV (vj := bd_vi) hC As rest hM m1 m2 m3 m4 m5 he hc hY hR hn hst hW hd k
theorem bs_callV_l (hC : bd_C Γ cc nL own ret R0 ε cells vi t0) {S : bd_T} {y : MethodName} {bytes : ByteArray} {maxL index n b q0 ci : Nat} {C : vw_C} {fs : List Value} {ret' : Option FieldType} {rm : Room} {t1 : Option (Int64 × bd_T)} {f : Int64 → bd_T → Option α} {K : α → Option (ρ × bd_T)} {st : List Value} (As : List Value) (rest : List Value)
    (hM : t1.isSome = true → bd_Con (bd_l Γ) y (Cond.code y bytes maxL ret' :: bd_tbl) rm (bd_D Γ) ε cells bd_vl (.ref b :: As) S t1) (m1 : Cond.code y bytes maxL ret' ∈ bd_tbl) (m2 : Cond.methodLink own index y ∈ bd_tbl) (m3 : Cond.instanceMethod y ∈ bd_tbl) (m4 : Cond.initialized y.cls ∈ bd_tbl) (m5 : Cond.selects C.1 y y ∈ bd_tbl) (he : (cells S)[q0]? = some (b, .inr (ci, fs))) (hc : vwCl[ci]? = some C) (hY : bd_Y y n) (hR : bd_R R0 rm maxL) (hn : As.length = n) (hst : st = As.reverse ++ .ref b :: rest) (hW : (rest.map fun v => v.category).sum ≤ 8) (hd : decode cc pc = .ok (.invokevirtual index, 3))
    (k : ∀ (r : Int64) (S' : bd_T), t1 = some (r, S') → bd_S Γ nL t0 ((f r S').bind K) (cells S') (pc + 3) ls (.long r :: rest)) : bd_S Γ nL t0 ((bd_b2 t1 f).bind K) (cells S) pc ls st := bs_callV (vj := bd_vl) hC As rest hM m1 m2 m3 m4 m5 he hc hY hR hn hst hW hd k
theorem bs_callV_v (hC : bd_C Γ cc nL own ret R0 ε cells vi t0) {S : bd_T} {y : MethodName} {bytes : ByteArray} {maxL index n b q0 ci : Nat} {C : vw_C} {fs : List Value} {ret' : Option FieldType} {rm : Room} {t1 : Option (Unit × bd_T)} {f : Unit → bd_T → Option α} {K : α → Option (ρ × bd_T)} {st : List Value} (As : List Value) (rest : List Value)
    (hM : t1.isSome = true → bd_Con (bd_l Γ) y (Cond.code y bytes maxL ret' :: bd_tbl) rm (bd_D Γ) ε cells bd_vv (.ref b :: As) S t1) (m1 : Cond.code y bytes maxL ret' ∈ bd_tbl) (m2 : Cond.methodLink own index y ∈ bd_tbl) (m3 : Cond.instanceMethod y ∈ bd_tbl) (m4 : Cond.initialized y.cls ∈ bd_tbl) (m5 : Cond.selects C.1 y y ∈ bd_tbl) (he : (cells S)[q0]? = some (b, .inr (ci, fs))) (hc : vwCl[ci]? = some C) (hY : bd_Y y n) (hR : bd_R R0 rm maxL) (hn : As.length = n) (hst : st = As.reverse ++ .ref b :: rest) (hW : (rest.map fun v => v.category).sum ≤ 8) (hd : decode cc pc = .ok (.invokevirtual index, 3))
    (k : ∀ (r : Unit) (S' : bd_T), t1 = some (r, S') → bd_S Γ nL t0 ((f r S').bind K) (cells S') (pc + 3) ls (rest)) : bd_S Γ nL t0 ((bd_b2 t1 f).bind K) (cells S) pc ls st := bs_callV (vj := bd_vv) hC As rest hM m1 m2 m3 m4 m5 he hc hY hR hn hst hW hd k
theorem bs_callVN_i (hC : bd_C Γ cc nL own ret R0 ε cells vi t0) {S : bd_T} {y : MethodName} {host : String} {bytes : ByteArray} {maxL index n b q0 ci : Nat} {C : vw_C} {fs : List Value} {ret' : Option FieldType} {rm : Room} {t1 : Option (Int32 × bd_T)} {f : Int32 → bd_T → Option α} {K : α → Option (ρ × bd_T)} {st : List Value} (As : List Value) (rest : List Value)
    (hM : t1.isSome = true → bd_Con (bd_l Γ) y (Cond.code y bytes maxL ret' :: bd_tbl) rm (bd_D Γ) ε cells bd_vi (.ref b :: As) S t1) (m1 : Cond.code y bytes maxL ret' ∈ bd_tbl) (m2 : ((own, index, y, host) : String × Nat × MethodName × String) ∈ bd_nM) (m3 : Cond.instanceMethod y ∈ bd_tbl) (m4 : Cond.initialized y.cls ∈ bd_tbl) (m5 : Cond.selects C.1 y y ∈ bd_tbl) (he : (cells S)[q0]? = some (b, .inr (ci, fs))) (hc : vwCl[ci]? = some C) (hY : bd_Y y n) (hR : bd_R R0 rm maxL) (hn : As.length = n) (hst : st = As.reverse ++ .ref b :: rest) (hW : (rest.map fun v => v.category).sum ≤ 8) (hd : decode cc pc = .ok (.invokevirtual index, 3))
    (k : ∀ (r : Int32) (S' : bd_T), t1 = some (r, S') → bd_S Γ nL t0 ((f r S').bind K) (cells S') (pc + 3) ls (.int r :: rest)) : bd_S Γ nL t0 ((bd_b2 t1 f).bind K) (cells S) pc ls st := bs_callVN (vj := bd_vi) hC As rest hM m1 m2 m3 m4 m5 he hc hY hR hn hst hW hd k
theorem bs_callVN_l (hC : bd_C Γ cc nL own ret R0 ε cells vi t0) {S : bd_T} {y : MethodName} {host : String} {bytes : ByteArray} {maxL index n b q0 ci : Nat} {C : vw_C} {fs : List Value} {ret' : Option FieldType} {rm : Room} {t1 : Option (Int64 × bd_T)} {f : Int64 → bd_T → Option α} {K : α → Option (ρ × bd_T)} {st : List Value} (As : List Value) (rest : List Value)
    (hM : t1.isSome = true → bd_Con (bd_l Γ) y (Cond.code y bytes maxL ret' :: bd_tbl) rm (bd_D Γ) ε cells bd_vl (.ref b :: As) S t1) (m1 : Cond.code y bytes maxL ret' ∈ bd_tbl) (m2 : ((own, index, y, host) : String × Nat × MethodName × String) ∈ bd_nM) (m3 : Cond.instanceMethod y ∈ bd_tbl) (m4 : Cond.initialized y.cls ∈ bd_tbl) (m5 : Cond.selects C.1 y y ∈ bd_tbl) (he : (cells S)[q0]? = some (b, .inr (ci, fs))) (hc : vwCl[ci]? = some C) (hY : bd_Y y n) (hR : bd_R R0 rm maxL) (hn : As.length = n) (hst : st = As.reverse ++ .ref b :: rest) (hW : (rest.map fun v => v.category).sum ≤ 8) (hd : decode cc pc = .ok (.invokevirtual index, 3))
    (k : ∀ (r : Int64) (S' : bd_T), t1 = some (r, S') → bd_S Γ nL t0 ((f r S').bind K) (cells S') (pc + 3) ls (.long r :: rest)) : bd_S Γ nL t0 ((bd_b2 t1 f).bind K) (cells S) pc ls st := bs_callVN (vj := bd_vl) hC As rest hM m1 m2 m3 m4 m5 he hc hY hR hn hst hW hd k
theorem bs_callVN_v (hC : bd_C Γ cc nL own ret R0 ε cells vi t0) {S : bd_T} {y : MethodName} {host : String} {bytes : ByteArray} {maxL index n b q0 ci : Nat} {C : vw_C} {fs : List Value} {ret' : Option FieldType} {rm : Room} {t1 : Option (Unit × bd_T)} {f : Unit → bd_T → Option α} {K : α → Option (ρ × bd_T)} {st : List Value} (As : List Value) (rest : List Value)
    (hM : t1.isSome = true → bd_Con (bd_l Γ) y (Cond.code y bytes maxL ret' :: bd_tbl) rm (bd_D Γ) ε cells bd_vv (.ref b :: As) S t1) (m1 : Cond.code y bytes maxL ret' ∈ bd_tbl) (m2 : ((own, index, y, host) : String × Nat × MethodName × String) ∈ bd_nM) (m3 : Cond.instanceMethod y ∈ bd_tbl) (m4 : Cond.initialized y.cls ∈ bd_tbl) (m5 : Cond.selects C.1 y y ∈ bd_tbl) (he : (cells S)[q0]? = some (b, .inr (ci, fs))) (hc : vwCl[ci]? = some C) (hY : bd_Y y n) (hR : bd_R R0 rm maxL) (hn : As.length = n) (hst : st = As.reverse ++ .ref b :: rest) (hW : (rest.map fun v => v.category).sum ≤ 8) (hd : decode cc pc = .ok (.invokevirtual index, 3))
    (k : ∀ (r : Unit) (S' : bd_T), t1 = some (r, S') → bd_S Γ nL t0 ((f r S').bind K) (cells S') (pc + 3) ls (rest)) : bd_S Γ nL t0 ((bd_b2 t1 f).bind K) (cells S) pc ls st := bs_callVN (vj := bd_vv) hC As rest hM m1 m2 m3 m4 m5 he hc hY hR hn hst hW hd k
theorem bs_callU_i (hC : bd_C Γ cc nL own ret R0 ε cells vi t0) {S : bd_T} {x' y : MethodName} {owner : String} {bytes : ByteArray} {maxL index n b q0 ci : Nat} {C : vw_C} {fs : List Value} {ret' : Option FieldType} {rm : Room} {t1 : Option (Int32 × bd_T)} {f : Int32 → bd_T → Option α} {K : α → Option (ρ × bd_T)} {st : List Value} (As : List Value) (rest : List Value)
    (hM : t1.isSome = true → bd_Con (bd_l Γ) y (Cond.code y bytes maxL ret' :: bd_tbl) rm (bd_D Γ) ε cells bd_vi (.ref b :: As) S t1) (m1 : Cond.code y bytes maxL ret' ∈ bd_tbl) (m2 : Cond.methodLink own index x' ∈ bd_tbl) (m3 : Cond.instanceMethod y ∈ bd_tbl) (m4 : Cond.initialized y.cls ∈ bd_tbl) (m5 : Cond.selects C.1 x' y ∈ bd_tbl) (m6 : Cond.sameMethod x'.cls owner x'.name x'.desc ∈ bd_tbl) (m7 : (⟨owner, x'.name, x'.desc⟩ : MethodName) ∈ bd_nD ∨ y = ⟨owner, x'.name, x'.desc⟩) (ho : owner ≠ "java/lang/invoke/MethodHandle" ∧ owner ≠ "java/lang/invoke/VarHandle" ∧ (parseMethodDescriptor x'.desc).map (fun d => d.parameters.length) = some n) (he : (cells S)[q0]? = some (b, .inr (ci, fs))) (hc : vwCl[ci]? = some C) (hR : bd_R R0 rm maxL) (hn : As.length = n) (hst : st = As.reverse ++ .ref b :: rest) (hW : (rest.map fun v => v.category).sum ≤ 8) (hd : decode cc pc = .ok (.invokevirtual index, 3))
    (k : ∀ (r : Int32) (S' : bd_T), t1 = some (r, S') → bd_S Γ nL t0 ((f r S').bind K) (cells S') (pc + 3) ls (.int r :: rest)) : bd_S Γ nL t0 ((bd_b2 t1 f).bind K) (cells S) pc ls st := bs_callU (vj := bd_vi) hC As rest hM m1 m2 m3 m4 m5 m6 m7 ho he hc hR hn hst hW hd k
theorem bs_callU_l (hC : bd_C Γ cc nL own ret R0 ε cells vi t0) {S : bd_T} {x' y : MethodName} {owner : String} {bytes : ByteArray} {maxL index n b q0 ci : Nat} {C : vw_C} {fs : List Value} {ret' : Option FieldType} {rm : Room} {t1 : Option (Int64 × bd_T)} {f : Int64 → bd_T → Option α} {K : α → Option (ρ × bd_T)} {st : List Value} (As : List Value) (rest : List Value)
    (hM : t1.isSome = true → bd_Con (bd_l Γ) y (Cond.code y bytes maxL ret' :: bd_tbl) rm (bd_D Γ) ε cells bd_vl (.ref b :: As) S t1) (m1 : Cond.code y bytes maxL ret' ∈ bd_tbl) (m2 : Cond.methodLink own index x' ∈ bd_tbl) (m3 : Cond.instanceMethod y ∈ bd_tbl) (m4 : Cond.initialized y.cls ∈ bd_tbl) (m5 : Cond.selects C.1 x' y ∈ bd_tbl) (m6 : Cond.sameMethod x'.cls owner x'.name x'.desc ∈ bd_tbl) (m7 : (⟨owner, x'.name, x'.desc⟩ : MethodName) ∈ bd_nD ∨ y = ⟨owner, x'.name, x'.desc⟩) (ho : owner ≠ "java/lang/invoke/MethodHandle" ∧ owner ≠ "java/lang/invoke/VarHandle" ∧ (parseMethodDescriptor x'.desc).map (fun d => d.parameters.length) = some n) (he : (cells S)[q0]? = some (b, .inr (ci, fs))) (hc : vwCl[ci]? = some C) (hR : bd_R R0 rm maxL) (hn : As.length = n) (hst : st = As.reverse ++ .ref b :: rest) (hW : (rest.map fun v => v.category).sum ≤ 8) (hd : decode cc pc = .ok (.invokevirtual index, 3))
    (k : ∀ (r : Int64) (S' : bd_T), t1 = some (r, S') → bd_S Γ nL t0 ((f r S').bind K) (cells S') (pc + 3) ls (.long r :: rest)) : bd_S Γ nL t0 ((bd_b2 t1 f).bind K) (cells S) pc ls st := bs_callU (vj := bd_vl) hC As rest hM m1 m2 m3 m4 m5 m6 m7 ho he hc hR hn hst hW hd k
theorem bs_callU_v (hC : bd_C Γ cc nL own ret R0 ε cells vi t0) {S : bd_T} {x' y : MethodName} {owner : String} {bytes : ByteArray} {maxL index n b q0 ci : Nat} {C : vw_C} {fs : List Value} {ret' : Option FieldType} {rm : Room} {t1 : Option (Unit × bd_T)} {f : Unit → bd_T → Option α} {K : α → Option (ρ × bd_T)} {st : List Value} (As : List Value) (rest : List Value)
    (hM : t1.isSome = true → bd_Con (bd_l Γ) y (Cond.code y bytes maxL ret' :: bd_tbl) rm (bd_D Γ) ε cells bd_vv (.ref b :: As) S t1) (m1 : Cond.code y bytes maxL ret' ∈ bd_tbl) (m2 : Cond.methodLink own index x' ∈ bd_tbl) (m3 : Cond.instanceMethod y ∈ bd_tbl) (m4 : Cond.initialized y.cls ∈ bd_tbl) (m5 : Cond.selects C.1 x' y ∈ bd_tbl) (m6 : Cond.sameMethod x'.cls owner x'.name x'.desc ∈ bd_tbl) (m7 : (⟨owner, x'.name, x'.desc⟩ : MethodName) ∈ bd_nD ∨ y = ⟨owner, x'.name, x'.desc⟩) (ho : owner ≠ "java/lang/invoke/MethodHandle" ∧ owner ≠ "java/lang/invoke/VarHandle" ∧ (parseMethodDescriptor x'.desc).map (fun d => d.parameters.length) = some n) (he : (cells S)[q0]? = some (b, .inr (ci, fs))) (hc : vwCl[ci]? = some C) (hR : bd_R R0 rm maxL) (hn : As.length = n) (hst : st = As.reverse ++ .ref b :: rest) (hW : (rest.map fun v => v.category).sum ≤ 8) (hd : decode cc pc = .ok (.invokevirtual index, 3))
    (k : ∀ (r : Unit) (S' : bd_T), t1 = some (r, S') → bd_S Γ nL t0 ((f r S').bind K) (cells S') (pc + 3) ls (rest)) : bd_S Γ nL t0 ((bd_b2 t1 f).bind K) (cells S) pc ls st := bs_callU (vj := bd_vv) hC As rest hM m1 m2 m3 m4 m5 m6 m7 ho he hc hR hn hst hW hd k
/-! Math.max, Math.min -/
theorem bs_mmax (hC : bd_C Γ cc nL own ret R0 ε cells vi t0) {index : Nat} {a b : Int32} (hm : Cond.methodLink own index Lib.Math.max.name ∈ bd_tbl) (hst : Cond.static Lib.Math.max.name ∈ bd_tbl) (hini : Cond.initialized "java/lang/Math" ∈ bd_tbl) (hcode : Cond.code Lib.Math.max.name Lib.Math.max.code 2 (some .int) ∈ bd_tbl) (hf : 1 ≤ R0.frames) (hlo : (rest.map fun v => v.category).sum + 13 ≤ R0.locals) (hd : decode cc pc = .ok (.invokestatic index, 3)) (k : bd_S Γ nL t0 x ws (pc + 3) ls (.int (if a < b then b else a) :: rest)) : bd_S Γ nL t0 x ws pc ls (.int b :: .int a :: rest) := by
  obtain ⟨p, l, e, R, s, m, args, below, meth, c, A, Q, D⟩ := Γ
  intro e1 e2 H locs arr hP hD hS hl
  obtain ⟨hx, hb, hml, hown, hts, hr, hlk, hK, hN, hR, hA, hQ⟩ := hC
  subst hR
  exact va_mmax hx hb (hml.trans hl.1.symm) hown (hts _ hm) (hts _ hst) (hts _ hini) (hts _ hcode) hf hlo (Nat.zero_le _) (Nat.zero_le _) hd (k e1 e2 H locs arr hP hD hS hl)
theorem bs_mmin (hC : bd_C Γ cc nL own ret R0 ε cells vi t0) {index : Nat} {a b : Int32} (hm : Cond.methodLink own index Lib.Math.min.name ∈ bd_tbl) (hst : Cond.static Lib.Math.min.name ∈ bd_tbl) (hini : Cond.initialized "java/lang/Math" ∈ bd_tbl) (hcode : Cond.code Lib.Math.min.name Lib.Math.min.code 2 (some .int) ∈ bd_tbl) (hf : 1 ≤ R0.frames) (hlo : (rest.map fun v => v.category).sum + 13 ≤ R0.locals) (hd : decode cc pc = .ok (.invokestatic index, 3)) (k : bd_S Γ nL t0 x ws (pc + 3) ls (.int (if b < a then b else a) :: rest)) : bd_S Γ nL t0 x ws pc ls (.int b :: .int a :: rest) := by
  obtain ⟨p, l, e, R, s, m, args, below, meth, c, A, Q, D⟩ := Γ
  intro e1 e2 H locs arr hP hD hS hl
  obtain ⟨hx, hb, hml, hown, hts, hr, hlk, hK, hN, hR, hA, hQ⟩ := hC
  subst hR
  exact va_mmin hx hb (hml.trans hl.1.symm) hown (hts _ hm) (hts _ hst) (hts _ hini) (hts _ hcode) hf hlo (Nat.zero_le _) (Nat.zero_le _) hd (k e1 e2 H locs arr hP hD hS hl)
theorem bs_mminL (hC : bd_C Γ cc nL own ret R0 ε cells vi t0) {index : Nat} {a b : Int64} (hm : Cond.methodLink own index Lib.MathLoose.min_long.x ∈ bd_tbl) (hst : Cond.static Lib.MathLoose.min_long.x ∈ bd_tbl) (hini : Cond.initialized "java/lang/Math" ∈ bd_tbl) (hcode : Cond.code Lib.MathLoose.min_long.x Lib.MathLoose.min_long.code 4 (some .long) ∈ bd_tbl) (hf : 1 ≤ R0.frames) (hlo : (rest.map fun v => v.category).sum + 15 ≤ R0.locals) (hd : decode cc pc = .ok (.invokestatic index, 3)) (k : bd_S Γ nL t0 x ws (pc + 3) ls (.long (if b < a then b else a) :: rest)) : bd_S Γ nL t0 x ws pc ls (.long b :: .long a :: rest) := by
  obtain ⟨p, l, e, R, s, m, args, below, meth, c, A, Q, D⟩ := Γ
  intro e1 e2 H locs arr hP hD hS hl
  obtain ⟨hx, hb, hml, hown, hts, hr, hlk, hK, hN, hR, hA, hQ⟩ := hC
  subst hR
  exact va_mmin_long hx hb (hml.trans hl.1.symm) hown (hts _ hm) (hts _ hst) (hts _ hini) (hts _ hcode) hf hlo (Nat.zero_le _) (Nat.zero_le _) hd (k e1 e2 H locs arr hP hD hS hl)
end BDR
/-- a loop: P at its head, X behind it -/
theorem bs_loop {σ τ ρ : Type} {k : τ → Option ρ} (P : σ → Option ρ → Prop) (X : τ → Option ρ → Prop) (F : σ → Option (σ ⊕ τ)) (h0 : ∀ q, P q none) (hb : ∀ K : σ ⊕ τ → Option ρ, (∀ q, P q (K (.inl q))) → (∀ r, X r (K (.inr r))) → ∀ q, P q ((F q).bind K)) (hx : ∀ r, X r (k r)) : ∀ (n : Nat) (q : σ), P q ((bd_lp n F q).bind k) := by
  intro n
  induction n with
  | zero => exact fun q => h0 q
  | succ n ih =>
    intro q
    have e : ((bd_lp (n + 1) F q).bind k) = (F q).bind (fun z => Sum.elim (fun q' => (bd_lp n F q').bind k) k z) := by
      show ((F q).bind _).bind k = _
      cases F q with
      | none => rfl
      | some z => cases z <;> rfl
    rw [e]
    exact hb _ (fun q' => ih q') (fun r => hx r) q
theorem bs_loopK {σ τ ρ α : Type} {k : τ → Option α} {K : α → Option ρ} (P : σ → Option ρ → Prop) (X : τ → Option ρ → Prop) (F : σ → Option (σ ⊕ τ)) (h0 : ∀ q, P q none) (hb : ∀ K : σ ⊕ τ → Option ρ, (∀ q, P q (K (.inl q))) → (∀ r, X r (K (.inr r))) → ∀ q, P q ((F q).bind K)) (hx : ∀ r, X r ((k r).bind K)) (n : Nat) (q : σ) : P q (((bd_lp n F q).bind k).bind K) := by
  have h := bs_loop (k := fun r => (k r).bind K) P X F h0 hb hx n q
  have e : ((bd_lp n F q).bind k).bind K = (bd_lp n F q).bind (fun r => (k r).bind K) := by
    cases bd_lp n F q <;> rfl
  rw [e]
  exact h
theorem bs_none {ρ : Type} {Γ : bd_G} {nL : Nat} {t0 : Option (ρ × bd_T)} {ws : va_W} {pc : Nat} {ls : List (Nat × Value)} {st : List Value} : bd_S Γ nL t0 none ws pc ls st := fun _ e2 => by cases e2
theorem bs_eq {ρ : Type} {Γ : bd_G} {nL : Nat} {t0 x y : Option (ρ × bd_T)} {ws : va_W} {pc : Nat} {ls : List (Nat × Value)} {st : List Value} (h : x = y) (k : bd_S Γ nL t0 x ws pc ls st) : bd_S Γ nL t0 y ws pc ls st := h ▸ k
theorem bs_bs {α : Type} {x : Option α} : x.bind some = x := by cases x <;> rfl
