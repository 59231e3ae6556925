/-! constructors: cells come; the walk's judgement counts them -/
def bd_U (Γ : bd_G) (nL cells slots : Nat) (ws : va_W) (pc : Nat) (ls : List (Nat × Value)) (st : List Value) : Prop := match Γ with
  | (p, l, e, R, s, m, args, below, meth, c, A, Q, D) => ∀ (H : Heap) (locs : List Loc) (arr : Array Slot), va_P D vwCl ws H → va_D A ws → va_S A s.heap H locs → lv_has arr nL ls → W p l e R s m args below meth c H locs cells slots Q (F0 m pc arr st)
/-- a constructor's end: its new cells at some addresses u -/
def bk_Q (D : va_G) (ε : bd_E) (G : (Nat → Nat) → va_W) (A : Nat → Prop) : Array Value → State → Outcome → State → Prop := fun _ st oc t => (∃ u : Nat → Nat, oc = .returned none ∧ va_P D vwCl (G u) t.heap ∧ va_K D vwCl (bd_y ε) t ∧ va_D A (G u)) ∧ va_F A st t
def bk_Con (l : Launch) (y : MethodName) (ws : List Cond) (rm : Room) (D : va_G) (ε : bd_E) (h0 : Nat) (w0 : va_W) (G : (Nat → Nat) → va_W) (mc ms : Nat) : Prop := ∀ sz : Nat, Met l y ws rm (va_Pc [.ref h0] (bd_P0 D ε w0 sz)) (bk_Q D ε G (va_A w0 sz)) mc ms (va_A w0 sz)
def bk_C (Γ : bd_G) (cc : ByteArray) (nL : Nat) (own : String) (R0 : Room) (ε : bd_E) (G : (Nat → Nat) → va_W) (mc ms : Nat) : Prop := match Γ with
  | (p, l, e, R, s, m, args, below, meth, c, A, Q, D) => p.tables.exec = Jvm.exec ∧ c.code = cc ∧ c.maxLocals = nL ∧ s.vm.findClass own = some m.cls ∧ (∀ w ∈ bd_tbl, w.before args s = true) ∧ meth.sig.returnType = none ∧ meth.locks = false ∧ va_K D vwCl (bd_y ε) s ∧ bd_N s ∧ R = R0 ∧ (∀ q : Nat, s.heap.size ≤ q → A q) ∧ Q = MQ below (bk_Q D ε G A) args s mc ms A ∧ meth.name = "<init>"
set_option maxHeartbeats 1000000 in
theorem bk_con {l : Launch} {y : MethodName} {cc : ByteArray} {maxL : Nat} {rm : Room} {D : va_G} {ε : bd_E} {h0 : Nat} {w0 : va_W} {G : (Nat → Nat) → va_W} {mc ms : Nat} (hy : plainName y.cls = true) (hin : y.name = "<init>") (hlen : (lg_sl [Value.ref h0]).length ≤ maxL) (hrc : rm.cells = mc ∧ rm.slots = ms)
    (body : ∀ Γ : bd_G, bd_l Γ = l → bd_D Γ = D → bk_C Γ cc maxL y.cls rm ε G mc ms → bd_U Γ maxL 0 0 w0 0 [(0, .ref h0)] []) : bk_Con l y (Cond.code y cc maxL none :: bd_tbl) rm D ε h0 w0 G mc ms := by
  intro sz
  refine Met.ofW (cc := cc) (maxL := maxL) (ret := none) hy rfl ?_
  intro p e s m args below meth c s₁ B hml hv
  obtain ⟨rfl, hsz, hP, hK, hN, hD0⟩ := hv
  have hx := B.exec
  have hb := B.bytes
  have hr := B.returns
  have hts := fun w hw => atoms_spec (ws := Cond.code y cc maxL none :: bd_tbl) B.pre w (List.mem_cons_of_mem _ hw)
  have hown : s.vm.findClass y.cls = some m.cls := findClass_of_methodNamed B.named
  have hlocks := B.notSynchronized
  have hnm : meth.name = "<init>" := by rw [← hin]; exact (name_of_methodNamed B.named B.method).1
  subst hsz
  have hD := hD0.self (sz := s.heap.size)
  have hA : ∀ q : Nat, s.heap.size ≤ q → va_A w0 s.heap.size q := fun q h => Or.inr h
  have hl := lv_entry [Value.ref h0] (n := maxL) hlen
  rw [lg_entry_eq]
  refine body (p, l, e, _, s, m, [Value.ref h0].toArray, below, meth, c, va_A w0 s.heap.size, _, D) rfl rfl ⟨hx, hb, hml, hown, hts, hr, hlocks, hK, hN, ?_, hA, rfl, hnm⟩ s.heap [] _ hP hD va_S.rf hl
  obtain ⟨a1, a2⟩ := hrc
  cases rm
  rfl
section BKR
variable {Γ : bd_G} {cc : ByteArray} {nL cells slots mc ms : Nat} {own : String} {R0 : Room} {ε : bd_E} {G : (Nat → Nat) → va_W} {ws tl : va_W} {pc : Nat} {ls ls' : List (Nat × Value)} {rest : List Value}
theorem bk_aload_n (hC : bk_C Γ cc nL own R0 ε G mc ms) {kf : Fin 4} {i : Nat} {v : Nat} (q : Nat) (hd : decode cc pc = .ok (.aload_n kf, 1)) (hi : (kf : Nat) = i) (hq : ls[q]? = some (i, .ref v)) (k : bd_U Γ nL cells slots ws (pc + 1) ls (.ref v :: rest)) : bd_U Γ nL cells slots ws pc ls rest := by
  obtain ⟨p, l, e, R, s, m, args, below, meth, c, A, Q, D⟩ := Γ
  intro H locs arr hP hD hS hl
  exact lv_aload_n hC.1 hC.2.1 hd hi (lv_at hl q hq) (k H locs arr hP hD hS hl)
theorem bk_iload_n (hC : bk_C Γ cc nL own R0 ε G mc ms) {kf : Fin 4} {i : Nat} {v : Int32} (q : Nat) (hd : decode cc pc = .ok (.iload_n kf, 1)) (hi : (kf : Nat) = i) (hq : ls[q]? = some (i, .int v)) (k : bd_U Γ nL cells slots ws (pc + 1) ls (.int v :: rest)) : bd_U Γ nL cells slots ws pc ls rest := by
  obtain ⟨p, l, e, R, s, m, args, below, meth, c, A, Q, D⟩ := Γ
  intro H locs arr hP hD hS hl
  exact lv_iload_n hC.1 hC.2.1 hd hi (lv_at hl q hq) (k H locs arr hP hD hS hl)
theorem bk_istore_n (hC : bk_C Γ cc nL own R0 ε G mc ms) {kf : Fin 4} {i : Nat} {v : Int32} (ls' : List (Nat × Value)) (hd : decode cc pc = .ok (.istore_n kf, 1)) (hi : (kf : Nat) = i) (hn : i < nL) (hq : (i, Value.int v) :: ls.filter (fun q => !(q.1 == i) && !(q.1 + 1 == i && q.2.category == 2)) = ls') (k : bd_U Γ nL cells slots ws (pc + 1) ls' rest) : bd_U Γ nL cells slots ws pc ls (.int v :: rest) := by
  obtain ⟨p, l, e, R, s, m, args, below, meth, c, A, Q, D⟩ := Γ
  intro H locs arr hP hD hS hl
  exact lv_istore_n hC.1 hC.2.1 hd hi hl hn hq (fun arr hl => k H locs arr hP hD hS hl)
theorem bk_iinc (hC : bk_C Γ cc nL own R0 ε G mc ms) {i : Nat} {n : Int} {v w : Int32} (q : Nat) (ls' : List (Nat × Value)) (hd : decode cc pc = .ok (.iinc i n, 3)) (hk : ls[q]? = some (i, .int v)) (hv : v + Int32.ofInt n = w) (hn : i < nL) (hq : (i, Value.int w) :: ls.filter (fun q => !(q.1 == i) && !(q.1 + 1 == i && q.2.category == 2)) = ls') (k : bd_U Γ nL cells slots ws (pc + 3) ls' rest) : bd_U Γ nL cells slots ws pc ls rest := by
  obtain ⟨p, l, e, R, s, m, args, below, meth, c, A, Q, D⟩ := Γ
  intro H locs arr hP hD hS hl
  exact lv_iinc hC.1 hC.2.1 hd hl hk hv hn hq (fun arr hl => k H locs arr hP hD hS hl)
theorem bk_dup (hC : bk_C Γ cc nL own R0 ε G mc ms) {v : Value} (hd : decode cc pc = .ok (.dup, 1)) (hv : v.category = 1) (k : bd_U Γ nL cells slots ws (pc + 1) ls (v :: v :: rest)) : bd_U Γ nL cells slots ws pc ls (v :: rest) := by
  obtain ⟨p, l, e, R, s, m, args, below, meth, c, A, Q, D⟩ := Γ
  intro H locs arr hP hD hS hl
  exact lv_dup hC.1 hC.2.1 hd hv (k H locs arr hP hD hS hl)
theorem bk_iconst (hC : bk_C Γ cc nL own R0 ε G mc ms) {n : Int} (v : Int32) (hd : decode cc pc = .ok (.iconst n, 1)) (hv : Int32.ofInt n = v) (k : bd_U Γ nL cells slots ws (pc + 1) ls (.int v :: rest)) : bd_U Γ nL cells slots ws pc ls rest := by
  obtain ⟨p, l, e, R, s, m, args, below, meth, c, A, Q, D⟩ := Γ
  intro H locs arr hP hD hS hl
  exact lv_iconst hC.1 hC.2.1 hd hv (k H locs arr hP hD hS hl)
theorem bk_bipush (hC : bk_C Γ cc nL own R0 ε G mc ms) {n : Int} (v : Int32) (hd : decode cc pc = .ok (.bipush n, 2)) (hv : (Int8.ofInt n).toInt32 = v) (k : bd_U Γ nL cells slots ws (pc + 2) ls (.int v :: rest)) : bd_U Γ nL cells slots ws pc ls rest := by
  obtain ⟨p, l, e, R, s, m, args, below, meth, c, A, Q, D⟩ := Γ
  intro H locs arr hP hD hS hl
  exact lv_bipush hC.1 hC.2.1 hd hv (k H locs arr hP hD hS hl)
theorem bk_sipush (hC : bk_C Γ cc nL own R0 ε G mc ms) {n : Int} (v : Int32) (hd : decode cc pc = .ok (.sipush n, 3)) (hv : (Int16.ofInt n).toInt32 = v) (k : bd_U Γ nL cells slots ws (pc + 3) ls (.int v :: rest)) : bd_U Γ nL cells slots ws pc ls rest := by
  obtain ⟨p, l, e, R, s, m, args, below, meth, c, A, Q, D⟩ := Γ
  intro H locs arr hP hD hS hl
  exact lv_sipush hC.1 hC.2.1 hd hv (k H locs arr hP hD hS hl)
theorem bk_goto (hC : bk_C Γ cc nL own R0 ε G mc ms) {off : Int} (tgt : Nat) (hd : decode cc pc = .ok (.goto off, 3)) (ht : (pc : Int) + off = (tgt : Int)) (k : bd_U Γ nL cells slots ws tgt ls rest) : bd_U Γ nL cells slots ws pc ls rest := by
  obtain ⟨p, l, e, R, s, m, args, below, meth, c, A, Q, D⟩ := Γ
  intro H locs arr hP hD hS hl
  exact lv_goto (tgt := tgt) hC.1 hC.2.1 hd ht (k H locs arr hP hD hS hl)
theorem bk_icmp_ge (hC : bk_C Γ cc nL own R0 ε G mc ms) {v w : Int32} {off : Int} (tgt : Nat) (hd : decode cc pc = .ok (.if_icmp .ge off, 3)) (ht : (pc : Int) + off = (tgt : Int)) (h1 : w ≤ v → bd_U Γ nL cells slots ws tgt ls rest) (h2 : ¬ w ≤ v → bd_U Γ nL cells slots ws (pc + 3) ls rest) : bd_U Γ nL cells slots ws pc ls (.int w :: .int v :: rest) := by
  obtain ⟨p, l, e, R, s, m, args, below, meth, c, A, Q, D⟩ := Γ
  intro H locs arr hP hD hS hl
  exact lv_icmp_ge (tgt := tgt) hC.1 hC.2.1 hd ht (fun q => h1 q H locs arr hP hD hS hl) (fun q => h2 q H locs arr hP hD hS hl)
theorem bk_obj (hC : bk_C Γ cc nL own R0 ε G mc ms) {idx a : Nat} (m2 : Cond.methodLink own idx Lib.objectInit ∈ bd_tbl) (m3 : Cond.instanceMethod Lib.objectInit ∈ bd_tbl) (m1 : Cond.code Lib.objectInit ⟨#[0xb1]⟩ 1 none ∈ bd_tbl) (hf : 1 ≤ R0.frames) (hlo : (rest.map fun v => v.category).sum + 12 ≤ R0.locals) (hd : decode cc pc = .ok (.invokespecial idx, 3)) (k : bd_U Γ nL cells slots ws (pc + 3) ls rest) : bd_U Γ nL cells slots ws pc ls (.ref a :: rest) := by
  obtain ⟨p, l, e, R, s, m, args, below, meth, c, A, Q, D⟩ := Γ
  intro H locs arr hP hD hS hl
  obtain ⟨hx, hb, hml, hown, hts, hr, hlk, hK, hN, hR, hA, hQ, hin⟩ := hC
  subst hR
  exact W.objInit (a := a) (rest := rest) hx hb hown (hts _ m2) (hts _ m3) (hts _ m1) rfl (by rw [hml]; exact hl.1) rfl hd hf (by show 2 * 0 + _ + 12 ≤ _; omega) (k H locs arr hP hD hS hl)
theorem bk_new (hC : bk_C Γ cc nL own R0 ε G mc ms) {C : String} {T : u_T} {N ci index : Nat} (fs : List Value) (hin : ∀ w ∈ u_ws C T N, w ∈ bd_tbl) (ty : Nat → FieldType) (hty : ∀ k, k < N → parseFieldDescriptor (T k).2.2.1 = some (ty k)) (m1 : Cond.classLink own index C ∈ bd_tbl) (m2 : Cond.instantiable C N ∈ bd_tbl) (m3 : Cond.initialized C ∈ bd_tbl) (hc : vwCl[ci]? = some (C, T, N)) (hfs : ∀ j, j < N → defaultValue (ty j) = vp_V fs j) (h1 : cells + 1 ≤ R0.cells) (h2 : slots + N ≤ R0.slots) (ws' : Nat → va_W) (hw : ∀ q, ws ++ [(q, .inr (ci, fs))] = ws' q) (hd : decode cc pc = .ok (.new index, 3)) (k : ∀ q : Nat, bd_U Γ nL (cells + 1) (slots + N) (ws' q) (pc + 3) ls (.ref q :: rest)) : bd_U Γ nL cells slots ws pc ls rest := by
  obtain ⟨p, l, e, R, s, m, args, below, meth, c, A, Q, D⟩ := Γ
  intro H locs arr hP hD hS hl
  obtain ⟨hx, hb, hml, hown, hts, hr, hlk, hK, hN, hR, hA, hQ, hin2⟩ := hC
  subst hR
  exact va_new hx hb hts hin ty hty hown (hts _ m1) (hts _ m2) (hts _ m3) hK hP hD hS hA hc hfs h1 h2 hd (fun q H1 hP hD hS => k q H1 locs arr (hw q ▸ hP) (hw q ▸ hD) hS hl)
theorem bk_cls {D : va_G} {ε : bd_E} {s : State} {cA : ClassId} {ty : FieldType} {cB : ClassId} (hK : va_K D vwCl (bd_y ε ++ [(cA, ty)]) s) (k : Nat) (hk : (bd_y ε)[k]? = some (cB, ty)) (hty : va_RA s cA ty = (s.vm.findClass ("[" ++ ty.toString) = some cA)) (hty2 : va_RA s cB ty = (s.vm.findClass ("[" ++ ty.toString) = some cB)) : cA = cB := by
  have h1 := (hK.2 3 (cA, ty) rfl).2
  have h2 := (hK.2 k (cB, ty) (by rw [List.getElem?_append_left (by have := (List.getElem?_eq_some_iff.mp hk).1; exact this)]; exact hk)).2
  rw [hty] at h1
  rw [hty2] at h2
  exact Option.some.inj (h1.symm.trans h2)
theorem bk_newI (hC : bk_C Γ cc nL own R0 ε G mc ms) {n : Int32} (N' : Nat) (hm : Cond.arrayClass (newarray.typeOf .int) ∈ bd_tbl) (hn : ¬ n < 0) (hN : n.toNatClampNeg = N') (hbytes : N' * componentBytes .int ≤ 536870912) (h1 : cells + 1 ≤ R0.cells) (h2 : slots + N' ≤ R0.slots) (ws' : Nat → va_W) (hw : ∀ q, ws ++ [(q, .inl (ε.1, N', .inl (fun _ => 0)))] = ws' q) (hd : decode cc pc = .ok (.newarray .int, 2)) (k : ∀ q : Nat, bd_U Γ nL (cells + 1) (slots + N') (ws' q) (pc + 2) ls (.ref q :: rest)) : bd_U Γ nL cells slots ws pc ls (.int n :: rest) := by
  obtain ⟨p, l, e, R, s, m, args, below, meth, c, A, Q, D⟩ := Γ
  intro H locs arr hP hD hS hl
  obtain ⟨hx, hb, hml, hown, hts, hr, hlk, hK, hN0, hR, hA, hQ, hin2⟩ := hC
  subst hR
  refine va_newa (atype := .int) (ty := .int) (a0 := (N', .inl (fun _ => 0))) hx hb (hts _ hm) rfl hK hP hD hS hA (fun cA => rfl) hn hN hbytes h1 h2 hd (fun q cA H1 hK1 hP hD hS => ?_)
  have e := bk_cls hK1 0 rfl rfl rfl
  subst e
  exact k q H1 locs arr (hw q ▸ hP) (hw q ▸ hD) hS hl
theorem bk_newJ (hC : bk_C Γ cc nL own R0 ε G mc ms) {n : Int32} (N' : Nat) (hm : Cond.arrayClass (newarray.typeOf .long) ∈ bd_tbl) (hn : ¬ n < 0) (hN : n.toNatClampNeg = N') (hbytes : N' * componentBytes .long ≤ 536870912) (h1 : cells + 1 ≤ R0.cells) (h2 : slots + N' ≤ R0.slots) (ws' : Nat → va_W) (hw : ∀ q, ws ++ [(q, .inl (ε.2.1, N', .inr (.inl (fun _ => 0))))] = ws' q) (hd : decode cc pc = .ok (.newarray .long, 2)) (k : ∀ q : Nat, bd_U Γ nL (cells + 1) (slots + N') (ws' q) (pc + 2) ls (.ref q :: rest)) : bd_U Γ nL cells slots ws pc ls (.int n :: rest) := by
  obtain ⟨p, l, e, R, s, m, args, below, meth, c, A, Q, D⟩ := Γ
  intro H locs arr hP hD hS hl
  obtain ⟨hx, hb, hml, hown, hts, hr, hlk, hK, hN0, hR, hA, hQ, hin2⟩ := hC
  subst hR
  refine va_newa (atype := .long) (ty := .long) (a0 := (N', .inr (.inl (fun _ => 0)))) hx hb (hts _ hm) rfl hK hP hD hS hA (fun cA => rfl) hn hN hbytes h1 h2 hd (fun q cA H1 hK1 hP hD hS => ?_)
  have e := bk_cls hK1 1 rfl rfl rfl
  subst e
  exact k q H1 locs arr (hw q ▸ hP) (hw q ▸ hD) hS hl
theorem bk_newZ (hC : bk_C Γ cc nL own R0 ε G mc ms) {n : Int32} (N' : Nat) (hm : Cond.arrayClass (newarray.typeOf .boolean) ∈ bd_tbl) (hn : ¬ n < 0) (hN : n.toNatClampNeg = N') (hbytes : N' * componentBytes .boolean ≤ 536870912) (h1 : cells + 1 ≤ R0.cells) (h2 : slots + N' ≤ R0.slots) (ws' : Nat → va_W) (hw : ∀ q, ws ++ [(q, .inl (ε.2.2.1, N', .inl (fun _ => 0)))] = ws' q) (hd : decode cc pc = .ok (.newarray .boolean, 2)) (k : ∀ q : Nat, bd_U Γ nL (cells + 1) (slots + N') (ws' q) (pc + 2) ls (.ref q :: rest)) : bd_U Γ nL cells slots ws pc ls (.int n :: rest) := by
  obtain ⟨p, l, e, R, s, m, args, below, meth, c, A, Q, D⟩ := Γ
  intro H locs arr hP hD hS hl
  obtain ⟨hx, hb, hml, hown, hts, hr, hlk, hK, hN0, hR, hA, hQ, hin2⟩ := hC
  subst hR
  refine va_newa (atype := .boolean) (ty := .boolean) (a0 := (N', .inl (fun _ => 0))) hx hb (hts _ hm) rfl hK hP hD hS hA (fun cA => rfl) hn hN hbytes h1 h2 hd (fun q cA H1 hK1 hP hD hS => ?_)
  have e := bk_cls hK1 2 rfl rfl rfl
  subst e
  exact k q H1 locs arr (hw q ▸ hP) (hw q ▸ hD) hS hl
theorem bk_putF (hC : bk_C Γ cc nL own R0 ε G mc ms) {T : u_T} {N ci index a : Nat} {fs : List Value} {v : Value} (fs' : List Value) (hin : ∀ w ∈ u_ws own T N, w ∈ bd_tbl) (ty0 : Nat → FieldType) (hty : ∀ k, k < N → parseFieldDescriptor (T k).2.2.1 = some (ty0 k)) (hnm : ∀ a, a < N → ∀ b, b < N → a ≠ b → (T a).2.1 ≠ (T b).2.1) (hc : vwCl[ci]? = some (own, T, N)) (kf : Nat) (hk : kf < N) (hm : Cond.fieldLink own index (T kf).1 (T kf).2.1 (T kf).2.2.1 ∈ bd_tbl) (hfin : (T kf).2.2.2 = true) (hdecl : (T kf).1 = own) (hn : narrow (ty0 kf) v = v) (hfit : fits (ty0 kf) v = true) (hlen : kf < fs.length) (hfs : fs.set kf v = fs') (hd : decode cc pc = .ok (.putfield index, 3)) (k : bd_U Γ nL cells slots ((a, .inr (ci, fs')) :: tl) (pc + 3) ls rest) : bd_U Γ nL cells slots ((a, .inr (ci, fs)) :: tl) pc ls (v :: .ref a :: rest) := by
  obtain ⟨p, l, e, R, s, m, args, below, meth, c, A, Q, D⟩ := Γ
  intro H locs arr hP hD hS hl
  obtain ⟨hx, hb, hml, hown, hts, hr, hlk, hK, hN, hR, hA, hQ, hin2⟩ := hC
  subst hfs
  exact va_putF hx hb hts hin ty0 hty hnm hown hK hP hD hS 0 rfl hc kf hk (hts _ hm) (fun _ h9 => h9) hfin hin2 hdecl (hty kf hk) hn hfit hlen hd (fun H1 locs1 hP hD hS => k H1 locs1 arr hP hD hS hl)
theorem bk_put (hC : bk_C Γ cc nL own R0 ε G mc ms) {T : u_T} {N ci index a : Nat} {fs : List Value} {v : Value} (fs' : List Value) (hin : ∀ w ∈ u_ws own T N, w ∈ bd_tbl) (ty0 : Nat → FieldType) (hty : ∀ k, k < N → parseFieldDescriptor (T k).2.2.1 = some (ty0 k)) (hnm : ∀ a, a < N → ∀ b, b < N → a ≠ b → (T a).2.1 ≠ (T b).2.1) (hc : vwCl[ci]? = some (own, T, N)) (kf : Nat) (hk : kf < N) (hm : Cond.fieldLink own index (T kf).1 (T kf).2.1 (T kf).2.2.1 ∈ bd_tbl) (hfin : (T kf).2.2.2 = false) (hn : narrow (ty0 kf) v = v) (hfit : fits (ty0 kf) v = true) (hlen : kf < fs.length) (hfs : fs.set kf v = fs') (hd : decode cc pc = .ok (.putfield index, 3)) (k : bd_U Γ nL cells slots ((a, .inr (ci, fs')) :: tl) (pc + 3) ls rest) : bd_U Γ nL cells slots ((a, .inr (ci, fs)) :: tl) pc ls (v :: .ref a :: rest) := by
  obtain ⟨p, l, e, R, s, m, args, below, meth, c, A, Q, D⟩ := Γ
  intro H locs arr hP hD hS hl
  obtain ⟨hx, hb, hml, hown, hts, hr, hlk, hK, hN, hR, hA, hQ, hin2⟩ := hC
  subst hfs
  exact va_put hx hb hts hin ty0 hty hnm hown hK hP hD hS 0 rfl hc kf hk (hts _ hm) (fun _ h9 => h9) hfin (hty kf hk) hn hfit hlen hd (fun H1 locs1 hP hD hS => k H1 locs1 arr hP hD hS hl)
theorem bk_get (hC : bk_C Γ cc nL own R0 ε G mc ms) {T : u_T} {N ci index a : Nat} {fs : List Value} {v : Value} (hin : ∀ w ∈ u_ws own T N, w ∈ bd_tbl) (hc : vwCl[ci]? = some (own, T, N)) (kf : Nat) (hk : kf < N) (hm : Cond.fieldLink own index (T kf).1 (T kf).2.1 (T kf).2.2.1 ∈ bd_tbl) (hv : fs[kf]? = some v) (hd : decode cc pc = .ok (.getfield index, 3)) (k : bd_U Γ nL cells slots ((a, .inr (ci, fs)) :: tl) (pc + 3) ls (v :: rest)) : bd_U Γ nL cells slots ((a, .inr (ci, fs)) :: tl) pc ls (.ref a :: rest) := by
  obtain ⟨p, l, e, R, s, m, args, below, meth, c, A, Q, D⟩ := Γ
  intro H locs arr hP hD hS hl
  obtain ⟨hx, hb, hml, hown, hts, hr, hlk, hK, hN, hR, hA, hQ, hin2⟩ := hC
  exact va_get hx hb hts hin hown hK hP 0 rfl hc kf hk (hts _ hm) (fun _ h9 => h9) hv hd (k H locs arr hP hD hS hl)
theorem bk_iast (hC : bk_C Γ cc nL own R0 ε G mc ms) {a n : Nat} {f : Nat → Int32} {i v : Int32} {ws' : va_W} (q0 : Nat) (ha : ws[q0]? = some (a, .inl (ε.1, n, .inl f))) (hi : vp_in i n) (hset : ws.set q0 (a, .inl (ε.1, n, .inl (upd f i.toNatClampNeg v))) = ws') (hd : decode cc pc = .ok (.iastore, 1)) (k : bd_U Γ nL cells slots ws' (pc + 1) ls rest) : bd_U Γ nL cells slots ws pc ls (.int v :: .int i :: .ref a :: rest) := by
  obtain ⟨p, l, e, R, s, m, args, below, meth, c, A, Q, D⟩ := Γ
  intro H locs arr hP hD hS hl
  obtain ⟨hx, hb, hml, hown, hts, hr, hlk, hK, hN, hR, hA, hQ, hin2⟩ := hC
  subst hset
  exact va_iast hx hb hK hP hD hS q0 0 ha rfl hi hd (fun H1 locs1 hP hD hS => k H1 locs1 arr hP hD hS hl)
theorem bk_ret (hC : bk_C Γ cc nL own R0 ε G mc ms) (u : Nat → Nat) (hG : ws = G u) (h1 : cells = mc) (h2 : slots = ms) (hd : decode cc pc = .ok (.return_, 1)) : bd_U Γ nL cells slots ws pc ls [] := by
  obtain ⟨p, l, e, R, s, m, args, below, meth, c, A, Q, D⟩ := Γ
  intro H locs arr hP hD hS hl
  obtain ⟨hx, hb, hml, hown, hts, hr, hlk, hK, hN, hR, hA, hQ, hin2⟩ := hC
  subst hQ; subst hG; subst h1; subst h2
  exact W.vret hx hb hr (fun t ht hW => ⟨⟨u, rfl, by rw [ht]; exact hP, va_K.moved hW.alike hK, hD⟩, hS.F ht⟩) hS.2.2 hd hlk
/-- a nest mate's constructor, called on the cell that came last -/
theorem bk_callN (hC : bk_C Γ cc nL own R0 ε G mc ms) {wr : va_W} {q index maxL ci mc' ms' : Nat} {fs : List Value} {y : MethodName} {host : String} {bytes : ByteArray} {rm : Room} {G' : (Nat → Nat) → va_W} (rest : List Value)
    (hM : bk_Con (bd_l Γ) y (Cond.code y bytes maxL none :: bd_tbl) rm (bd_D Γ) ε q [(q, .inr (ci, fs))] G' mc' ms') (m1 : Cond.code y bytes maxL none ∈ bd_tbl) (m2 : ((own, index, y, host) : String × Nat × MethodName × String) ∈ bd_nM) (m3 : Cond.instanceMethod y ∈ bd_tbl) (m4 : Cond.initialized y.cls ∈ bd_tbl) (hY : bd_Y y 0) (hnm : y.name = "<init>") (hR : rm.cells = mc' ∧ rm.slots = ms' ∧ rm.frames + 1 ≤ R0.frames ∧ 8 + (maxL + 11) + rm.locals ≤ R0.locals) (hW : (rest.map fun v => v.category).sum ≤ 8) (h1 : cells + mc' ≤ R0.cells) (h2 : slots + ms' ≤ R0.slots) (hd : decode cc pc = .ok (.invokespecial index, 3))
    (k : ∀ u : Nat → Nat, bd_U Γ nL (cells + mc') (slots + ms') (wr ++ G' u) (pc + 3) ls rest) : bd_U Γ nL cells slots (wr ++ [(q, .inr (ci, fs))]) pc ls (.ref q :: rest) := by
  obtain ⟨p, l, e, R, s, m, args, below, meth, c, A, Q, D⟩ := Γ
  intro H locs arr hP hD hS hl
  obtain ⟨hx, hb, hml, hown, hts, hr, hlk, hK, hN, hR', hA, hQ, hin2⟩ := hC
  subst hR'
  have hPc : va_P D vwCl [(q, .inr (ci, fs))] H := fun k x hx => hP (wr.length + k) x (by rw [List.getElem?_append_right (by omega), Nat.add_sub_cancel_left]; exact hx)
  have hPr : va_P D vwCl wr H := fun k x hx => hP k x (by rw [List.getElem?_append_left (List.getElem?_eq_some_iff.mp hx).1]; exact hx)
  have hlast : (wr ++ [(q, (.inr (ci, fs) : va_E))])[wr.length]? = some (q, .inr (ci, fs)) := by simp
  have hDc : va_D A [(q, .inr (ci, fs))] := ⟨fun i j a b ha hb _ => by
    have h1 := (List.getElem?_eq_some_iff.mp ha).1
    have h2 := (List.getElem?_eq_some_iff.mp hb).1
    simp at h1 h2; omega, fun k x hx => hD.2 (wr.length + k) x (by rw [List.getElem?_append_right (by omega), Nat.add_sub_cancel_left]; exact hx)⟩
  have hDr : va_D A wr := ⟨fun i j a b ha hb h => hD.1 i j a b (by rw [List.getElem?_append_left (List.getElem?_eq_some_iff.mp ha).1]; exact ha) (by rw [List.getElem?_append_left (List.getElem?_eq_some_iff.mp hb).1]; exact hb) h, fun k x hx => hD.2 k x (by rw [List.getElem?_append_left (List.getElem?_eq_some_iff.mp hx).1]; exact hx)⟩
  have hF : ∀ z, va_A [(q, .inr (ci, fs))] H.size z → A z := fun z h => by
    rcases h with ⟨k, e, h⟩ | h
    · exact hDc.2 k _ h
    · exact hA z (Nat.le_trans hS.1 h)
  have hrun := va_runIN (p := p) (e := e) (below := below) (meth := meth) (index := index) (R := R) (host := host) (As := []) (rest := rest) (b := q) (g := F0 m pc arr (.ref q :: rest)) (H := H) (locs := locs) (cells := cells) (slots := slots) (n := 0) ⟨hx, hb, hml, hown, hts⟩ (hM H.size) ⟨va_cnB 0 hts (bd_good m1) rfl hR.1 hR.2.1 (hN.2.2 _ m2) (hts _ m4) hY hR.2.2, hnm, hts _ m3⟩ ⟨bd_blind D ε _ _ _, fun U hU hW => ⟨rfl, bd_p0 hPc hK hN hDc hU hW⟩⟩ rfl rfl hl.1 rfl (lv_room hW) hd ⟨h1, h2⟩
  intro T hT X
  obtain ⟨v, st₀, t, T', L, h0, X', hL, e1, e2, ⟨⟨u, hv, hP1, hK1, hD1⟩, hz, hk⟩, st⟩ := hrun T hT X
  cases hv
  rw [h0] at hz hk
  rw [← e1] at hP1 hz hk
  have apart : ∀ (k : Nat) (x : Nat × va_E), wr[k]? = some x → x.1 < H.size ∧ ¬ va_A [(q, .inr (ci, fs))] H.size x.1 := by
    intro k x hx
    have hlt := (hPr k x hx).lt
    refine ⟨hlt, fun h => ?_⟩
    rcases h with ⟨k2, e, h⟩ | h
    · have h4 : k2 = 0 := by have := (List.getElem?_eq_some_iff.mp h).1; simp at this; exact this
      subst h4
      have hxe : x.1 = q := (congrArg Prod.fst (Option.some.inj h)).symm
      have hi := hD.1 k wr.length x (q, .inr (ci, fs)) (by rw [List.getElem?_append_left (List.getElem?_eq_some_iff.mp hx).1]; exact hx) hlast hxe
      have := (List.getElem?_eq_some_iff.mp hx).1
      omega
    · omega
  have hP2 : va_P D vwCl (wr ++ G' u) T'.heap := va_P.app (fun k x hx => (hPr k x hx).kept (hk x.1 (apart k x hx).1 (apart k x hx).2)) hP1
  have hD2 : va_D A (wr ++ G' u) := va_D.app hDr (hD1.weaken (fun _ _ _ h => hF _ h)) (fun i j x y hx hy hxy => (apart i x hx).2 (by rw [hxy]; exact hD1.2 j y hy))
  obtain ⟨t2, a1, b1⟩ := k u T'.heap (locs ++ L) arr hP2 hD2
    ⟨Nat.le_trans hS.1 hz, fun z h1 h2 => by rw [hk z (Nat.lt_of_lt_of_le h1 hS.1) (fun w => h2 (hF z w))]; exact hS.2.1 z h1 h2, fun z hz => by
      rcases List.mem_append.mp hz with h | h
      · exact hS.2.2 z h
      · exact hF _ (hL z h)⟩ hl T' rfl X'
  exact ⟨t2, st t2 a1, b1⟩
end BKR
