/-! THE CLAIM OUT OF ONE WALK OF THE LAW'S BODY. Your part is whole_start (and what it stands on); all else here is the same for every law, but numbers. -/
def R_law : String := "BurnedDownLaw"
def lw_P (b : Addr) (xs : List Int32) (args : Array Value) (s : State) : Prop := args = #[.ref b] ∧ s.IntsAt b xs ∧ xs.length ≤ 2560 ∧ (Jvm.Cond.and given_1 narrow_1).before args s = true
def lw_Q (_ : Array Value) (s : State) (o : Outcome) (t : State) : Prop := o = .returned (some (.int 1)) ∧ Framed s o t [] 71 23203
def lw_Z (below : List Frame) (a : Array Value) (s : State) : State → Prop := fun t => ∃ o, t.status = .running ∧ Ended t below o ∧ lw_Q a s o t
/-- the law's own end, with 1 on the stack, nothing written that was there before, its room as the claim has it -/
theorem lw_ret {p : Program} {l : Launch} {e : Env} {s : State} {m : MethodId} {below : List Frame} {meth : Method} {c : Code} {b : Nat} (hx : p.tables.exec = Jvm.exec) (hb : c.code = code) (hr : meth.sig.returnType = ret) (hlocks : meth.locks = false) {pc : Nat} {H : Heap} {ls : Array Slot} (hdg : decode code pc = .ok (.ireturn, 1)) : W p l e room_1 s m #[Value.ref b] below meth c H [] 71 23203 (lw_Z below #[Value.ref b] s) (F0 m pc ls [.int 1]) := by
  intro T hT X
  obtain ⟨fs, hret, hrun, hended, hW, hframe⟩ := X.leave (v := some (.int 1)) (hlocks := hlocks) (fun h => by rw [hr] at h; cases h)
  have hmeth' : T.vm.method? m = some meth := X.method'
  refine ⟨T.setFrames fs, ?_, .returned (some (.int 1)), hrun, hended, rfl, ⟨_, rfl⟩, hW, hframe⟩
  jvm_step X.here [X.here.top, hx, hb, hdg, hmeth', hr, ret, narrow_b1]
  (try refine ⟨rfl, ?_⟩); (try refine ⟨rfl, ?_⟩)
  first | (intro acts; rw [hret _ acts rfl rfl rfl]) | rw [hret _ _ rfl rfl rfl]
  exact Steps.refl _
/-- what holds at the law's entry: the machine, the code, the tables' words (any of lw_tbl by 'hts w (by decide +kernel)'), the script of L ints xs at the cell b, what the Statement gives of the start (any of its parts by flat_of_before) -/
def lw_At (p : Program) (s : State) (m : MethodId) (meth : Method) (c : Code) (b L : Nat) (xs : Nat → Int32) : Prop :=
  p.tables.exec = Jvm.exec ∧ c.code = code ∧ meth.sig.returnType = ret ∧ c.maxLocals = 4 ∧ s.vm.findClass R_law = some m.cls ∧ (∀ w ∈ lw_tbl, w.before #[Value.ref b] s = true) ∧ va_X b L xs s s.heap ∧ b < s.heap.size ∧ meth.locks = false ∧ (Jvm.Cond.and given_1 narrow_1).before #[Value.ref b] s = true

def bl_C (Γ : bd_G) (b L : Nat) (xs : Nat → Int32) (ε : bd_E) : Prop := match Γ with
  | (p, l, e, R, s, m, args, below, meth, c, A, Q, D) => p.tables.exec = Jvm.exec ∧ c.code = cL_law ∧ c.maxLocals = 4 ∧ s.vm.findClass RL = some m.cls ∧ (∀ w ∈ bd_tbl, w.before args s = true) ∧ meth.sig.returnType = ret ∧ meth.locks = false ∧ va_K D vwCl (bd_y ε) s ∧ bd_N s ∧ R = room_1 ∧ (∀ q : Nat, s.heap.size ≤ q → A q) ∧ Q = lw_Z below #[Value.ref b] s ∧ va_X b L xs s s.heap ∧ b < s.heap.size ∧ args = #[Value.ref b] ∧ A = (fun q : Nat => s.heap.size ≤ q)
section BLR
variable {Γ : bd_G} {b L cells slots : Nat} {xs : Nat → Int32} {ε : bd_E} {ws tl : va_W} {pc : Nat} {ls ls' : List (Nat × Value)} {rest : List Value}
theorem bl_aload_n (hC : bl_C Γ b L xs ε) {kf : Fin 4} {i : Nat} {v : Nat} (q : Nat) (hd : decode cL_law pc = .ok (.aload_n kf, 1)) (hi : (kf : Nat) = i) (hq : ls[q]? = some (i, .ref v)) (k : bd_U Γ 4 cells slots ws (pc + 1) ls (.ref v :: rest)) : bd_U Γ 4 cells slots ws pc ls rest := by
  obtain ⟨p, l, e, R, s, m, args, below, meth, c, A, Q, D⟩ := Γ
  intro H locs arr hP hD hS hl
  exact lv_aload_n hC.1 hC.2.1 hd hi (lv_at hl q hq) (k H locs arr hP hD hS hl)
theorem bl_iload_n (hC : bl_C Γ b L xs ε) {kf : Fin 4} {i : Nat} {v : Int32} (q : Nat) (hd : decode cL_law pc = .ok (.iload_n kf, 1)) (hi : (kf : Nat) = i) (hq : ls[q]? = some (i, .int v)) (k : bd_U Γ 4 cells slots ws (pc + 1) ls (.int v :: rest)) : bd_U Γ 4 cells slots ws pc ls rest := by
  obtain ⟨p, l, e, R, s, m, args, below, meth, c, A, Q, D⟩ := Γ
  intro H locs arr hP hD hS hl
  exact lv_iload_n hC.1 hC.2.1 hd hi (lv_at hl q hq) (k H locs arr hP hD hS hl)
theorem bl_istore_n (hC : bl_C Γ b L xs ε) {kf : Fin 4} {i : Nat} {v : Int32} (ls' : List (Nat × Value)) (hd : decode cL_law pc = .ok (.istore_n kf, 1)) (hi : (kf : Nat) = i) (hn : i < 4) (hq : (i, Value.int v) :: ls.filter (fun q => !(q.1 == i) && !(q.1 + 1 == i && q.2.category == 2)) = ls') (k : bd_U Γ 4 cells slots ws (pc + 1) ls' rest) : bd_U Γ 4 cells slots ws pc ls (.int v :: rest) := by
  obtain ⟨p, l, e, R, s, m, args, below, meth, c, A, Q, D⟩ := Γ
  intro H locs arr hP hD hS hl
  exact lv_istore_n hC.1 hC.2.1 hd hi hl hn hq (fun arr hl => k H locs arr hP hD hS hl)
theorem bl_iinc (hC : bl_C Γ b L xs ε) {i : Nat} {n : Int} {v w : Int32} (q : Nat) (ls' : List (Nat × Value)) (hd : decode cL_law pc = .ok (.iinc i n, 3)) (hk : ls[q]? = some (i, .int v)) (hv : v + Int32.ofInt n = w) (hn : i < 4) (hq : (i, Value.int w) :: ls.filter (fun q => !(q.1 == i) && !(q.1 + 1 == i && q.2.category == 2)) = ls') (k : bd_U Γ 4 cells slots ws (pc + 3) ls' rest) : bd_U Γ 4 cells slots ws pc ls rest := by
  obtain ⟨p, l, e, R, s, m, args, below, meth, c, A, Q, D⟩ := Γ
  intro H locs arr hP hD hS hl
  exact lv_iinc hC.1 hC.2.1 hd hl hk hv hn hq (fun arr hl => k H locs arr hP hD hS hl)
theorem bl_dup (hC : bl_C Γ b L xs ε) {v : Value} (hd : decode cL_law pc = .ok (.dup, 1)) (hv : v.category = 1) (k : bd_U Γ 4 cells slots ws (pc + 1) ls (v :: v :: rest)) : bd_U Γ 4 cells slots ws pc ls (v :: rest) := by
  obtain ⟨p, l, e, R, s, m, args, below, meth, c, A, Q, D⟩ := Γ
  intro H locs arr hP hD hS hl
  exact lv_dup hC.1 hC.2.1 hd hv (k H locs arr hP hD hS hl)
theorem bl_iconst (hC : bl_C Γ b L xs ε) {n : Int} (v : Int32) (hd : decode cL_law pc = .ok (.iconst n, 1)) (hv : Int32.ofInt n = v) (k : bd_U Γ 4 cells slots ws (pc + 1) ls (.int v :: rest)) : bd_U Γ 4 cells slots ws pc ls rest := by
  obtain ⟨p, l, e, R, s, m, args, below, meth, c, A, Q, D⟩ := Γ
  intro H locs arr hP hD hS hl
  exact lv_iconst hC.1 hC.2.1 hd hv (k H locs arr hP hD hS hl)
theorem bl_bipush (hC : bl_C Γ b L xs ε) {n : Int} (v : Int32) (hd : decode cL_law pc = .ok (.bipush n, 2)) (hv : (Int8.ofInt n).toInt32 = v) (k : bd_U Γ 4 cells slots ws (pc + 2) ls (.int v :: rest)) : bd_U Γ 4 cells slots ws pc ls rest := by
  obtain ⟨p, l, e, R, s, m, args, below, meth, c, A, Q, D⟩ := Γ
  intro H locs arr hP hD hS hl
  exact lv_bipush hC.1 hC.2.1 hd hv (k H locs arr hP hD hS hl)
theorem bl_goto (hC : bl_C Γ b L xs ε) {off : Int} (tgt : Nat) (hd : decode cL_law pc = .ok (.goto off, 3)) (ht : (pc : Int) + off = (tgt : Int)) (k : bd_U Γ 4 cells slots ws tgt ls rest) : bd_U Γ 4 cells slots ws pc ls rest := by
  obtain ⟨p, l, e, R, s, m, args, below, meth, c, A, Q, D⟩ := Γ
  intro H locs arr hP hD hS hl
  exact lv_goto (tgt := tgt) hC.1 hC.2.1 hd ht (k H locs arr hP hD hS hl)
theorem bl_new (hC : bl_C Γ b L xs ε) {C : String} {T : u_T} {N ci index : Nat} (fs : List Value) (hin : ∀ w ∈ u_ws C T N, w ∈ bd_tbl) (ty : Nat → FieldType) (hty : ∀ k, k < N → parseFieldDescriptor (T k).2.2.1 = some (ty k)) (m1 : Cond.classLink RL index C ∈ bd_tbl) (m2 : Cond.instantiable C N ∈ bd_tbl) (m3 : Cond.initialized C ∈ bd_tbl) (hc : vwCl[ci]? = some (C, T, N)) (hfs : ∀ j, j < N → defaultValue (ty j) = vp_V fs j) (h1 : cells + 1 ≤ room_1.cells) (h2 : slots + N ≤ room_1.slots) (ws' : Nat → va_W) (hw : ∀ q, ws ++ [(q, .inr (ci, fs))] = ws' q) (hd : decode cL_law pc = .ok (.new index, 3)) (k : ∀ q : Nat, bd_U Γ 4 (cells + 1) (slots + N) (ws' q) (pc + 3) ls (.ref q :: rest)) : bd_U Γ 4 cells slots ws pc ls rest := by
  obtain ⟨p, l, e, R, s, m, args, below, meth, c, A, Q, D⟩ := Γ
  intro H locs arr hP hD hS hl
  obtain ⟨hx, hb, hml, hown, hts, hr, hlk, hK, hN, hR, hA, hQ, hrest⟩ := hC
  subst hR
  exact va_new hx hb hts hin ty hty hown (hts _ m1) (hts _ m2) (hts _ m3) hK hP hD hS hA hc hfs h1 h2 hd (fun q H1 hP hD hS => k q H1 locs arr (hw q ▸ hP) (hw q ▸ hD) hS hl)
theorem bl_astore_n (hC : bl_C Γ b L xs ε) {kf : Fin 4} {i : Nat} {v : Nat} (ls' : List (Nat × Value)) (hd : decode cL_law pc = .ok (.astore_n kf, 1)) (hi : (kf : Nat) = i) (hn : i < 4) (hq : (i, Value.ref v) :: ls.filter (fun q => !(q.1 == i) && !(q.1 + 1 == i && q.2.category == 2)) = ls') (k : bd_U Γ 4 cells slots ws (pc + 1) ls' rest) : bd_U Γ 4 cells slots ws pc ls (.ref v :: rest) := by
  obtain ⟨p, l, e, R, s, m, args, below, meth, c, A, Q, D⟩ := Γ
  intro H locs arr hP hD hS hl
  exact lv_astore_n hC.1 hC.2.1 hd hi hl hn hq (fun arr hl => k H locs arr hP hD hS hl)
theorem bl_iadd (hC : bl_C Γ b L xs ε) {x y : Int32} (hd : decode cL_law pc = .ok (.iadd, 1)) (k : bd_U Γ 4 cells slots ws (pc + 1) ls (.int (x + y) :: rest)) : bd_U Γ 4 cells slots ws pc ls (.int y :: .int x :: rest) := by
  obtain ⟨p, l, e, R, s, m, args, below, meth, c, A, Q, D⟩ := Γ
  intro H locs arr hP hD hS hl
  exact lv_iadd hC.1 hC.2.1 hd (k H locs arr hP hD hS hl)
theorem bl_isub (hC : bl_C Γ b L xs ε) {x y : Int32} (hd : decode cL_law pc = .ok (.isub, 1)) (k : bd_U Γ 4 cells slots ws (pc + 1) ls (.int (x - y) :: rest)) : bd_U Γ 4 cells slots ws pc ls (.int y :: .int x :: rest) := by
  obtain ⟨p, l, e, R, s, m, args, below, meth, c, A, Q, D⟩ := Γ
  intro H locs arr hP hD hS hl
  exact lv_isub hC.1 hC.2.1 hd (k H locs arr hP hD hS hl)
theorem bl_iand (hC : bl_C Γ b L xs ε) {x y : Int32} (hd : decode cL_law pc = .ok (.iand, 1)) (k : bd_U Γ 4 cells slots ws (pc + 1) ls (.int (x &&& y) :: rest)) : bd_U Γ 4 cells slots ws pc ls (.int y :: .int x :: rest) := by
  obtain ⟨p, l, e, R, s, m, args, below, meth, c, A, Q, D⟩ := Γ
  intro H locs arr hP hD hS hl
  exact lv_iand hC.1 hC.2.1 hd (k H locs arr hP hD hS hl)
theorem bl_land (hC : bl_C Γ b L xs ε) {x y : Int64} (hd : decode cL_law pc = .ok (.land, 1)) (k : bd_U Γ 4 cells slots ws (pc + 1) ls (.long (x &&& y) :: rest)) : bd_U Γ 4 cells slots ws pc ls (.long y :: .long x :: rest) := by
  obtain ⟨p, l, e, R, s, m, args, below, meth, c, A, Q, D⟩ := Γ
  intro H locs arr hP hD hS hl
  exact lv_land hC.1 hC.2.1 hd (k H locs arr hP hD hS hl)
theorem bl_lor (hC : bl_C Γ b L xs ε) {x y : Int64} (hd : decode cL_law pc = .ok (.lor, 1)) (k : bd_U Γ 4 cells slots ws (pc + 1) ls (.long (x ||| y) :: rest)) : bd_U Γ 4 cells slots ws pc ls (.long y :: .long x :: rest) := by
  obtain ⟨p, l, e, R, s, m, args, below, meth, c, A, Q, D⟩ := Γ
  intro H locs arr hP hD hS hl
  exact lv_lor hC.1 hC.2.1 hd (k H locs arr hP hD hS hl)
theorem bl_i2l (hC : bl_C Γ b L xs ε) {x : Int32} (hd : decode cL_law pc = .ok (.i2l, 1)) (k : bd_U Γ 4 cells slots ws (pc + 1) ls (.long x.toInt64 :: rest)) : bd_U Γ 4 cells slots ws pc ls (.int x :: rest) := by
  obtain ⟨p, l, e, R, s, m, args, below, meth, c, A, Q, D⟩ := Γ
  intro H locs arr hP hD hS hl
  exact lv_i2l hC.1 hC.2.1 hd rfl (k H locs arr hP hD hS hl)
theorem bl_lshl (hC : bl_C Γ b L xs ε) {x : Int64} {y : Int32} (hd : decode cL_law pc = .ok (.lshl, 1)) (k : bd_U Γ 4 cells slots ws (pc + 1) ls (.long (x <<< (y.toInt64 &&& 63)) :: rest)) : bd_U Γ 4 cells slots ws pc ls (.int y :: .long x :: rest) := by
  obtain ⟨p, l, e, R, s, m, args, below, meth, c, A, Q, D⟩ := Γ
  intro H locs arr hP hD hS hl
  exact lv_lshl hC.1 hC.2.1 hd rfl (k H locs arr hP hD hS hl)
theorem bl_ldc2 (hC : bl_C Γ b L xs ε) {index : Nat} (v : Int64) (hm : Cond.constantLong RL index v ∈ bd_tbl) (hd : decode cL_law pc = .ok (.ldc2_w index, 3)) (k : bd_U Γ 4 cells slots ws (pc + 3) ls (.long v :: rest)) : bd_U Γ 4 cells slots ws pc ls rest := by
  obtain ⟨p, l, e, R, s, m, args, below, meth, c, A, Q, D⟩ := Γ
  intro H locs arr hP hD hS hl
  exact lv_ldc2 hC.1 hC.2.1 hC.2.2.2.1 (hC.2.2.2.2.1 _ hm) hd (k H locs arr hP hD hS hl)
theorem bl_sld (hC : bl_C Γ b L xs ε) {i : Int32} (hin : vp_in i L) (hd : decode cL_law pc = .ok (.iaload, 1)) (k : bd_U Γ 4 cells slots ws (pc + 1) ls (.int (xs i.toNatClampNeg) :: rest)) : bd_U Γ 4 cells slots ws pc ls (.int i :: .ref b :: rest) := by
  obtain ⟨p, l, e, R, s, m, args, below, meth, c, A, Q, D⟩ := Γ
  intro H locs arr hP hD hS hl
  obtain ⟨hx, hb, hml, hown, hts, hr, hlk, hK, hN, hR, hA, hQ, hX, hbl, hargs, hAe⟩ := hC
  exact va_sld hx hb hX hbl (by rw [hAe]; exact Nat.not_le.mpr hbl) hS hin hd (k H locs arr hP hD hS hl)
theorem bl_slen (hC : bl_C Γ b L xs ε) (hd : decode cL_law pc = .ok (.arraylength, 1)) (k : bd_U Γ 4 cells slots ws (pc + 1) ls (.int (nI L) :: rest)) : bd_U Γ 4 cells slots ws pc ls (.ref b :: rest) := by
  obtain ⟨p, l, e, R, s, m, args, below, meth, c, A, Q, D⟩ := Γ
  intro H locs arr hP hD hS hl
  obtain ⟨hx, hb, hml, hown, hts, hr, hlk, hK, hN, hR, hA, hQ, hX, hbl, hargs, hAe⟩ := hC
  exact va_slen hx hb hX hbl (by rw [hAe]; exact Nat.not_le.mpr hbl) hS hd (k H locs arr hP hD hS hl)
theorem bl_icmp_gt (hC : bl_C Γ b L xs ε) {v w : Int32} {off : Int} (tgt : Nat) (hd : decode cL_law pc = .ok (.if_icmp .gt off, 3)) (ht : (pc : Int) + off = (tgt : Int)) (h1 : w < v → bd_U Γ 4 cells slots ws tgt ls rest) (h2 : ¬ w < v → bd_U Γ 4 cells slots ws (pc + 3) ls rest) : bd_U Γ 4 cells slots ws pc ls (.int w :: .int v :: rest) := by
  obtain ⟨p, l, e, R, s, m, args, below, meth, c, A, Q, D⟩ := Γ
  intro H locs arr hP hD hS hl
  exact lv_icmp_gt (tgt := tgt) hC.1 hC.2.1 hd ht (fun q => h1 q H locs arr hP hD hS hl) (fun q => h2 q H locs arr hP hD hS hl)
theorem bl_if_eq (hC : bl_C Γ b L xs ε) {v : Int32} {off : Int} (tgt : Nat) (hd : decode cL_law pc = .ok (.ifCond .eq off, 3)) (ht : (pc : Int) + off = (tgt : Int)) (h1 : v = 0 → bd_U Γ 4 cells slots ws tgt ls rest) (h2 : ¬ v = 0 → bd_U Γ 4 cells slots ws (pc + 3) ls rest) : bd_U Γ 4 cells slots ws pc ls (.int v :: rest) := by
  obtain ⟨p, l, e, R, s, m, args, below, meth, c, A, Q, D⟩ := Γ
  intro H locs arr hP hD hS hl
  exact lv_if_eq (tgt := tgt) hC.1 hC.2.1 hd ht (fun q => h1 q H locs arr hP hD hS hl) (fun q => h2 q H locs arr hP hD hS hl)
theorem bl_same (hC : bl_C Γ b L xs ε) {v : Int32} {off : Int} (tgt : Nat) (hd : decode cL_law pc = .ok (.if_icmp .eq off, 3)) (ht : (pc : Int) + off = (tgt : Int)) (k : bd_U Γ 4 cells slots ws tgt ls rest) : bd_U Γ 4 cells slots ws pc ls (.int v :: .int v :: rest) := by
  obtain ⟨p, l, e, R, s, m, args, below, meth, c, A, Q, D⟩ := Γ
  intro H locs arr hP hD hS hl
  exact lv_icmp_eq (tgt := tgt) hC.1 hC.2.1 hd ht (fun q => k H locs arr hP hD hS hl) (fun q => absurd rfl q)
theorem bl_sameL (hC : bl_C Γ b L xs ε) {v : Int64} {off : Int} (tgt : Nat) (hd0 : decode cL_law pc = .ok (.lcmp, 1)) (hd : decode cL_law (pc + 1) = .ok (.ifCond .eq off, 3)) (ht : ((pc + 1 : Nat) : Int) + off = (tgt : Int)) (k : bd_U Γ 4 cells slots ws tgt ls rest) : bd_U Γ 4 cells slots ws pc ls (.long v :: .long v :: rest) := by
  obtain ⟨p, l, e, R, s, m, args, below, meth, c, A, Q, D⟩ := Γ
  intro H locs arr hP hD hS hl
  refine W.lcmp hC.1 hC.2.1 hd0 ?_
  exact lv_if_eq (tgt := tgt) hC.1 hC.2.1 hd ht (fun q => k H locs arr hP hD hS hl) (fun q => absurd ((lg_cmp_eq v v).mpr rfl) q)
theorem bl_tabIn (hC : bl_C Γ b L xs ε) {dflt lo hi : Int} {offs : Array Int} {len : Nat} {v : Int32} (q : Int32) (off : Int) (tgt : Nat) (hd : decode cL_law pc = .ok (.tableswitch dflt lo hi offs, len)) (hv : v = q) (h1 : ¬ q.toInt < lo) (h2 : ¬ hi < q.toInt) (ho : offs[(q.toInt - lo).toNat]? = some off) (ht : (pc : Int) + off = (tgt : Int)) (k : bd_U Γ 4 cells slots ws tgt ls rest) : bd_U Γ 4 cells slots ws pc ls (.int v :: rest) := by
  obtain ⟨p, l, e, R, s, m, args, below, meth, c, A, Q, D⟩ := Γ
  intro H locs arr hP hD hS hl
  subst hv
  exact lv_tableIn (tgt := tgt) hC.1 hC.2.1 hd h1 h2 ho ht (k H locs arr hP hD hS hl)
theorem bl_tabOut (hC : bl_C Γ b L xs ε) {dflt lo hi : Int} {offs : Array Int} {len : Nat} {v : Int32} (tgt : Nat) (hd : decode cL_law pc = .ok (.tableswitch dflt lo hi offs, len)) (h : v.toInt < lo ∨ hi < v.toInt) (ht : (pc : Int) + dflt = (tgt : Int)) (k : bd_U Γ 4 cells slots ws tgt ls rest) : bd_U Γ 4 cells slots ws pc ls (.int v :: rest) := by
  obtain ⟨p, l, e, R, s, m, args, below, meth, c, A, Q, D⟩ := Γ
  intro H locs arr hP hD hS hl
  exact lv_tableOut (tgt := tgt) hC.1 hC.2.1 hd h ht (k H locs arr hP hD hS hl)
theorem bl_ret (hC : bl_C Γ b L xs ε) (hd : decode cL_law pc = .ok (.ireturn, 1)) : bd_U Γ 4 71 23203 ws pc ls [.int 1] := by
  obtain ⟨p, l, e, R, s, m, args, below, meth, c, A, Q, D⟩ := Γ
  intro H locs arr hP hD hS hl
  obtain ⟨hx, hb, hml, hown, hts, hr, hlk, hK, hN, hR, hA, hQ, hX, hbl, hargs, hAe⟩ := hC
  subst hQ; subst hargs; subst hAe; subst hR
  refine va_forget (fun q hq => hS.2.2 q hq) ?_
  exact lw_ret hx hb hr hlk hd
/-- a call on one of the two systems: what stands on either side of its cells stays -/
theorem bl_mid {ρ' : Type} (hC : bl_C Γ b L xs ε) {wa wb : va_W} {cs : bd_T → va_W} {ε' : bd_E} (hy : bd_y ε' = bd_y ε) {S S' : bd_T} {r : ρ'} {y : MethodName} {bytes : ByteArray} {maxL index n a q0 ci : Nat} {C : vw_C} {fs : List Value} {ret' : Option FieldType} {rm : Room} {vj : ρ' → Option Value} {t1 : Option (ρ' × bd_T)} {st : List Value} (As rest : List Value)
    (hM : bd_Con (bd_l Γ) y (Cond.code y bytes maxL ret' :: bd_tbl) rm (bd_D Γ) ε' cs vj (.ref a :: As) S t1) (h1 : t1 = some (r, S')) (m1 : Cond.code y bytes maxL ret' ∈ bd_tbl) (m2 : Cond.methodLink RL index y ∈ bd_tbl) (m3 : Cond.instanceMethod y ∈ bd_tbl) (m4 : Cond.initialized y.cls ∈ bd_tbl) (m5 : Cond.selects C.1 y y ∈ bd_tbl) (he : (cs S)[q0]? = some (a, .inr (ci, fs))) (hc : vwCl[ci]? = some C) (hY : bd_Y y n) (hR : bd_R room_1 rm maxL) (hn : As.length = n) (hst : st = As.reverse ++ .ref a :: rest) (hW : (rest.map fun v => v.category).sum ≤ 8) (hcs : cells ≤ room_1.cells ∧ slots ≤ room_1.slots) (hd : decode cL_law pc = .ok (.invokevirtual index, 3))
    (k : bd_U Γ 4 cells slots (wa ++ (cs S' ++ wb)) (pc + 3) ls ((vj r).toList ++ rest)) : bd_U Γ 4 cells slots (wa ++ (cs S ++ wb)) pc ls st := by
  obtain ⟨p, l, e, R, s, m, args, below, meth, c, A, Q, D⟩ := Γ
  intro H locs arr hP hD hS hl
  obtain ⟨hx, hb, hml, hown, hts, hr, hlk, hK, hN, hR', hA, hQ, hrest⟩ := hC
  subst hR'
  have gm : ∀ (k : Nat) (x : Nat × va_E), (cs S)[k]? = some x → (wa ++ (cs S ++ wb))[wa.length + k]? = some x := fun k x hx => by
    rw [List.getElem?_append_right (by omega), Nat.add_sub_cancel_left, List.getElem?_append_left (List.getElem?_eq_some_iff.mp hx).1]; exact hx
  have ga : ∀ (k : Nat) (x : Nat × va_E), wa[k]? = some x → (wa ++ (cs S ++ wb))[k]? = some x := fun k x hx => by
    rw [List.getElem?_append_left (List.getElem?_eq_some_iff.mp hx).1]; exact hx
  have gb : ∀ (k : Nat) (x : Nat × va_E), wb[k]? = some x → (wa ++ (cs S ++ wb))[wa.length + ((cs S).length + k)]? = some x := fun k x hx => by
    rw [List.getElem?_append_right (by omega), Nat.add_sub_cancel_left, List.getElem?_append_right (by omega), Nat.add_sub_cancel_left]; exact hx
  have hPc : va_P D vwCl (cs S) H := fun k x hx => hP _ x (gm k x hx)
  have hDc : va_D A (cs S) := ⟨fun i j a b ha hb h => by have := hD.1 _ _ a b (gm i a ha) (gm j b hb) h; omega, fun k x hx => hD.2 _ x (gm k x hx)⟩
  have hDa : va_D A wa := ⟨fun i j a b ha hb h => hD.1 _ _ a b (ga i a ha) (ga j b hb) h, fun k x hx => hD.2 _ x (ga k x hx)⟩
  have hDb : va_D A wb := ⟨fun i j a b ha hb h => by have := hD.1 _ _ a b (gb i a ha) (gb j b hb) h; omega, fun k x hx => hD.2 _ x (gb k x hx)⟩
  have hF : ∀ z, va_A (cs S) H.size z → A z := fun z h => by
    rcases h with ⟨k, e, h⟩ | h
    · exact hDc.2 k _ h
    · exact hA z (Nat.le_trans hS.1 h)
  have hrun := va_runV (p := p) (e := e) (R := room_1) (below := below) (meth := meth) (C := C.1) (index := index) (b := a) (As := As) (rest := rest) (g := F0 m pc arr st) (H := H) (locs := locs) (cells := cells) (slots := slots) (n := n) ⟨hx, hb, hml, hown, hts⟩ (hM H.size) ⟨callB_of n hts (bd_good m1) rfl hR.1 hR.2.1 (hts _ m4) (hts _ m2) hY hR.2.2, hts _ m3, hts _ m5⟩ ⟨bd_blind D ε' _ _ _, va_recv hK hPc hc he, fun U hU hW => ⟨rfl, bd_p0 hPc (hy ▸ hK) hN hDc hU hW⟩⟩ rfl hn hl.1 hst (lv_room hW) hd ⟨hcs.1, hcs.2⟩
  intro T hT X
  obtain ⟨v, st₀, t, T', Lc, h0, X', hL, e1, e2, ⟨⟨r2, S2, hv, hp, hP1, hK1, hD1⟩, hz, hk⟩, stp⟩ := hrun T hT X
  cases hv
  rw [h1] at hp
  cases hp
  rw [h0] at hz hk
  rw [← e1] at hP1 hz hk
  have ap : ∀ (i : Nat) (x : Nat × va_E), (wa ++ (cs S ++ wb))[i]? = some x → (i < wa.length ∨ wa.length + (cs S).length ≤ i) → x.1 < H.size ∧ ¬ va_A (cs S) H.size x.1 := by
    intro i x hx hi
    have hlt := (hP i x hx).lt
    refine ⟨hlt, fun h => ?_⟩
    rcases h with ⟨k2, e, h⟩ | h
    · have hij := hD.1 i (wa.length + k2) x (x.1, e) hx (gm k2 _ h) rfl
      have := (List.getElem?_eq_some_iff.mp h).1
      omega
    · omega
  have apa : ∀ (k : Nat) (x : Nat × va_E), wa[k]? = some x → x.1 < H.size ∧ ¬ va_A (cs S) H.size x.1 := fun k x hx => ap k x (ga k x hx) (Or.inl (List.getElem?_eq_some_iff.mp hx).1)
  have apb : ∀ (k : Nat) (x : Nat × va_E), wb[k]? = some x → x.1 < H.size ∧ ¬ va_A (cs S) H.size x.1 := fun k x hx => ap _ x (gb k x hx) (Or.inr (by omega))
  have hPa2 : va_P D vwCl wa T'.heap := fun k x hx => (hP _ x (ga k x hx)).kept (hk x.1 (apa k x hx).1 (apa k x hx).2)
  have hPb2 : va_P D vwCl wb T'.heap := fun k x hx => (hP _ x (gb k x hx)).kept (hk x.1 (apb k x hx).1 (apb k x hx).2)
  have hP2 : va_P D vwCl (wa ++ (cs S' ++ wb)) T'.heap := va_P.app hPa2 (va_P.app hP1 hPb2)
  have hcb : va_D A (cs S' ++ wb) := va_D.app (hD1.weaken (fun _ _ _ h => hF _ h)) hDb (fun i j x y hx hy hxy => (apb j y hy).2 (by rw [← hxy]; exact hD1.2 i x hx))
  have hD2 : va_D A (wa ++ (cs S' ++ wb)) := va_D.app hDa hcb (fun i j x y hx hy hxy => by
    by_cases hj : j < (cs S').length
    · rw [List.getElem?_append_left hj] at hy
      exact (apa i x hx).2 (by rw [hxy]; exact hD1.2 j y hy)
    · rw [List.getElem?_append_right (by omega)] at hy
      have := hD.1 _ _ x y (ga i x hx) (gb _ y hy) hxy
      have := (List.getElem?_eq_some_iff.mp hx).1
      omega)
  obtain ⟨t2, a1, b1⟩ := k T'.heap (locs ++ Lc) arr hP2 hD2
    ⟨Nat.le_trans hS.1 hz, fun z h1 h2 => by rw [hk z (Nat.lt_of_lt_of_le h1 hS.1) (fun w => h2 (hF z w))]; exact hS.2.1 z h1 h2, fun z hz => by
      rcases List.mem_append.mp hz with h | h
      · exact hS.2.2 z h
      · exact hF _ (hL z h)⟩ hl T' rfl X'
  exact ⟨t2, stp t2 a1, b1⟩
theorem bl_callX {ρ' : Type} (hC : bl_C Γ b L xs ε) {wb : va_W} {cs : bd_T → va_W} {ε' : bd_E} (hy : bd_y ε' = bd_y ε) {S S' : bd_T} {r : ρ'} {y : MethodName} {bytes : ByteArray} {maxL index n a q0 ci : Nat} {C : vw_C} {fs : List Value} {ret' : Option FieldType} {rm : Room} {vj : ρ' → Option Value} {t1 : Option (ρ' × bd_T)} {st : List Value} (As rest : List Value)
    (hM : bd_Con (bd_l Γ) y (Cond.code y bytes maxL ret' :: bd_tbl) rm (bd_D Γ) ε' cs vj (.ref a :: As) S t1) (h1 : t1 = some (r, S')) (m1 : Cond.code y bytes maxL ret' ∈ bd_tbl) (m2 : Cond.methodLink RL index y ∈ bd_tbl) (m3 : Cond.instanceMethod y ∈ bd_tbl) (m4 : Cond.initialized y.cls ∈ bd_tbl) (m5 : Cond.selects C.1 y y ∈ bd_tbl) (he : (cs S)[q0]? = some (a, .inr (ci, fs))) (hc : vwCl[ci]? = some C) (hY : bd_Y y n) (hR : bd_R room_1 rm maxL) (hn : As.length = n) (hst : st = As.reverse ++ .ref a :: rest) (hW : (rest.map fun v => v.category).sum ≤ 8) (hcs : cells ≤ room_1.cells ∧ slots ≤ room_1.slots) (hd : decode cL_law pc = .ok (.invokevirtual index, 3)) (stk : List Value) (hstk : (vj r).toList ++ rest = stk)
    (k : bd_U Γ 4 cells slots (cs S' ++ wb) (pc + 3) ls stk) : bd_U Γ 4 cells slots (cs S ++ wb) pc ls st := bl_mid (wa := []) hC hy As rest hM h1 m1 m2 m3 m4 m5 he hc hY hR hn hst hW hcs hd (hstk ▸ k)
theorem bl_callM {ρ' : Type} (hC : bl_C Γ b L xs ε) {wa : va_W} {cs : bd_T → va_W} {ε' : bd_E} (hy : bd_y ε' = bd_y ε) {S S' : bd_T} {r : ρ'} {y : MethodName} {bytes : ByteArray} {maxL index n a q0 ci : Nat} {C : vw_C} {fs : List Value} {ret' : Option FieldType} {rm : Room} {vj : ρ' → Option Value} {t1 : Option (ρ' × bd_T)} {st : List Value} (As rest : List Value)
    (hM : bd_Con (bd_l Γ) y (Cond.code y bytes maxL ret' :: bd_tbl) rm (bd_D Γ) ε' cs vj (.ref a :: As) S t1) (h1 : t1 = some (r, S')) (m1 : Cond.code y bytes maxL ret' ∈ bd_tbl) (m2 : Cond.methodLink RL index y ∈ bd_tbl) (m3 : Cond.instanceMethod y ∈ bd_tbl) (m4 : Cond.initialized y.cls ∈ bd_tbl) (m5 : Cond.selects C.1 y y ∈ bd_tbl) (he : (cs S)[q0]? = some (a, .inr (ci, fs))) (hc : vwCl[ci]? = some C) (hY : bd_Y y n) (hR : bd_R room_1 rm maxL) (hn : As.length = n) (hst : st = As.reverse ++ .ref a :: rest) (hW : (rest.map fun v => v.category).sum ≤ 8) (hcs : cells ≤ room_1.cells ∧ slots ≤ room_1.slots) (hd : decode cL_law pc = .ok (.invokevirtual index, 3)) (stk : List Value) (hstk : (vj r).toList ++ rest = stk)
    (k : bd_U Γ 4 cells slots (wa ++ cs S') (pc + 3) ls stk) : bd_U Γ 4 cells slots (wa ++ cs S) pc ls st := by
  have e1 : wa ++ cs S = wa ++ (cs S ++ []) := by rw [List.append_nil]
  have e2 : wa ++ cs S' = wa ++ (cs S' ++ []) := by rw [List.append_nil]
  rw [e1]
  rw [e2] at k
  exact bl_mid hC hy As rest hM h1 m1 m2 m3 m4 m5 he hc hY hR hn hst hW hcs hd (hstk ▸ k)
theorem bl_ctor (hC : bl_C Γ b L xs ε) {wr : va_W} {q index maxL ci mc' ms' : Nat} {fs : List Value} {y : MethodName} {bytes : ByteArray} {rm : Room} {G' : (Nat → Nat) → va_W} (rest : List Value)
    (hM : bk_Con (bd_l Γ) y (Cond.code y bytes maxL none :: bd_tbl) rm (bd_D Γ) ε q [(q, .inr (ci, fs))] G' mc' ms') (m1 : Cond.code y bytes maxL none ∈ bd_tbl) (m2 : Cond.methodLink RL index y ∈ bd_tbl) (m3 : Cond.instanceMethod y ∈ bd_tbl) (m4 : Cond.initialized y.cls ∈ bd_tbl) (hY : bd_Y y 0) (hnm : y.name = "<init>") (hR : rm.cells = mc' ∧ rm.slots = ms' ∧ rm.frames + 1 ≤ room_1.frames ∧ 8 + (maxL + 11) + rm.locals ≤ room_1.locals) (hW : (rest.map fun v => v.category).sum ≤ 8) (h1 : cells + mc' ≤ room_1.cells) (h2 : slots + ms' ≤ room_1.slots) (hd : decode cL_law pc = .ok (.invokespecial index, 3))
    (k : ∀ u : Nat → Nat, bd_U Γ 4 (cells + mc') (slots + ms') (wr ++ G' u) (pc + 3) ls rest) : bd_U Γ 4 cells slots (wr ++ [(q, .inr (ci, fs))]) pc ls (.ref q :: rest) := by
  obtain ⟨p, l, e, R, s, m, args, below, meth, c, A, Q, D⟩ := Γ
  intro H locs arr hP hD hS hl
  obtain ⟨hx, hb, hml, hown, hts, hr, hlk, hK, hN, hR', hA, hQ, hrest⟩ := hC
  subst hR'
  have hPc : va_P D vwCl [(q, .inr (ci, fs))] H := fun k x hx => hP (wr.length + k) x (by rw [List.getElem?_append_right (by omega), Nat.add_sub_cancel_left]; exact hx)
  have hPr : va_P D vwCl wr H := fun k x hx => hP k x (by rw [List.getElem?_append_left (List.getElem?_eq_some_iff.mp hx).1]; exact hx)
  have hlast : (wr ++ [(q, (.inr (ci, fs) : va_E))])[wr.length]? = some (q, .inr (ci, fs)) := by simp
  have hDc : va_D A [(q, .inr (ci, fs))] := ⟨fun i j a b ha hb _ => by
    have h1 := (List.getElem?_eq_some_iff.mp ha).1
    have h2 := (List.getElem?_eq_some_iff.mp hb).1
    simp at h1 h2; omega, fun k x hx => hD.2 (wr.length + k) x (by rw [List.getElem?_append_right (by omega), Nat.add_sub_cancel_left]; exact hx)⟩
  have hDr : va_D A wr := ⟨fun i j a b ha hb h => hD.1 i j a b (by rw [List.getElem?_append_left (List.getElem?_eq_some_iff.mp ha).1]; exact ha) (by rw [List.getElem?_append_left (List.getElem?_eq_some_iff.mp hb).1]; exact hb) h, fun k x hx => hD.2 k x (by rw [List.getElem?_append_left (List.getElem?_eq_some_iff.mp hx).1]; exact hx)⟩
  have hF : ∀ z, va_A [(q, .inr (ci, fs))] H.size z → A z := fun z h => by
    rcases h with ⟨k, e, h⟩ | h
    · exact hDc.2 k _ h
    · exact hA z (Nat.le_trans hS.1 h)
  have hrun := va_runI (p := p) (e := e) (below := below) (meth := meth) (index := index) (R := room_1) (As := []) (rest := rest) (b := q) (g := F0 m pc arr (.ref q :: rest)) (H := H) (locs := locs) (cells := cells) (slots := slots) (n := 0) ⟨hx, hb, hml, hown, hts⟩ (hM H.size) ⟨callB_of 0 hts (bd_good m1) rfl hR.1 hR.2.1 (hts _ m4) (hts _ m2) hY hR.2.2, hnm, hts _ m3⟩ ⟨bd_blind D ε _ _ _, fun U hU hW => ⟨rfl, bd_p0 hPc hK hN hDc hU hW⟩⟩ rfl rfl hl.1 rfl (lv_room hW) hd ⟨h1, h2⟩
  intro T hT X
  obtain ⟨v, st₀, t, T', L, h0, X', hL, e1, e2, ⟨⟨u, hv, hP1, hK1, hD1⟩, hz, hk⟩, st⟩ := hrun T hT X
  cases hv
  rw [h0] at hz hk
  rw [← e1] at hP1 hz hk
  have apart : ∀ (k : Nat) (x : Nat × va_E), wr[k]? = some x → x.1 < H.size ∧ ¬ va_A [(q, .inr (ci, fs))] H.size x.1 := by
    intro k x hx
    have hlt := (hPr k x hx).lt
    refine ⟨hlt, fun h => ?_⟩
    rcases h with ⟨k2, e, h⟩ | h
    · have h4 : k2 = 0 := by have := (List.getElem?_eq_some_iff.mp h).1; simp at this; exact this
      subst h4
      have hxe : x.1 = q := (congrArg Prod.fst (Option.some.inj h)).symm
      have hi := hD.1 k wr.length x (q, .inr (ci, fs)) (by rw [List.getElem?_append_left (List.getElem?_eq_some_iff.mp hx).1]; exact hx) hlast hxe
      have := (List.getElem?_eq_some_iff.mp hx).1
      omega
    · omega
  have hP2 : va_P D vwCl (wr ++ G' u) T'.heap := va_P.app (fun k x hx => (hPr k x hx).kept (hk x.1 (apart k x hx).1 (apart k x hx).2)) hP1
  have hD2 : va_D A (wr ++ G' u) := va_D.app hDr (hD1.weaken (fun _ _ _ h => hF _ h)) (fun i j x y hx hy hxy => (apart i x hx).2 (by rw [hxy]; exact hD1.2 j y hy))
  obtain ⟨t2, a1, b1⟩ := k u T'.heap (locs ++ L) arr hP2 hD2
    ⟨Nat.le_trans hS.1 hz, fun z h1 h2 => by rw [hk z (Nat.lt_of_lt_of_le h1 hS.1) (fun w => h2 (hF z w))]; exact hS.2.1 z h1 h2, fun z hz => by
      rcases List.mem_append.mp hz with h | h
      · exact hS.2.2 z h
      · exact hF _ (hL z h)⟩ hl T' rfl X'
  exact ⟨t2, st t2 a1, b1⟩
end BLR
