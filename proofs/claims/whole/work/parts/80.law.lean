/-! THE CLAIM OUT OF ONE WALK OF THE LAW'S BODY. Your part is whole_start (and what it stands on); all else here is the same for every law, but numbers. -/
def R_law : String := "NeighbourWiresLaw"
def lw_P (b : Addr) (xs : List Int32) (args : Array Value) (s : State) : Prop := args = #[.ref b] ∧ s.IntsAt b xs ∧ xs.length ≤ 2560 ∧ (Jvm.Cond.and given_1 narrow_1).before args s = true
def lw_Q (_ : Array Value) (s : State) (o : Outcome) (t : State) : Prop := o = .returned (some (.int 1)) ∧ Framed s o t [] 600000 7302250
def lw_Z (below : List Frame) (a : Array Value) (s : State) : State → Prop := fun t => ∃ o, t.status = .running ∧ Ended t below o ∧ lw_Q a s o t
/-- the law's own end, with 1 on the stack, nothing written that was there before, its room as the claim has it -/
theorem lw_ret {p : Program} {l : Launch} {e : Env} {s : State} {m : MethodId} {below : List Frame} {meth : Method} {c : Code} {b : Nat} (hx : p.tables.exec = Jvm.exec) (hb : c.code = code) (hr : meth.sig.returnType = ret) (hlocks : meth.locks = false) {pc : Nat} {H : Heap} {ls : Array Slot} (hdg : decode code pc = .ok (.ireturn, 1)) : W p l e room_1 s m #[Value.ref b] below meth c H [] 600000 7302250 (lw_Z below #[Value.ref b] s) (F0 m pc ls [.int 1]) := by
  intro T hT X
  obtain ⟨fs, hret, hrun, hended, hW, hframe⟩ := X.leave (v := some (.int 1)) (hlocks := hlocks) (fun h => by rw [hr] at h; cases h)
  have hmeth' : T.vm.method? m = some meth := X.method'
  refine ⟨T.setFrames fs, ?_, .returned (some (.int 1)), hrun, hended, rfl, ⟨_, rfl⟩, hW, hframe⟩
  jvm_step X.here [X.here.top, hx, hb, hdg, hmeth', hr, ret, narrow_b1]
  (try refine ⟨rfl, ?_⟩); (try refine ⟨rfl, ?_⟩)
  first | (intro acts; rw [hret _ acts rfl rfl rfl]) | rw [hret _ _ rfl rfl rfl]
  exact Steps.refl _
/-- what holds at the law's entry: the machine, the code, the tables' words (any of lw_tbl by 'hts w (by decide +kernel)'), the script of L ints xs at the cell b, what the Statement gives of the start (any of its parts by flat_of_before) -/
def lw_At (p : Program) (s : State) (m : MethodId) (meth : Method) (c : Code) (b L : Nat) (xs : Nat → Int32) : Prop :=
  p.tables.exec = Jvm.exec ∧ c.code = code ∧ meth.sig.returnType = ret ∧ c.maxLocals = 4 ∧ s.vm.findClass R_law = some m.cls ∧ (∀ w ∈ lw_tbl, w.before #[Value.ref b] s = true) ∧ va_X b L xs s s.heap ∧ b < s.heap.size ∧ meth.locks = false ∧ (Jvm.Cond.and given_1 narrow_1).before #[Value.ref b] s = true
section LROWS
variable {w : Ww} {own : String} {cc : ByteArray} {l0 : Launch} {d0 rc rs : Nat} {x : Cx} {W0 W1 : va_W} {k n : Nat} {pc np : Nat} {lo lo' : List (Nat × Value)} {st : List Value}
theorem l_iadd (C : KC w own cc l0 d0 rc rs x) {a b : Int32} (v : Int32) (hd : dc cc pc .iadd 1 np) (hv : a + b = v) (kk : CX w x W0 k n np lo (.int v :: st)) : CX w x W0 k n pc lo (.int b :: .int a :: st) := by
  obtain ⟨p, l, e, R, s, m, args, below, meth, c, Q, A, nL⟩ := x
  obtain ⟨⟨⟨hx, hb, hml, hown, hts⟩, rfl, hK, hA, hAk, hSX, hlk, hfr, hlo⟩, hEX, hrc, hrs, hin1⟩ := C
  obtain ⟨hd, rfl⟩ := hd
  intro H lc ls hP hD hS hl2
  subst hv
  exact lv_iadd hx hb hd (kk H lc ls hP hD hS hl2)
theorem l_isub (C : KC w own cc l0 d0 rc rs x) {a b : Int32} (v : Int32) (hd : dc cc pc .isub 1 np) (hv : a - b = v) (kk : CX w x W0 k n np lo (.int v :: st)) : CX w x W0 k n pc lo (.int b :: .int a :: st) := by
  obtain ⟨p, l, e, R, s, m, args, below, meth, c, Q, A, nL⟩ := x
  obtain ⟨⟨⟨hx, hb, hml, hown, hts⟩, rfl, hK, hA, hAk, hSX, hlk, hfr, hlo⟩, hEX, hrc, hrs, hin1⟩ := C
  obtain ⟨hd, rfl⟩ := hd
  intro H lc ls hP hD hS hl2
  subst hv
  exact lv_isub hx hb hd (kk H lc ls hP hD hS hl2)
theorem l_iand (C : KC w own cc l0 d0 rc rs x) {a b : Int32} (v : Int32) (hd : dc cc pc .iand 1 np) (hv : a &&& b = v) (kk : CX w x W0 k n np lo (.int v :: st)) : CX w x W0 k n pc lo (.int b :: .int a :: st) := by
  obtain ⟨p, l, e, R, s, m, args, below, meth, c, Q, A, nL⟩ := x
  obtain ⟨⟨⟨hx, hb, hml, hown, hts⟩, rfl, hK, hA, hAk, hSX, hlk, hfr, hlo⟩, hEX, hrc, hrs, hin1⟩ := C
  obtain ⟨hd, rfl⟩ := hd
  intro H lc ls hP hD hS hl2
  subst hv
  exact lv_iand hx hb hd (kk H lc ls hP hD hS hl2)
theorem l_land (C : KC w own cc l0 d0 rc rs x) {a b : Int64} (hd : dc cc pc .land 1 np) (kk : CX w x W0 k n np lo (.long (a &&& b) :: st)) : CX w x W0 k n pc lo (.long b :: .long a :: st) := by
  obtain ⟨p, l, e, R, s, m, args, below, meth, c, Q, A, nL⟩ := x
  obtain ⟨⟨⟨hx, hb, hml, hown, hts⟩, rfl, hK, hA, hAk, hSX, hlk, hfr, hlo⟩, hEX, hrc, hrs, hin1⟩ := C
  obtain ⟨hd, rfl⟩ := hd
  intro H lc ls hP hD hS hl2
  exact lv_land hx hb hd (kk H lc ls hP hD hS hl2)
theorem l_lor (C : KC w own cc l0 d0 rc rs x) {a b : Int64} (hd : dc cc pc .lor 1 np) (kk : CX w x W0 k n np lo (.long (a ||| b) :: st)) : CX w x W0 k n pc lo (.long b :: .long a :: st) := by
  obtain ⟨p, l, e, R, s, m, args, below, meth, c, Q, A, nL⟩ := x
  obtain ⟨⟨⟨hx, hb, hml, hown, hts⟩, rfl, hK, hA, hAk, hSX, hlk, hfr, hlo⟩, hEX, hrc, hrs, hin1⟩ := C
  obtain ⟨hd, rfl⟩ := hd
  intro H lc ls hP hD hS hl2
  exact lv_lor hx hb hd (kk H lc ls hP hD hS hl2)
theorem l_lshl (C : KC w own cc l0 d0 rc rs x) {a : Int64} {b : Int32} (hd : dc cc pc .lshl 1 np) (kk : CX w x W0 k n np lo (.long (jlshl a b) :: st)) : CX w x W0 k n pc lo (.int b :: .long a :: st) := by
  obtain ⟨p, l, e, R, s, m, args, below, meth, c, Q, A, nL⟩ := x
  obtain ⟨⟨⟨hx, hb, hml, hown, hts⟩, rfl, hK, hA, hAk, hSX, hlk, hfr, hlo⟩, hEX, hrc, hrs, hin1⟩ := C
  obtain ⟨hd, rfl⟩ := hd
  intro H lc ls hP hD hS hl2
  exact lv_lshl hx hb hd rfl (kk H lc ls hP hD hS hl2)
theorem l_i2l (C : KC w own cc l0 d0 rc rs x) {a : Int32} (hd : dc cc pc .i2l 1 np) (kk : CX w x W0 k n np lo (.long a.toInt64 :: st)) : CX w x W0 k n pc lo (.int a :: st) := by
  obtain ⟨p, l, e, R, s, m, args, below, meth, c, Q, A, nL⟩ := x
  obtain ⟨⟨⟨hx, hb, hml, hown, hts⟩, rfl, hK, hA, hAk, hSX, hlk, hfr, hlo⟩, hEX, hrc, hrs, hin1⟩ := C
  obtain ⟨hd, rfl⟩ := hd
  intro H lc ls hP hD hS hl2
  exact lv_i2l hx hb hd rfl (kk H lc ls hP hD hS hl2)
theorem l_ldc2 (C : KC w own cc l0 d0 rc rs x) {i : Nat} {v : Int64} (hd : dc cc pc (.ldc2_w i) 3 np) (hw : Cond.constantLong own i v ∈ tw) (kk : CX w x W0 k n np lo (.long v :: st)) : CX w x W0 k n pc lo st := by
  obtain ⟨p, l, e, R, s, m, args, below, meth, c, Q, A, nL⟩ := x
  obtain ⟨⟨⟨hx, hb, hml, hown, hts⟩, rfl, hK, hA, hAk, hSX, hlk, hfr, hlo⟩, hEX, hrc, hrs, hin1⟩ := C
  obtain ⟨hd, rfl⟩ := hd
  intro H lc ls hP hD hS hl2
  exact lv_ldc2 hx hb hown (hts _ hw) hd (kk H lc ls hP hD hS hl2)
theorem l_ifeq (C : KC w own cc l0 d0 rc rs x) {a : Int32} {t t2 : Nat} {off : Int} (hd : dj cc pc (.ifCond .eq off) off np t) (hc : (a = 0 ∧ t2 = t) ∨ (¬ a = 0 ∧ t2 = np)) (kk : CX w x W0 k n t2 lo st) : CX w x W0 k n pc lo (.int a :: st) := by
  obtain ⟨p, l, e, R, s, m, args, below, meth, c, Q, A, nL⟩ := x
  obtain ⟨⟨⟨hx, hb, hml, hown, hts⟩, rfl, hK, hA, hAk, hSX, hlk, hfr, hlo⟩, hEX, hrc, hrs, hin1⟩ := C
  obtain ⟨hd, rfl, ht⟩ := hd
  intro H lc ls hP hD hS hl2
  rcases hc with ⟨hc, rfl⟩ | ⟨hc, rfl⟩
  · exact lv_if_eq hx hb hd ht (fun _ => kk H lc ls hP hD hS hl2) (fun q => absurd hc q)
  · exact lv_if_eq hx hb hd ht (fun q => absurd q hc) (fun _ => kk H lc ls hP hD hS hl2)
theorem l_icmpeq (C : KC w own cc l0 d0 rc rs x) {a : Int32} {t : Nat} {off : Int} (hd : dj cc pc (.if_icmp .eq off) off np t) (kk : CX w x W0 k n t lo st) : CX w x W0 k n pc lo (.int a :: .int a :: st) := by
  obtain ⟨p, l, e, R, s, m, args, below, meth, c, Q, A, nL⟩ := x
  obtain ⟨⟨⟨hx, hb, hml, hown, hts⟩, rfl, hK, hA, hAk, hSX, hlk, hfr, hlo⟩, hEX, hrc, hrs, hin1⟩ := C
  obtain ⟨hd, rfl, ht⟩ := hd
  intro H lc ls hP hD hS hl2
  exact lv_icmp_eq hx hb hd ht (fun _ => kk H lc ls hP hD hS hl2) (fun q => absurd rfl q)
theorem l_icmpgt (C : KC w own cc l0 d0 rc rs x) {a b : Int32} {t : Nat} {off : Int} (hd : dj cc pc (.if_icmp .gt off) off np t) (kt : b < a → CX w x W0 k n t lo st) (kf : ¬ b < a → CX w x W0 k n np lo st) : CX w x W0 k n pc lo (.int b :: .int a :: st) := by
  obtain ⟨p, l, e, R, s, m, args, below, meth, c, Q, A, nL⟩ := x
  obtain ⟨⟨⟨hx, hb, hml, hown, hts⟩, rfl, hK, hA, hAk, hSX, hlk, hfr, hlo⟩, hEX, hrc, hrs, hin1⟩ := C
  obtain ⟨hd, rfl, ht⟩ := hd
  intro H lc ls hP hD hS hl2
  exact lv_icmp_gt hx hb hd ht (fun q => kt q H lc ls hP hD hS hl2) (fun q => kf q H lc ls hP hD hS hl2)
theorem l_iinc (C : KC w own cc l0 d0 rc rs x) {i : Nat} {v : Int32} {t : Int} (v2 : Int32) (hd : dc cc pc (.iinc i t) 3 np) (q : Nat) (hl : lo[q]? = some (i, .int v)) (hnL : i < x.2.2.2.2.2.2.2.2.2.2.2.2) (lo2 : List (Nat × Value)) (hl3 : (i, Value.int v2) :: lo.filter (fun q => !(q.1 == i) && !(q.1 + 1 == i && q.2.category == 2)) = lo2) (ht : v + Int32.ofInt t = v2) (kk : CX w x W0 k n np lo2 st) : CX w x W0 k n pc lo st := by
  obtain ⟨p, l, e, R, s, m, args, below, meth, c, Q, A, nL⟩ := x
  obtain ⟨⟨⟨hx, hb, hml, hown, hts⟩, rfl, hK, hA, hAk, hSX, hlk, hfr, hlo⟩, hEX, hrc, hrs, hin1⟩ := C
  obtain ⟨hd, rfl⟩ := hd
  intro H lc ls hP hD hS hl2
  exact lv_iinc hx hb hd hl2 hl ht hnL hl3 (fun ls2 hl4 => kk H lc ls2 hP hD hS hl4)
theorem l_astore_n (C : KC w own cc l0 d0 rc rs x) {i : Fin 4} {j v : Nat} (hd : dc cc pc (.astore_n i) 1 np) (lo2 : List (Nat × Value)) (hnL : j < x.2.2.2.2.2.2.2.2.2.2.2.2) (hl : (j, Value.ref v) :: lo.filter (fun q => !(q.1 == j) && !(q.1 + 1 == j && q.2.category == 2)) = lo2) (kk : CX w x W0 k n np lo2 st) (hi : (i : Nat) = j := by rfl) : CX w x W0 k n pc lo (.ref v :: st) := by
  obtain ⟨p, l, e, R, s, m, args, below, meth, c, Q, A, nL⟩ := x
  obtain ⟨⟨⟨hx, hb, hml, hown, hts⟩, rfl, hK, hA, hAk, hSX, hlk, hfr, hlo⟩, hEX, hrc, hrs, hin1⟩ := C
  obtain ⟨hd, rfl⟩ := hd
  intro H lc ls hP hD hS hl2
  exact lv_astore_n hx hb hd hi hl2 hnL hl (fun ls2 hl3 => kk H lc ls2 hP hD hS hl3)
theorem l_tin (C : KC w own cc l0 d0 rc rs x) {a q : Int32} {t len : Nat} {df lo1 hi off : Int} {offs : Array Int} (hd : dc cc pc (.tableswitch df lo1 hi offs) len np) (hk : a = q) (h1 : ¬ q.toInt < lo1) (h2 : ¬ hi < q.toInt) (ho : offs[(q.toInt - lo1).toNat]? = some off) (ht : (pc : Int) + off = (t : Int)) (kk : CX w x W0 k n t lo st) : CX w x W0 k n pc lo (.int a :: st) := by
  obtain ⟨p, l, e, R, s, m, args, below, meth, c, Q, A, nL⟩ := x
  obtain ⟨⟨⟨hx, hb, hml, hown, hts⟩, rfl, hK, hA, hAk, hSX, hlk, hfr, hlo⟩, hEX, hrc, hrs, hin1⟩ := C
  obtain ⟨hd, rfl⟩ := hd
  intro H lc ls hP hD hS hl2
  subst hk
  exact lv_tableIn hx hb hd h1 h2 ho ht (kk H lc ls hP hD hS hl2)
theorem l_tout (C : KC w own cc l0 d0 rc rs x) {a : Int32} {t len : Nat} {df lo1 hi : Int} {offs : Array Int} (hd : dc cc pc (.tableswitch df lo1 hi offs) len np) (h1 : a.toInt < lo1 ∨ hi < a.toInt) (ht : (pc : Int) + df = (t : Int)) (kk : CX w x W0 k n t lo st) : CX w x W0 k n pc lo (.int a :: st) := by
  obtain ⟨p, l, e, R, s, m, args, below, meth, c, Q, A, nL⟩ := x
  obtain ⟨⟨⟨hx, hb, hml, hown, hts⟩, rfl, hK, hA, hAk, hSX, hlk, hfr, hlo⟩, hEX, hrc, hrs, hin1⟩ := C
  obtain ⟨hd, rfl⟩ := hd
  intro H lc ls hP hD hS hl2
  exact lv_tableOut hx hb hd h1 ht (kk H lc ls hP hD hS hl2)
/-- the script -/
def SC (b L : Nat) (xs : Nat → Int32) (x : Cx) : Prop := match x with
  | (p, l, e, R, s, m, args, below, meth, c, Q, A, nL) => va_X b L xs s s.heap ∧ b < s.heap.size ∧ ¬ A b
theorem l_sld (C : KC w own cc l0 d0 rc rs x) {b L : Nat} {xs : Nat → Int32} (X : SC b L xs x) (hd : dc cc pc .iaload 1 np) (i : Nat) (hi : i < L ∧ L < 2 ^ 31) (kk : CX w x W0 k n np lo (.int (xs i) :: st)) : CX w x W0 k n pc lo (.int (nI i) :: .ref b :: st) := by
  obtain ⟨p, l, e, R, s, m, args, below, meth, c, Q, A, nL⟩ := x
  obtain ⟨⟨⟨hx, hb, hml, hown, hts⟩, rfl, hK, hA, hAk, hSX, hlk, hfr, hlo⟩, hEX, hrc, hrs, hin1⟩ := C
  obtain ⟨hd, rfl⟩ := hd
  intro H lc ls hP hD hS hl2
  obtain ⟨hX, hbl, hbA⟩ := X
  refine va_sld hx hb hX hbl hbA hS (vp_in_nI hi.1 hi.2) hd ?_
  rw [nI_clamp (by omega)]
  exact (kk H lc ls hP hD hS hl2)
theorem l_slen (C : KC w own cc l0 d0 rc rs x) {b L : Nat} {xs : Nat → Int32} (X : SC b L xs x) (hd : dc cc pc .arraylength 1 np) (kk : CX w x W0 k n np lo (.int (nI L) :: st)) : CX w x W0 k n pc lo (.ref b :: st) := by
  obtain ⟨p, l, e, R, s, m, args, below, meth, c, Q, A, nL⟩ := x
  obtain ⟨⟨⟨hx, hb, hml, hown, hts⟩, rfl, hK, hA, hAk, hSX, hlk, hfr, hlo⟩, hEX, hrc, hrs, hin1⟩ := C
  obtain ⟨hd, rfl⟩ := hd
  intro H lc ls hP hD hS hl2
  obtain ⟨hX, hbl, hbA⟩ := X
  exact va_slen hx hb hX hbl hbA hS hd (kk H lc ls hP hD hS hl2)
theorem l_call (C : KC w own cc l0 d0 rc rs x) {y : MethodName} {b2 : ByteArray} {nL2 d na idx ci N : Nat} {Cn : String} {T : u_T} {S S2 : St} {r : Int32} {bz : Int32 → Prop} {st0 : List Value} (w2 : Ww) (sh2 : List Sh) (wr : va_W) (isC isR isF : List Nat) (hd : dc cc pc (.invokevirtual idx) 3 np) (hl : Cond.methodLink own idx y ∈ tw) (cm : cmV y Cn b2 nL2 (some .int) na) (hci : cls[ci]? = some (Cn, T, N)) (As : List Value) (hn : As.length = na) (hst : st0 = As.reverse ++ .ref (w2.1 0) :: st) (hkn : k ≤ rc ∧ n ≤ rs) (hro : d + 1 ≤ d0 ∧ nL2 ≤ 41) (hcat : (st.map fun v => v.category).sum ≤ 8) (hw2 : w2.2 = w.2) (hC : isC.map (fun i => W0[i]?) = (mkW w2 S 0 sh2).map some) (hRr : isR.map (fun i => W0[i]?) = wr.map some) (hnC : va_nd isC = true) (hnR : va_nd isR = true) (hdis : ∀ i ∈ isR, i ∉ isC) (h0 : ∃ fl, sh2[0]? = some (.inl (ci, fl))) (hF : isF.map (fun i => (wr ++ mkW w2 S2 0 sh2)[i]?) = W1.map some) (hnF : va_nd isF = true) (hm : MI sh2 w2 l0 y b2 nL2 .int d (.ref (w2.1 0) :: As) S r S2 bz) (kk : CX w x W1 k n np lo (.int r :: st)) : CX w x W0 k n pc lo st0 := by
  obtain ⟨p, l, e, R, s, m, args, below, meth, c, Q, A, nL⟩ := x
  obtain ⟨⟨⟨hx, hb, hml, hown, hts⟩, rfl, hK, hA, hAk, hSX, hlk, hfr, hlo⟩, hEX, hrc, hrs, hin1⟩ := C
  obtain ⟨hd, rfl⟩ := hd
  intro H lc ls hP hD hS hl2
  subst hst
  have e1 : w2.2.2.1 = w.2.2.1 := by rw [hw2]
  have e2 : tysW w2 = tysW w := by unfold tysW; rw [show w2.2.1 = w.2.1 by rw [hw2]]
  have hSX2 : SX w2 A s s.heap := by unfold SX at hSX ⊢; rw [hw2]; exact hSX
  have hA2 : ∀ q, AW sh2 w2 H.size q → va_A (mkW w2 S 0 sh2) H.size q := by
    rintro q (⟨k9, h9, rfl⟩ | h)
    · have := mkW0 (w := w2) (S := S) (List.getElem?_eq_getElem h9)
      exact Or.inl ⟨k9, _, this⟩
    · exact Or.inr h
  have hAB : ∀ q, AW sh2 w2 H.size q → A q := fun q h => va_free hD hS hA isC hC q (hA2 q h)
  have hA3 : ∀ q, va_A (mkW w2 S 0 sh2) H.size q → AW sh2 w2 H.size q := by
    rintro q (⟨k9, e9, h9⟩ | h)
    · obtain ⟨g1, g2⟩ := mkW_ex h9
      exact Or.inl ⟨k9, g1, by rw [← Nat.zero_add k9]; exact g2⟩
    · exact Or.inr h
  have hroom : (rmD d).frames + 1 ≤ R.frames ∧ 8 + (nL2 + 11) + (rmD d).locals ≤ R.locals := by
    unfold rmD
    dsimp only
    omega
  have hPs : va_P w.2.2.1 cls (mkW w2 S 0 sh2) H := va_Psub hP isC hC
  have hpre : ∀ U : State, U.heap = H → s.WarmedH U.vm → va_Pc (.ref (w2.1 0) :: As) (preM sh2 w2 S H.size) (Value.ref (w2.1 0) :: As).toArray U := fun U hU hW => ⟨rfl, by rw [hU], by rw [hU, e1]; exact hPs, by rw [e1, e2]; exact va_K.moved hW.alike hK, (hD.sub isC hnC hC).weaken (fun _ _ _ _ => trivial), hSX2.call hS hU hW hAB⟩
  obtain ⟨fl, hfl⟩ := h0
  refine va_calli (va_runV (As := As) (rest := st) ⟨hx, hb, hml, hown, hts⟩ (hm H.size) (cwV na hts (giV cm hl) rfl rfl rfl cm.2 hroom) ⟨preM_blind, va_recv hK hPs (ci := ci) hci (mkW0 hfl), hpre⟩ rfl hn hl2.1 rfl (lv_room hcat) hd ⟨by have h1 := hkn.1; omega, by have h1 := hkn.2; omega⟩) hS (fun q _ h => hAB q h) hAB (fun r1 u t H1 locs1 ht hvm hw hB hz hk hS1 => ?_)
  obtain ⟨rfl, rfl, hbz⟩ := hw
  obtain ⟨hP1, hD1⟩ := hB
  rw [ht, e1] at hP1
  obtain ⟨hP2, hD2⟩ := va_join (wr := wr) (w1 := mkW w2 u 0 sh2) hP hD isC isR hC hRr hnR hdis (fun q h1 h2 => hk q h1 (fun h3 => h2 (hA2 q h3))) (fun q h => hAB q (hA3 q h)) hP1 (hD1.weaken (fun _ q _ h => hA2 _ h))
  exact kk H1 locs1 ls (va_Psub hP2 isF hF) (hD2.sub isF hnF hF) hS1 hl2
def LW (wN wM : Ww) (S M : St) : va_W := mkW wN S 0 shN ++ mkW wM M 0 shM
def isN : List Nat := List.range 30
def isM : List Nat := (List.range 17).map (· + 30)
def isFN : List Nat := (List.range 30).map (· + 17) ++ List.range 17
def isFM : List Nat := List.range 47
theorem LW_N (wN wM : Ww) (S M : St) : isN.map (fun i => (LW wN wM S M)[i]?) = (mkW wN S 0 shN).map some := rfl
theorem LW_M (wN wM : Ww) (S M : St) : isM.map (fun i => (LW wN wM S M)[i]?) = (mkW wM M 0 shM).map some := rfl
theorem LW_FN (wN wM : Ww) (S M : St) : isFN.map (fun i => (mkW wM M 0 shM ++ mkW wN S 0 shN)[i]?) = (LW wN wM S M).map some := rfl
theorem LW_FM (wN wM : Ww) (S M : St) : isFM.map (fun i => (mkW wN S 0 shN ++ mkW wM M 0 shM)[i]?) = (LW wN wM S M).map some := rfl
theorem l_callN (C : KC w own cc l0 d0 rc rs x) {y : MethodName} {b2 : ByteArray} {nL2 d na idx : Nat} {S S2 M : St} {r : Int32} {bz : Int32 → Prop} {st0 : List Value} {wN wM : Ww} (hd : dc cc pc (.invokevirtual idx) 3 np) (hl : Cond.methodLink own idx y ∈ tw) (cm : cmV y "NeighbourWires" b2 nL2 (some .int) na) (As : List Value) (hn : As.length = na) (hst : st0 = As.reverse ++ .ref (wN.1 0) :: st) (hkn : k ≤ rc ∧ n ≤ rs) (hro : d + 1 ≤ d0 ∧ nL2 ≤ 41) (hcat : (st.map fun v => v.category).sum ≤ 8) (hw2 : wN.2 = w.2) (hm : MI shN wN l0 y b2 nL2 .int d (.ref (wN.1 0) :: As) S r S2 bz) (kk : CX w x (LW wN wM S2 M) k n np lo (.int r :: st)) : CX w x (LW wN wM S M) k n pc lo st0 :=
  l_call C wN shN (mkW wM M 0 shM) isN isM isFN hd hl cm (ci := 8) rfl As hn hst hkn hro hcat hw2 (LW_N wN wM S M) (LW_M wN wM S M) (by decide) (by decide) (by decide) ⟨_, rfl⟩ (LW_FN wN wM S2 M) (by decide) hm kk
theorem l_callM (C : KC w own cc l0 d0 rc rs x) {y : MethodName} {b2 : ByteArray} {nL2 d na idx : Nat} {S M M2 : St} {r : Int32} {bz : Int32 → Prop} {st0 : List Value} {wN wM : Ww} (hd : dc cc pc (.invokevirtual idx) 3 np) (hl : Cond.methodLink own idx y ∈ tw) (cm : cmV y "NeighbourWiresModel" b2 nL2 (some .int) na) (As : List Value) (hn : As.length = na) (hst : st0 = As.reverse ++ .ref (wM.1 0) :: st) (hkn : k ≤ rc ∧ n ≤ rs) (hro : d + 1 ≤ d0 ∧ nL2 ≤ 41) (hcat : (st.map fun v => v.category).sum ≤ 8) (hw2 : wM.2 = w.2) (hm : MI shM wM l0 y b2 nL2 .int d (.ref (wM.1 0) :: As) M r M2 bz) (kk : CX w x (LW wN wM S M2) k n np lo (.int r :: st)) : CX w x (LW wN wM S M) k n pc lo st0 :=
  l_call C wM shM (mkW wN S 0 shN) isM isN isFM hd hl cm (ci := 9) rfl As hn hst hkn hro hcat hw2 (LW_M wN wM S M) (LW_N wN wM S M) (by decide) (by decide) (by decide) ⟨_, rfl⟩ (LW_FM wN wM S M2) (by decide) hm kk
end LROWS
theorem nI_5 (L : Nat) (h : L < 2 ^ 31) (j : Nat) (hj : j < 2 ^ 30) (hc : ¬ nI L - 5 < nI j) : j + 5 ≤ L := by
  have h1 : (nI L).toInt = (L : Int) := nI_toInt h
  have h2 : (nI j).toInt = (j : Int) := nI_toInt (by omega)
  rw [Int32.lt_iff_toInt_lt] at hc
  have h3 : (nI L - 5).toInt = (L : Int) - 5 := by
    rw [Int32.toInt_sub, h1]
    show ((L : Int) - 5).bmod (2 ^ 32) = _
    rw [Int.bmod_eq_of_le (by omega) (by omega)]
  omega
theorem c_sub {w : Ww} {x : Cx} {W0 : va_W} {k n pc : Nat} {lo lo' : List (Nat × Value)} {st : List Value} (ks : List Nat) (hl : lv_pick lo ks = lo') (kk : CX w x W0 k n pc lo' st) : CX w x W0 k n pc lo st := by
  obtain ⟨p, l, e, R, s, m, args, below, meth, c, Q, A, nL⟩ := x
  intro H lc ls hP hD hS hl2
  exact kk H lc ls hP hD hS (lv_sub hl2 ks hl)
set_option maxRecDepth 20000 in
set_option maxHeartbeats 4000000 in
theorem law_loop {F : Nat} {Rel : St → St → Prop} (OK : RelOK F Rel) {w : Ww} {l0 : Launch} {x : Cx} {b L : Nat} {xs : Nat → Int32} {wN wM : Ww} (hL : L ≤ 2560) (hnL : x.2.2.2.2.2.2.2.2.2.2.2.2 = 4) (C : KC w "NeighbourWiresLaw" b_L_law l0 100 600000 7302250 x) (X : SC b L xs x) (hwN : wN.2 = w.2) (hwM : wM.2 = w.2)
    (hret : ∀ (S M : St) (lo : List (Nat × Value)), CX w x (LW wN wM S M) 47 74412 1168 lo [.int 1]) :
    ∀ (n j : Nat) (S M : St), j ≤ L → L + 1 ≤ j + n → Rel S M → CX w x (LW wN wM S M) 47 74412 18 [(0, .ref b), (1, .ref (wN.1 0)), (2, .ref (wM.1 0)), (3, .int (nI j))] [] := by
  intro n
  induction n with
  | zero => intro j S M h1 h2; exact absurd h2 (by omega)
  | succ n ih =>
    intro j S M hj hjn hR
    refine c_iload_n C d_L_law_18 3 rfl ?_
    refine c_aload_n C d_L_law_19 0 rfl ?_
    refine l_slen C X d_L_law_20 ?_
    refine c_iconst C d_L_law_21 5 ?_
    refine l_isub C _ d_L_law_22 rfl ?_
    refine l_icmpgt C d_L_law_23 (fun hc => ?_) (fun hc => ?_)
    · refine c_iconst C d_L_law_1167 1 ?_
      exact hret _ _ _
    have hj5 : j + 5 ≤ L := nI_5 L (by omega) j (by omega) hc
    have hj1 : nI j + 1 = nI (j + 1) := nI_add j 1
    have hj2 : nI j + 2 = nI (j + 2) := nI_add j 2
    have hj3 : nI j + 3 = nI (j + 3) := nI_add j 3
    have hj4 : nI j + 4 = nI (j + 4) := nI_add j 4
    have hback : ∀ S1 M1, Rel S1 M1 → CX w x (LW wN wM S1 M1) 47 74412 1161 [(0, .ref b), (1, .ref (wN.1 0)), (2, .ref (wM.1 0)), (3, .int (nI j))] [] := by
      intro S1 M1 hR1
      refine l_iinc C (nI (j + 5)) d_L_law_1161 3 rfl (by rw [hnL]; decide) [(3, .int (nI (j + 5))), (0, .ref b), (1, .ref (wN.1 0)), (2, .ref (wM.1 0))] rfl (nI_add j 5) ?_
      refine c_goto C d_L_law_1164 ?_
      exact c_sub [1, 2, 3, 0] rfl (ih (j + 5) S1 M1 (by omega) (by omega) hR1)
    refine c_aload_n C d_L_law_26 0 rfl ?_
    refine c_iload_n C d_L_law_27 3 rfl ?_
    refine l_sld C X d_L_law_28 j ⟨by omega, by omega⟩ ?_
    refine c_bipush C d_L_law_29 31 ?_
    refine l_iand C _ d_L_law_31 rfl ?_
    by_cases q0 : xs j &&& 31 = 0
    · refine l_tin C d_L_law_32 (q := 0) (t := 172) q0 (by decide) (by decide) rfl (by decide) ?_
      refine c_aload_n C d_L_law_172 1 rfl ?_
      refine c_aload_n C d_L_law_173 0 rfl ?_
      refine c_iload_n C d_L_law_174 3 rfl ?_
      refine c_iconst C d_L_law_175 1 ?_
      refine l_iadd C (nI (j + 1)) d_L_law_176 hj1 ?_
      refine l_sld C X d_L_law_177 (j + 1) ⟨by omega, by omega⟩ ?_
      refine l_i2l C d_L_law_178 ?_
      refine c_bipush C d_L_law_179 32 ?_
      refine l_lshl C d_L_law_181 ?_
      refine c_aload_n C d_L_law_182 0 rfl ?_
      refine c_iload_n C d_L_law_183 3 rfl ?_
      refine c_iconst C d_L_law_184 2 ?_
      refine l_iadd C (nI (j + 2)) d_L_law_185 hj2 ?_
      refine l_sld C X d_L_law_186 (j + 2) ⟨by omega, by omega⟩ ?_
      refine l_i2l C d_L_law_187 ?_
      refine l_ldc2 C d_L_law_188 wd1368 ?_
      refine l_land C d_L_law_191 ?_
      refine l_lor C d_L_law_192 ?_
      obtain ⟨r, S1, M1, hN, hM, hR1⟩ := OK.1 S M hR ((jlshl (Int32.toInt64 (xs (j + 1))) 32) ||| ((Int32.toInt64 (xs (j + 2))) &&& (4294967295))) 
      refine l_callN C d_L_law_193 wd362 cm_N_feed [.long ((jlshl (Int32.toInt64 (xs (j + 1))) 32) ||| ((Int32.toInt64 (xs (j + 2))) &&& (4294967295)))] rfl rfl ⟨(Nat.le_of_ble_eq_true rfl), (Nat.le_of_ble_eq_true rfl)⟩ (by decide) (Nat.le_of_ble_eq_true rfl) hwN (m_N_feed hN) ?_
      refine c_aload_n C d_L_law_196 2 rfl ?_
      refine c_aload_n C d_L_law_197 0 rfl ?_
      refine c_iload_n C d_L_law_198 3 rfl ?_
      refine c_iconst C d_L_law_199 1 ?_
      refine l_iadd C (nI (j + 1)) d_L_law_200 hj1 ?_
      refine l_sld C X d_L_law_201 (j + 1) ⟨by omega, by omega⟩ ?_
      refine l_i2l C d_L_law_202 ?_
      refine c_bipush C d_L_law_203 32 ?_
      refine l_lshl C d_L_law_205 ?_
      refine c_aload_n C d_L_law_206 0 rfl ?_
      refine c_iload_n C d_L_law_207 3 rfl ?_
      refine c_iconst C d_L_law_208 2 ?_
      refine l_iadd C (nI (j + 2)) d_L_law_209 hj2 ?_
      refine l_sld C X d_L_law_210 (j + 2) ⟨by omega, by omega⟩ ?_
      refine l_i2l C d_L_law_211 ?_
      refine l_ldc2 C d_L_law_212 wd1368 ?_
      refine l_land C d_L_law_215 ?_
      refine l_lor C d_L_law_216 ?_
      refine l_callM C d_L_law_217 wd1079 cm_M_feed [.long ((jlshl (Int32.toInt64 (xs (j + 1))) 32) ||| ((Int32.toInt64 (xs (j + 2))) &&& (4294967295)))] rfl rfl ⟨(Nat.le_of_ble_eq_true rfl), (Nat.le_of_ble_eq_true rfl)⟩ (by decide) (Nat.le_of_ble_eq_true rfl) hwM (m_M_feed hM) ?_
      refine l_icmpeq C d_L_law_220 ?_
      exact hback S1 M1 hR1
    by_cases q1 : xs j &&& 31 = 1
    · refine l_tin C d_L_law_32 (q := 1) (t := 225) q1 (by decide) (by decide) rfl (by decide) ?_
      refine c_aload_n C d_L_law_225 1 rfl ?_
      refine c_aload_n C d_L_law_226 0 rfl ?_
      refine c_iload_n C d_L_law_227 3 rfl ?_
      refine c_iconst C d_L_law_228 1 ?_
      refine l_iadd C (nI (j + 1)) d_L_law_229 hj1 ?_
      refine l_sld C X d_L_law_230 (j + 1) ⟨by omega, by omega⟩ ?_
      obtain ⟨r, S1, M1, hN, hM, hR1⟩ := OK.2.1 S M hR (xs (j + 1)) 
      refine l_callN C d_L_law_231 wd370 cm_N_end [.int (xs (j + 1))] rfl rfl ⟨(Nat.le_of_ble_eq_true rfl), (Nat.le_of_ble_eq_true rfl)⟩ (by decide) (Nat.le_of_ble_eq_true rfl) hwN (m_N_end hN) ?_
      refine c_aload_n C d_L_law_234 2 rfl ?_
      refine c_aload_n C d_L_law_235 0 rfl ?_
      refine c_iload_n C d_L_law_236 3 rfl ?_
      refine c_iconst C d_L_law_237 1 ?_
      refine l_iadd C (nI (j + 1)) d_L_law_238 hj1 ?_
      refine l_sld C X d_L_law_239 (j + 1) ⟨by omega, by omega⟩ ?_
      refine l_callM C d_L_law_240 wd1084 cm_M_end [.int (xs (j + 1))] rfl rfl ⟨(Nat.le_of_ble_eq_true rfl), (Nat.le_of_ble_eq_true rfl)⟩ (by decide) (Nat.le_of_ble_eq_true rfl) hwM (m_M_end hM) ?_
      refine l_icmpeq C d_L_law_243 ?_
      exact hback S1 M1 hR1
    by_cases q2 : xs j &&& 31 = 2
    · refine l_tin C d_L_law_32 (q := 2) (t := 248) q2 (by decide) (by decide) rfl (by decide) ?_
      refine c_aload_n C d_L_law_248 1 rfl ?_
      obtain ⟨r, S1, M1, hN, hM, hR1⟩ := OK.2.2.1 S M hR  
      refine l_callN C d_L_law_249 wd378 cm_N_text [] rfl rfl ⟨(Nat.le_of_ble_eq_true rfl), (Nat.le_of_ble_eq_true rfl)⟩ (by decide) (Nat.le_of_ble_eq_true rfl) hwN (m_N_text hN) ?_
      refine c_aload_n C d_L_law_252 2 rfl ?_
      refine l_callM C d_L_law_253 wd1091 cm_M_text [] rfl rfl ⟨(Nat.le_of_ble_eq_true rfl), (Nat.le_of_ble_eq_true rfl)⟩ (by decide) (Nat.le_of_ble_eq_true rfl) hwM (m_M_text hM) ?_
      refine l_icmpeq C d_L_law_256 ?_
      exact hback S1 M1 hR1
    by_cases q3 : xs j &&& 31 = 3
    · refine l_tin C d_L_law_32 (q := 3) (t := 261) q3 (by decide) (by decide) rfl (by decide) ?_
      refine c_aload_n C d_L_law_261 1 rfl ?_
      obtain ⟨r, hN, hM, hR1⟩ := OK.2.2.2.1 S M hR  
      refine l_callN C d_L_law_262 wd547 cm_N_fault [] rfl rfl ⟨(Nat.le_of_ble_eq_true rfl), (Nat.le_of_ble_eq_true rfl)⟩ (by decide) (Nat.le_of_ble_eq_true rfl) hwN (m_N_fault hN) ?_
      refine c_aload_n C d_L_law_265 2 rfl ?_
      refine l_callM C d_L_law_266 wd1139 cm_M_fault [] rfl rfl ⟨(Nat.le_of_ble_eq_true rfl), (Nat.le_of_ble_eq_true rfl)⟩ (by decide) (Nat.le_of_ble_eq_true rfl) hwM (m_M_fault hM) ?_
      refine l_icmpeq C d_L_law_269 ?_
      exact hback S M hR1
    by_cases q4 : xs j &&& 31 = 4
    · refine l_tin C d_L_law_32 (q := 4) (t := 274) q4 (by decide) (by decide) rfl (by decide) ?_
      refine c_aload_n C d_L_law_274 1 rfl ?_
      refine c_aload_n C d_L_law_275 0 rfl ?_
      refine c_iload_n C d_L_law_276 3 rfl ?_
      refine c_iconst C d_L_law_277 1 ?_
      refine l_iadd C (nI (j + 1)) d_L_law_278 hj1 ?_
      refine l_sld C X d_L_law_279 (j + 1) ⟨by omega, by omega⟩ ?_
      obtain ⟨r, S1, M1, hN, hM, hR1⟩ := OK.2.2.2.2.1 S M hR (xs (j + 1)) 
      refine l_callN C d_L_law_280 wd551 cm_N_order [.int (xs (j + 1))] rfl rfl ⟨(Nat.le_of_ble_eq_true rfl), (Nat.le_of_ble_eq_true rfl)⟩ (by decide) (Nat.le_of_ble_eq_true rfl) hwN (m_N_order hN) ?_
      refine c_aload_n C d_L_law_283 2 rfl ?_
      refine c_aload_n C d_L_law_284 0 rfl ?_
      refine c_iload_n C d_L_law_285 3 rfl ?_
      refine c_iconst C d_L_law_286 1 ?_
      refine l_iadd C (nI (j + 1)) d_L_law_287 hj1 ?_
      refine l_sld C X d_L_law_288 (j + 1) ⟨by omega, by omega⟩ ?_
      refine l_callM C d_L_law_289 wd1143 cm_M_order [.int (xs (j + 1))] rfl rfl ⟨(Nat.le_of_ble_eq_true rfl), (Nat.le_of_ble_eq_true rfl)⟩ (by decide) (Nat.le_of_ble_eq_true rfl) hwM (m_M_order hM) ?_
      refine l_icmpeq C d_L_law_292 ?_
      exact hback S1 M1 hR1
    by_cases q5 : xs j &&& 31 = 5
    · refine l_tin C d_L_law_32 (q := 5) (t := 297) q5 (by decide) (by decide) rfl (by decide) ?_
      refine c_aload_n C d_L_law_297 1 rfl ?_
      refine c_aload_n C d_L_law_298 0 rfl ?_
      refine c_iload_n C d_L_law_299 3 rfl ?_
      refine c_iconst C d_L_law_300 1 ?_
      refine l_iadd C (nI (j + 1)) d_L_law_301 hj1 ?_
      refine l_sld C X d_L_law_302 (j + 1) ⟨by omega, by omega⟩ ?_
      refine c_aload_n C d_L_law_303 0 rfl ?_
      refine c_iload_n C d_L_law_304 3 rfl ?_
      refine c_iconst C d_L_law_305 2 ?_
      refine l_iadd C (nI (j + 2)) d_L_law_306 hj2 ?_
      refine l_sld C X d_L_law_307 (j + 2) ⟨by omega, by omega⟩ ?_
      by_cases hz : xs (j + 2) = 0
      · refine l_ifeq C d_L_law_308 (Or.inl ⟨hz, rfl⟩) ?_
        refine c_iconst C d_L_law_315 0 ?_
        obtain ⟨r, S1, M1, hN, hM, hR1⟩ := OK.2.2.2.2.2.1 S M hR (xs (j + 1)) (0) (Or.inl rfl)
        refine l_callN C d_L_law_316 wd567 cm_N_shield [.int (xs (j + 1)), .int 0] rfl rfl ⟨(Nat.le_of_ble_eq_true rfl), (Nat.le_of_ble_eq_true rfl)⟩ (by decide) (Nat.le_of_ble_eq_true rfl) hwN (m_N_shield hN) ?_
        refine c_aload_n C d_L_law_319 2 rfl ?_
        refine c_aload_n C d_L_law_320 0 rfl ?_
        refine c_iload_n C d_L_law_321 3 rfl ?_
        refine c_iconst C d_L_law_322 1 ?_
        refine l_iadd C (nI (j + 1)) d_L_law_323 hj1 ?_
        refine l_sld C X d_L_law_324 (j + 1) ⟨by omega, by omega⟩ ?_
        refine c_aload_n C d_L_law_325 0 rfl ?_
        refine c_iload_n C d_L_law_326 3 rfl ?_
        refine c_iconst C d_L_law_327 2 ?_
        refine l_iadd C (nI (j + 2)) d_L_law_328 hj2 ?_
        refine l_sld C X d_L_law_329 (j + 2) ⟨by omega, by omega⟩ ?_
        refine l_ifeq C d_L_law_330 (Or.inl ⟨hz, rfl⟩) ?_
        refine c_iconst C d_L_law_337 0 ?_
        refine l_callM C d_L_law_338 wd1147 cm_M_shield [.int (xs (j + 1)), .int 0] rfl rfl ⟨(Nat.le_of_ble_eq_true rfl), (Nat.le_of_ble_eq_true rfl)⟩ (by decide) (Nat.le_of_ble_eq_true rfl) hwM (m_M_shield hM) ?_
        refine l_icmpeq C d_L_law_341 ?_
        exact hback S1 M1 hR1
      · refine l_ifeq C d_L_law_308 (Or.inr ⟨hz, rfl⟩) ?_
        refine c_iconst C d_L_law_311 1 ?_
        refine c_goto C d_L_law_312 ?_
        obtain ⟨r, S1, M1, hN, hM, hR1⟩ := OK.2.2.2.2.2.1 S M hR (xs (j + 1)) (1) (Or.inr rfl)
        refine l_callN C d_L_law_316 wd567 cm_N_shield [.int (xs (j + 1)), .int 1] rfl rfl ⟨(Nat.le_of_ble_eq_true rfl), (Nat.le_of_ble_eq_true rfl)⟩ (by decide) (Nat.le_of_ble_eq_true rfl) hwN (m_N_shield hN) ?_
        refine c_aload_n C d_L_law_319 2 rfl ?_
        refine c_aload_n C d_L_law_320 0 rfl ?_
        refine c_iload_n C d_L_law_321 3 rfl ?_
        refine c_iconst C d_L_law_322 1 ?_
        refine l_iadd C (nI (j + 1)) d_L_law_323 hj1 ?_
        refine l_sld C X d_L_law_324 (j + 1) ⟨by omega, by omega⟩ ?_
        refine c_aload_n C d_L_law_325 0 rfl ?_
        refine c_iload_n C d_L_law_326 3 rfl ?_
        refine c_iconst C d_L_law_327 2 ?_
        refine l_iadd C (nI (j + 2)) d_L_law_328 hj2 ?_
        refine l_sld C X d_L_law_329 (j + 2) ⟨by omega, by omega⟩ ?_
        refine l_ifeq C d_L_law_330 (Or.inr ⟨hz, rfl⟩) ?_
        refine c_iconst C d_L_law_333 1 ?_
        refine c_goto C d_L_law_334 ?_
        refine l_callM C d_L_law_338 wd1147 cm_M_shield [.int (xs (j + 1)), .int 1] rfl rfl ⟨(Nat.le_of_ble_eq_true rfl), (Nat.le_of_ble_eq_true rfl)⟩ (by decide) (Nat.le_of_ble_eq_true rfl) hwM (m_M_shield hM) ?_
        refine l_icmpeq C d_L_law_341 ?_
        exact hback S1 M1 hR1
    by_cases q6 : xs j &&& 31 = 6
    · refine l_tin C d_L_law_32 (q := 6) (t := 346) q6 (by decide) (by decide) rfl (by decide) ?_
      refine c_aload_n C d_L_law_346 1 rfl ?_
      refine c_aload_n C d_L_law_347 0 rfl ?_
      refine c_iload_n C d_L_law_348 3 rfl ?_
      refine c_iconst C d_L_law_349 1 ?_
      refine l_iadd C (nI (j + 1)) d_L_law_350 hj1 ?_
      refine l_sld C X d_L_law_351 (j + 1) ⟨by omega, by omega⟩ ?_
      refine c_aload_n C d_L_law_352 0 rfl ?_
      refine c_iload_n C d_L_law_353 3 rfl ?_
      refine c_iconst C d_L_law_354 2 ?_
      refine l_iadd C (nI (j + 2)) d_L_law_355 hj2 ?_
      refine l_sld C X d_L_law_356 (j + 2) ⟨by omega, by omega⟩ ?_
      obtain ⟨r, hN, hM, hR1⟩ := OK.2.2.2.2.2.2.1 S M hR (xs (j + 1)) (xs (j + 2)) 
      refine l_callN C d_L_law_357 wd574 cm_N_at [.int (xs (j + 1)), .int (xs (j + 2))] rfl rfl ⟨(Nat.le_of_ble_eq_true rfl), (Nat.le_of_ble_eq_true rfl)⟩ (by decide) (Nat.le_of_ble_eq_true rfl) hwN (m_N_at hN) ?_
      refine c_aload_n C d_L_law_360 2 rfl ?_
      refine c_aload_n C d_L_law_361 0 rfl ?_
      refine c_iload_n C d_L_law_362 3 rfl ?_
      refine c_iconst C d_L_law_363 1 ?_
      refine l_iadd C (nI (j + 1)) d_L_law_364 hj1 ?_
      refine l_sld C X d_L_law_365 (j + 1) ⟨by omega, by omega⟩ ?_
      refine c_aload_n C d_L_law_366 0 rfl ?_
      refine c_iload_n C d_L_law_367 3 rfl ?_
      refine c_iconst C d_L_law_368 2 ?_
      refine l_iadd C (nI (j + 2)) d_L_law_369 hj2 ?_
      refine l_sld C X d_L_law_370 (j + 2) ⟨by omega, by omega⟩ ?_
      refine l_callM C d_L_law_371 wd1151 cm_M_at [.int (xs (j + 1)), .int (xs (j + 2))] rfl rfl ⟨(Nat.le_of_ble_eq_true rfl), (Nat.le_of_ble_eq_true rfl)⟩ (by decide) (Nat.le_of_ble_eq_true rfl) hwM (m_M_at hM) ?_
      refine l_icmpeq C d_L_law_374 ?_
      exact hback S M hR1
    by_cases q7 : xs j &&& 31 = 7
    · refine l_tin C d_L_law_32 (q := 7) (t := 379) q7 (by decide) (by decide) rfl (by decide) ?_
      refine c_aload_n C d_L_law_379 1 rfl ?_
      refine c_aload_n C d_L_law_380 0 rfl ?_
      refine c_iload_n C d_L_law_381 3 rfl ?_
      refine c_iconst C d_L_law_382 1 ?_
      refine l_iadd C (nI (j + 1)) d_L_law_383 hj1 ?_
      refine l_sld C X d_L_law_384 (j + 1) ⟨by omega, by omega⟩ ?_
      refine c_aload_n C d_L_law_385 0 rfl ?_
      refine c_iload_n C d_L_law_386 3 rfl ?_
      refine c_iconst C d_L_law_387 2 ?_
      refine l_iadd C (nI (j + 2)) d_L_law_388 hj2 ?_
      refine l_sld C X d_L_law_389 (j + 2) ⟨by omega, by omega⟩ ?_
      refine c_aload_n C d_L_law_390 0 rfl ?_
      refine c_iload_n C d_L_law_391 3 rfl ?_
      refine c_iconst C d_L_law_392 3 ?_
      refine l_iadd C (nI (j + 3)) d_L_law_393 hj3 ?_
      refine l_sld C X d_L_law_394 (j + 3) ⟨by omega, by omega⟩ ?_
      obtain ⟨r, S1, M1, hN, hM, hR1⟩ := OK.2.2.2.2.2.2.2.1 S M hR (xs (j + 1)) (xs (j + 2)) (xs (j + 3)) 
      refine l_callN C d_L_law_395 wd583 cm_N_change [.int (xs (j + 1)), .int (xs (j + 2)), .int (xs (j + 3))] rfl rfl ⟨(Nat.le_of_ble_eq_true rfl), (Nat.le_of_ble_eq_true rfl)⟩ (by decide) (Nat.le_of_ble_eq_true rfl) hwN (m_N_change hN) ?_
      refine c_aload_n C d_L_law_398 2 rfl ?_
      refine c_aload_n C d_L_law_399 0 rfl ?_
      refine c_iload_n C d_L_law_400 3 rfl ?_
      refine c_iconst C d_L_law_401 1 ?_
      refine l_iadd C (nI (j + 1)) d_L_law_402 hj1 ?_
      refine l_sld C X d_L_law_403 (j + 1) ⟨by omega, by omega⟩ ?_
      refine c_aload_n C d_L_law_404 0 rfl ?_
      refine c_iload_n C d_L_law_405 3 rfl ?_
      refine c_iconst C d_L_law_406 2 ?_
      refine l_iadd C (nI (j + 2)) d_L_law_407 hj2 ?_
      refine l_sld C X d_L_law_408 (j + 2) ⟨by omega, by omega⟩ ?_
      refine c_aload_n C d_L_law_409 0 rfl ?_
      refine c_iload_n C d_L_law_410 3 rfl ?_
      refine c_iconst C d_L_law_411 3 ?_
      refine l_iadd C (nI (j + 3)) d_L_law_412 hj3 ?_
      refine l_sld C X d_L_law_413 (j + 3) ⟨by omega, by omega⟩ ?_
      refine l_callM C d_L_law_414 wd1155 cm_M_change [.int (xs (j + 1)), .int (xs (j + 2)), .int (xs (j + 3))] rfl rfl ⟨(Nat.le_of_ble_eq_true rfl), (Nat.le_of_ble_eq_true rfl)⟩ (by decide) (Nat.le_of_ble_eq_true rfl) hwM (m_M_change hM) ?_
      refine l_icmpeq C d_L_law_417 ?_
      exact hback S1 M1 hR1
    by_cases q8 : xs j &&& 31 = 8
    · refine l_tin C d_L_law_32 (q := 8) (t := 422) q8 (by decide) (by decide) rfl (by decide) ?_
      refine c_aload_n C d_L_law_422 1 rfl ?_
      refine c_aload_n C d_L_law_423 0 rfl ?_
      refine c_iload_n C d_L_law_424 3 rfl ?_
      refine c_iconst C d_L_law_425 1 ?_
      refine l_iadd C (nI (j + 1)) d_L_law_426 hj1 ?_
      refine l_sld C X d_L_law_427 (j + 1) ⟨by omega, by omega⟩ ?_
      refine c_aload_n C d_L_law_428 0 rfl ?_
      refine c_iload_n C d_L_law_429 3 rfl ?_
      refine c_iconst C d_L_law_430 2 ?_
      refine l_iadd C (nI (j + 2)) d_L_law_431 hj2 ?_
      refine l_sld C X d_L_law_432 (j + 2) ⟨by omega, by omega⟩ ?_
      refine c_aload_n C d_L_law_433 0 rfl ?_
      refine c_iload_n C d_L_law_434 3 rfl ?_
      refine c_iconst C d_L_law_435 3 ?_
      refine l_iadd C (nI (j + 3)) d_L_law_436 hj3 ?_
      refine l_sld C X d_L_law_437 (j + 3) ⟨by omega, by omega⟩ ?_
      obtain ⟨r, S1, M1, hN, hM, hR1⟩ := OK.2.2.2.2.2.2.2.2.1 S M hR (xs (j + 1)) (xs (j + 2)) (xs (j + 3)) 
      refine l_callN C d_L_law_438 wd624 cm_N_slow [.int (xs (j + 1)), .int (xs (j + 2)), .int (xs (j + 3))] rfl rfl ⟨(Nat.le_of_ble_eq_true rfl), (Nat.le_of_ble_eq_true rfl)⟩ (by decide) (Nat.le_of_ble_eq_true rfl) hwN (m_N_slow hN) ?_
      refine c_aload_n C d_L_law_441 2 rfl ?_
      refine c_aload_n C d_L_law_442 0 rfl ?_
      refine c_iload_n C d_L_law_443 3 rfl ?_
      refine c_iconst C d_L_law_444 1 ?_
      refine l_iadd C (nI (j + 1)) d_L_law_445 hj1 ?_
      refine l_sld C X d_L_law_446 (j + 1) ⟨by omega, by omega⟩ ?_
      refine c_aload_n C d_L_law_447 0 rfl ?_
      refine c_iload_n C d_L_law_448 3 rfl ?_
      refine c_iconst C d_L_law_449 2 ?_
      refine l_iadd C (nI (j + 2)) d_L_law_450 hj2 ?_
      refine l_sld C X d_L_law_451 (j + 2) ⟨by omega, by omega⟩ ?_
      refine c_aload_n C d_L_law_452 0 rfl ?_
      refine c_iload_n C d_L_law_453 3 rfl ?_
      refine c_iconst C d_L_law_454 3 ?_
      refine l_iadd C (nI (j + 3)) d_L_law_455 hj3 ?_
      refine l_sld C X d_L_law_456 (j + 3) ⟨by omega, by omega⟩ ?_
      refine l_callM C d_L_law_457 wd1203 cm_M_slow [.int (xs (j + 1)), .int (xs (j + 2)), .int (xs (j + 3))] rfl rfl ⟨(Nat.le_of_ble_eq_true rfl), (Nat.le_of_ble_eq_true rfl)⟩ (by decide) (Nat.le_of_ble_eq_true rfl) hwM (m_M_slow hM) ?_
      refine l_icmpeq C d_L_law_460 ?_
      exact hback S1 M1 hR1
    by_cases q9 : xs j &&& 31 = 9
    · refine l_tin C d_L_law_32 (q := 9) (t := 465) q9 (by decide) (by decide) rfl (by decide) ?_
      refine c_aload_n C d_L_law_465 1 rfl ?_
      refine c_aload_n C d_L_law_466 0 rfl ?_
      refine c_iload_n C d_L_law_467 3 rfl ?_
      refine c_iconst C d_L_law_468 1 ?_
      refine l_iadd C (nI (j + 1)) d_L_law_469 hj1 ?_
      refine l_sld C X d_L_law_470 (j + 1) ⟨by omega, by omega⟩ ?_
      obtain ⟨r, S1, M1, hN, hM, hR1⟩ := OK.2.2.2.2.2.2.2.2.2.1 S M hR (xs (j + 1)) 
      refine l_callN C d_L_law_471 wd640 cm_N_send [.int (xs (j + 1))] rfl rfl ⟨(Nat.le_of_ble_eq_true rfl), (Nat.le_of_ble_eq_true rfl)⟩ (by decide) (Nat.le_of_ble_eq_true rfl) hwN (m_N_send hN) ?_
      refine c_aload_n C d_L_law_474 2 rfl ?_
      refine c_aload_n C d_L_law_475 0 rfl ?_
      refine c_iload_n C d_L_law_476 3 rfl ?_
      refine c_iconst C d_L_law_477 1 ?_
      refine l_iadd C (nI (j + 1)) d_L_law_478 hj1 ?_
      refine l_sld C X d_L_law_479 (j + 1) ⟨by omega, by omega⟩ ?_
      refine l_callM C d_L_law_480 wd1207 cm_M_send [.int (xs (j + 1))] rfl rfl ⟨(Nat.le_of_ble_eq_true rfl), (Nat.le_of_ble_eq_true rfl)⟩ (by decide) (Nat.le_of_ble_eq_true rfl) hwM (m_M_send hM) ?_
      refine l_icmpeq C d_L_law_483 ?_
      exact hback S1 M1 hR1
    by_cases q10 : xs j &&& 31 = 10
    · refine l_tin C d_L_law_32 (q := 10) (t := 488) q10 (by decide) (by decide) rfl (by decide) ?_
      refine c_aload_n C d_L_law_488 1 rfl ?_
      obtain ⟨r, S1, M1, hN, hM, hR1⟩ := OK.2.2.2.2.2.2.2.2.2.2.1 S M hR  
      refine l_callN C d_L_law_489 wd645 cm_N_empty [] rfl rfl ⟨(Nat.le_of_ble_eq_true rfl), (Nat.le_of_ble_eq_true rfl)⟩ (by decide) (Nat.le_of_ble_eq_true rfl) hwN (m_N_empty hN) ?_
      refine c_aload_n C d_L_law_492 2 rfl ?_
      refine l_callM C d_L_law_493 wd1211 cm_M_empty [] rfl rfl ⟨(Nat.le_of_ble_eq_true rfl), (Nat.le_of_ble_eq_true rfl)⟩ (by decide) (Nat.le_of_ble_eq_true rfl) hwM (m_M_empty hM) ?_
      refine l_icmpeq C d_L_law_496 ?_
      exact hback S1 M1 hR1
    by_cases q11 : xs j &&& 31 = 11
    · refine l_tin C d_L_law_32 (q := 11) (t := 501) q11 (by decide) (by decide) rfl (by decide) ?_
      refine c_aload_n C d_L_law_501 1 rfl ?_
      refine c_aload_n C d_L_law_502 0 rfl ?_
      refine c_iload_n C d_L_law_503 3 rfl ?_
      refine c_iconst C d_L_law_504 1 ?_
      refine l_iadd C (nI (j + 1)) d_L_law_505 hj1 ?_
      refine l_sld C X d_L_law_506 (j + 1) ⟨by omega, by omega⟩ ?_
      obtain ⟨r, hN, hM, hR1⟩ := OK.2.2.2.2.2.2.2.2.2.2.2.1 S M hR (xs (j + 1)) 
      refine l_callN C d_L_law_507 wd649 cm_N_sent [.int (xs (j + 1))] rfl rfl ⟨(Nat.le_of_ble_eq_true rfl), (Nat.le_of_ble_eq_true rfl)⟩ (by decide) (Nat.le_of_ble_eq_true rfl) hwN (m_N_sent hN) ?_
      refine c_aload_n C d_L_law_510 2 rfl ?_
      refine c_aload_n C d_L_law_511 0 rfl ?_
      refine c_iload_n C d_L_law_512 3 rfl ?_
      refine c_iconst C d_L_law_513 1 ?_
      refine l_iadd C (nI (j + 1)) d_L_law_514 hj1 ?_
      refine l_sld C X d_L_law_515 (j + 1) ⟨by omega, by omega⟩ ?_
      refine l_callM C d_L_law_516 wd1215 cm_M_sent [.int (xs (j + 1))] rfl rfl ⟨(Nat.le_of_ble_eq_true rfl), (Nat.le_of_ble_eq_true rfl)⟩ (by decide) (Nat.le_of_ble_eq_true rfl) hwM (m_M_sent hM) ?_
      refine l_icmpeq C d_L_law_519 ?_
      exact hback S M hR1
    by_cases q12 : xs j &&& 31 = 12
    · refine l_tin C d_L_law_32 (q := 12) (t := 524) q12 (by decide) (by decide) rfl (by decide) ?_
      refine c_aload_n C d_L_law_524 1 rfl ?_
      refine c_aload_n C d_L_law_525 0 rfl ?_
      refine c_iload_n C d_L_law_526 3 rfl ?_
      refine c_iconst C d_L_law_527 1 ?_
      refine l_iadd C (nI (j + 1)) d_L_law_528 hj1 ?_
      refine l_sld C X d_L_law_529 (j + 1) ⟨by omega, by omega⟩ ?_
      obtain ⟨r, S1, M1, hN, hM, hR1⟩ := OK.2.2.2.2.2.2.2.2.2.2.2.2.1 S M hR (xs (j + 1)) 
      refine l_callN C d_L_law_530 wd657 cm_N_row [.int (xs (j + 1))] rfl rfl ⟨(Nat.le_of_ble_eq_true rfl), (Nat.le_of_ble_eq_true rfl)⟩ (by decide) (Nat.le_of_ble_eq_true rfl) hwN (m_N_row hN) ?_
      refine c_aload_n C d_L_law_533 2 rfl ?_
      refine c_aload_n C d_L_law_534 0 rfl ?_
      refine c_iload_n C d_L_law_535 3 rfl ?_
      refine c_iconst C d_L_law_536 1 ?_
      refine l_iadd C (nI (j + 1)) d_L_law_537 hj1 ?_
      refine l_sld C X d_L_law_538 (j + 1) ⟨by omega, by omega⟩ ?_
      refine l_callM C d_L_law_539 wd1219 cm_M_row [.int (xs (j + 1))] rfl rfl ⟨(Nat.le_of_ble_eq_true rfl), (Nat.le_of_ble_eq_true rfl)⟩ (by decide) (Nat.le_of_ble_eq_true rfl) hwM (m_M_row hM) ?_
      refine l_icmpeq C d_L_law_542 ?_
      exact hback S1 M1 hR1
    by_cases q13 : xs j &&& 31 = 13
    · refine l_tin C d_L_law_32 (q := 13) (t := 547) q13 (by decide) (by decide) rfl (by decide) ?_
      refine c_aload_n C d_L_law_547 1 rfl ?_
      refine c_aload_n C d_L_law_548 0 rfl ?_
      refine c_iload_n C d_L_law_549 3 rfl ?_
      refine c_iconst C d_L_law_550 1 ?_
      refine l_iadd C (nI (j + 1)) d_L_law_551 hj1 ?_
      refine l_sld C X d_L_law_552 (j + 1) ⟨by omega, by omega⟩ ?_
      obtain ⟨r, S1, M1, hN, hM, hR1⟩ := OK.2.2.2.2.2.2.2.2.2.2.2.2.2.1 S M hR (xs (j + 1)) 
      refine l_callN C d_L_law_553 wd664 cm_N_best [.int (xs (j + 1))] rfl rfl ⟨(Nat.le_of_ble_eq_true rfl), (Nat.le_of_ble_eq_true rfl)⟩ (by decide) (Nat.le_of_ble_eq_true rfl) hwN (m_N_best hN) ?_
      refine c_aload_n C d_L_law_556 2 rfl ?_
      refine c_aload_n C d_L_law_557 0 rfl ?_
      refine c_iload_n C d_L_law_558 3 rfl ?_
      refine c_iconst C d_L_law_559 1 ?_
      refine l_iadd C (nI (j + 1)) d_L_law_560 hj1 ?_
      refine l_sld C X d_L_law_561 (j + 1) ⟨by omega, by omega⟩ ?_
      refine l_callM C d_L_law_562 wd1230 cm_M_best [.int (xs (j + 1))] rfl rfl ⟨(Nat.le_of_ble_eq_true rfl), (Nat.le_of_ble_eq_true rfl)⟩ (by decide) (Nat.le_of_ble_eq_true rfl) hwM (m_M_best hM) ?_
      refine l_icmpeq C d_L_law_565 ?_
      exact hback S1 M1 hR1
    by_cases q14 : xs j &&& 31 = 14
    · refine l_tin C d_L_law_32 (q := 14) (t := 570) q14 (by decide) (by decide) rfl (by decide) ?_
      refine c_aload_n C d_L_law_570 1 rfl ?_
      refine c_aload_n C d_L_law_571 0 rfl ?_
      refine c_iload_n C d_L_law_572 3 rfl ?_
      refine c_iconst C d_L_law_573 1 ?_
      refine l_iadd C (nI (j + 1)) d_L_law_574 hj1 ?_
      refine l_sld C X d_L_law_575 (j + 1) ⟨by omega, by omega⟩ ?_
      refine c_aload_n C d_L_law_576 0 rfl ?_
      refine c_iload_n C d_L_law_577 3 rfl ?_
      refine c_iconst C d_L_law_578 2 ?_
      refine l_iadd C (nI (j + 2)) d_L_law_579 hj2 ?_
      refine l_sld C X d_L_law_580 (j + 2) ⟨by omega, by omega⟩ ?_
      obtain ⟨r, S1, M1, hN, hM, hR1⟩ := OK.2.2.2.2.2.2.2.2.2.2.2.2.2.2.1 S M hR (xs (j + 1)) (xs (j + 2)) 
      refine l_callN C d_L_law_581 wd715 cm_N_shields [.int (xs (j + 1)), .int (xs (j + 2))] rfl rfl ⟨(Nat.le_of_ble_eq_true rfl), (Nat.le_of_ble_eq_true rfl)⟩ (by decide) (Nat.le_of_ble_eq_true rfl) hwN (m_N_shields hN) ?_
      refine c_aload_n C d_L_law_584 2 rfl ?_
      refine c_aload_n C d_L_law_585 0 rfl ?_
      refine c_iload_n C d_L_law_586 3 rfl ?_
      refine c_iconst C d_L_law_587 1 ?_
      refine l_iadd C (nI (j + 1)) d_L_law_588 hj1 ?_
      refine l_sld C X d_L_law_589 (j + 1) ⟨by omega, by omega⟩ ?_
      refine c_aload_n C d_L_law_590 0 rfl ?_
      refine c_iload_n C d_L_law_591 3 rfl ?_
      refine c_iconst C d_L_law_592 2 ?_
      refine l_iadd C (nI (j + 2)) d_L_law_593 hj2 ?_
      refine l_sld C X d_L_law_594 (j + 2) ⟨by omega, by omega⟩ ?_
      refine l_callM C d_L_law_595 wd1243 cm_M_shields [.int (xs (j + 1)), .int (xs (j + 2))] rfl rfl ⟨(Nat.le_of_ble_eq_true rfl), (Nat.le_of_ble_eq_true rfl)⟩ (by decide) (Nat.le_of_ble_eq_true rfl) hwM (m_M_shields hM) ?_
      refine l_icmpeq C d_L_law_598 ?_
      exact hback S1 M1 hR1
    by_cases q15 : xs j &&& 31 = 15
    · refine l_tin C d_L_law_32 (q := 15) (t := 603) q15 (by decide) (by decide) rfl (by decide) ?_
      refine c_aload_n C d_L_law_603 1 rfl ?_
      refine c_aload_n C d_L_law_604 0 rfl ?_
      refine c_iload_n C d_L_law_605 3 rfl ?_
      refine c_iconst C d_L_law_606 1 ?_
      refine l_iadd C (nI (j + 1)) d_L_law_607 hj1 ?_
      refine l_sld C X d_L_law_608 (j + 1) ⟨by omega, by omega⟩ ?_
      refine c_aload_n C d_L_law_609 0 rfl ?_
      refine c_iload_n C d_L_law_610 3 rfl ?_
      refine c_iconst C d_L_law_611 2 ?_
      refine l_iadd C (nI (j + 2)) d_L_law_612 hj2 ?_
      refine l_sld C X d_L_law_613 (j + 2) ⟨by omega, by omega⟩ ?_
      obtain ⟨r, S1, M1, hN, hM, hR1⟩ := OK.2.2.2.2.2.2.2.2.2.2.2.2.2.2.2.1 S M hR (xs (j + 1)) (xs (j + 2)) 
      refine l_callN C d_L_law_614 wd741 cm_N_turned [.int (xs (j + 1)), .int (xs (j + 2))] rfl rfl ⟨(Nat.le_of_ble_eq_true rfl), (Nat.le_of_ble_eq_true rfl)⟩ (by decide) (Nat.le_of_ble_eq_true rfl) hwN (m_N_turned hN) ?_
      refine c_aload_n C d_L_law_617 2 rfl ?_
      refine c_aload_n C d_L_law_618 0 rfl ?_
      refine c_iload_n C d_L_law_619 3 rfl ?_
      refine c_iconst C d_L_law_620 1 ?_
      refine l_iadd C (nI (j + 1)) d_L_law_621 hj1 ?_
      refine l_sld C X d_L_law_622 (j + 1) ⟨by omega, by omega⟩ ?_
      refine c_aload_n C d_L_law_623 0 rfl ?_
      refine c_iload_n C d_L_law_624 3 rfl ?_
      refine c_iconst C d_L_law_625 2 ?_
      refine l_iadd C (nI (j + 2)) d_L_law_626 hj2 ?_
      refine l_sld C X d_L_law_627 (j + 2) ⟨by omega, by omega⟩ ?_
      refine l_callM C d_L_law_628 wd1250 cm_M_turned [.int (xs (j + 1)), .int (xs (j + 2))] rfl rfl ⟨(Nat.le_of_ble_eq_true rfl), (Nat.le_of_ble_eq_true rfl)⟩ (by decide) (Nat.le_of_ble_eq_true rfl) hwM (m_M_turned hM) ?_
      refine l_icmpeq C d_L_law_631 ?_
      exact hback S1 M1 hR1
    by_cases q16 : xs j &&& 31 = 16
    · refine l_tin C d_L_law_32 (q := 16) (t := 636) q16 (by decide) (by decide) rfl (by decide) ?_
      refine c_aload_n C d_L_law_636 1 rfl ?_
      refine c_aload_n C d_L_law_637 0 rfl ?_
      refine c_iload_n C d_L_law_638 3 rfl ?_
      refine c_iconst C d_L_law_639 1 ?_
      refine l_iadd C (nI (j + 1)) d_L_law_640 hj1 ?_
      refine l_sld C X d_L_law_641 (j + 1) ⟨by omega, by omega⟩ ?_
      obtain ⟨r, hN, hM, hR1⟩ := OK.2.2.2.2.2.2.2.2.2.2.2.2.2.2.2.2.1 S M hR (xs (j + 1)) 
      refine l_callN C d_L_law_642 wd772 cm_N_book [.int (xs (j + 1))] rfl rfl ⟨(Nat.le_of_ble_eq_true rfl), (Nat.le_of_ble_eq_true rfl)⟩ (by decide) (Nat.le_of_ble_eq_true rfl) hwN (m_N_book hN) ?_
      refine c_aload_n C d_L_law_645 2 rfl ?_
      refine c_aload_n C d_L_law_646 0 rfl ?_
      refine c_iload_n C d_L_law_647 3 rfl ?_
      refine c_iconst C d_L_law_648 1 ?_
      refine l_iadd C (nI (j + 1)) d_L_law_649 hj1 ?_
      refine l_sld C X d_L_law_650 (j + 1) ⟨by omega, by omega⟩ ?_
      refine l_callM C d_L_law_651 wd1274 cm_M_book [.int (xs (j + 1))] rfl rfl ⟨(Nat.le_of_ble_eq_true rfl), (Nat.le_of_ble_eq_true rfl)⟩ (by decide) (Nat.le_of_ble_eq_true rfl) hwM (m_M_book hM) ?_
      refine l_icmpeq C d_L_law_654 ?_
      exact hback S M hR1
    by_cases q17 : xs j &&& 31 = 17
    · refine l_tin C d_L_law_32 (q := 17) (t := 659) q17 (by decide) (by decide) rfl (by decide) ?_
      refine c_aload_n C d_L_law_659 1 rfl ?_
      refine c_aload_n C d_L_law_660 0 rfl ?_
      refine c_iload_n C d_L_law_661 3 rfl ?_
      refine c_iconst C d_L_law_662 1 ?_
      refine l_iadd C (nI (j + 1)) d_L_law_663 hj1 ?_
      refine l_sld C X d_L_law_664 (j + 1) ⟨by omega, by omega⟩ ?_
      refine c_aload_n C d_L_law_665 0 rfl ?_
      refine c_iload_n C d_L_law_666 3 rfl ?_
      refine c_iconst C d_L_law_667 2 ?_
      refine l_iadd C (nI (j + 2)) d_L_law_668 hj2 ?_
      refine l_sld C X d_L_law_669 (j + 2) ⟨by omega, by omega⟩ ?_
      obtain ⟨r, hN, hM, hR1⟩ := OK.2.2.2.2.2.2.2.2.2.2.2.2.2.2.2.2.2.1 S M hR (xs (j + 1)) (xs (j + 2)) 
      refine l_callN C d_L_law_670 wd788 cm_N_word [.int (xs (j + 1)), .int (xs (j + 2))] rfl rfl ⟨(Nat.le_of_ble_eq_true rfl), (Nat.le_of_ble_eq_true rfl)⟩ (by decide) (Nat.le_of_ble_eq_true rfl) hwN (m_N_word hN) ?_
      refine c_aload_n C d_L_law_673 2 rfl ?_
      refine c_aload_n C d_L_law_674 0 rfl ?_
      refine c_iload_n C d_L_law_675 3 rfl ?_
      refine c_iconst C d_L_law_676 1 ?_
      refine l_iadd C (nI (j + 1)) d_L_law_677 hj1 ?_
      refine l_sld C X d_L_law_678 (j + 1) ⟨by omega, by omega⟩ ?_
      refine c_aload_n C d_L_law_679 0 rfl ?_
      refine c_iload_n C d_L_law_680 3 rfl ?_
      refine c_iconst C d_L_law_681 2 ?_
      refine l_iadd C (nI (j + 2)) d_L_law_682 hj2 ?_
      refine l_sld C X d_L_law_683 (j + 2) ⟨by omega, by omega⟩ ?_
      refine l_callM C d_L_law_684 wd1282 cm_M_word [.int (xs (j + 1)), .int (xs (j + 2))] rfl rfl ⟨(Nat.le_of_ble_eq_true rfl), (Nat.le_of_ble_eq_true rfl)⟩ (by decide) (Nat.le_of_ble_eq_true rfl) hwM (m_M_word hM) ?_
      refine l_icmpeq C d_L_law_687 ?_
      exact hback S M hR1
    by_cases q18 : xs j &&& 31 = 18
    · refine l_tin C d_L_law_32 (q := 18) (t := 692) q18 (by decide) (by decide) rfl (by decide) ?_
      refine c_aload_n C d_L_law_692 1 rfl ?_
      refine c_aload_n C d_L_law_693 0 rfl ?_
      refine c_iload_n C d_L_law_694 3 rfl ?_
      refine c_iconst C d_L_law_695 1 ?_
      refine l_iadd C (nI (j + 1)) d_L_law_696 hj1 ?_
      refine l_sld C X d_L_law_697 (j + 1) ⟨by omega, by omega⟩ ?_
      refine c_aload_n C d_L_law_698 0 rfl ?_
      refine c_iload_n C d_L_law_699 3 rfl ?_
      refine c_iconst C d_L_law_700 2 ?_
      refine l_iadd C (nI (j + 2)) d_L_law_701 hj2 ?_
      refine l_sld C X d_L_law_702 (j + 2) ⟨by omega, by omega⟩ ?_
      obtain ⟨r, hN, hM, hR1⟩ := OK.2.2.2.2.2.2.2.2.2.2.2.2.2.2.2.2.2.2.1 S M hR (xs (j + 1)) (xs (j + 2)) 
      refine l_callN C d_L_law_703 wd792 cm_N_place [.int (xs (j + 1)), .int (xs (j + 2))] rfl rfl ⟨(Nat.le_of_ble_eq_true rfl), (Nat.le_of_ble_eq_true rfl)⟩ (by decide) (Nat.le_of_ble_eq_true rfl) hwN (m_N_place hN) ?_
      refine c_aload_n C d_L_law_706 2 rfl ?_
      refine c_aload_n C d_L_law_707 0 rfl ?_
      refine c_iload_n C d_L_law_708 3 rfl ?_
      refine c_iconst C d_L_law_709 1 ?_
      refine l_iadd C (nI (j + 1)) d_L_law_710 hj1 ?_
      refine l_sld C X d_L_law_711 (j + 1) ⟨by omega, by omega⟩ ?_
      refine c_aload_n C d_L_law_712 0 rfl ?_
      refine c_iload_n C d_L_law_713 3 rfl ?_
      refine c_iconst C d_L_law_714 2 ?_
      refine l_iadd C (nI (j + 2)) d_L_law_715 hj2 ?_
      refine l_sld C X d_L_law_716 (j + 2) ⟨by omega, by omega⟩ ?_
      refine l_callM C d_L_law_717 wd1286 cm_M_place [.int (xs (j + 1)), .int (xs (j + 2))] rfl rfl ⟨(Nat.le_of_ble_eq_true rfl), (Nat.le_of_ble_eq_true rfl)⟩ (by decide) (Nat.le_of_ble_eq_true rfl) hwM (m_M_place hM) ?_
      refine l_icmpeq C d_L_law_720 ?_
      exact hback S M hR1
    by_cases q19 : xs j &&& 31 = 19
    · refine l_tin C d_L_law_32 (q := 19) (t := 725) q19 (by decide) (by decide) rfl (by decide) ?_
      refine c_aload_n C d_L_law_725 1 rfl ?_
      refine c_aload_n C d_L_law_726 0 rfl ?_
      refine c_iload_n C d_L_law_727 3 rfl ?_
      refine c_iconst C d_L_law_728 1 ?_
      refine l_iadd C (nI (j + 1)) d_L_law_729 hj1 ?_
      refine l_sld C X d_L_law_730 (j + 1) ⟨by omega, by omega⟩ ?_
      obtain ⟨r, S1, M1, hN, hM, hR1⟩ := OK.2.2.2.2.2.2.2.2.2.2.2.2.2.2.2.2.2.2.2.1 S M hR (xs (j + 1)) 
      refine l_callN C d_L_law_731 wd796 cm_N_slowest [.int (xs (j + 1))] rfl rfl ⟨(Nat.le_of_ble_eq_true rfl), (Nat.le_of_ble_eq_true rfl)⟩ (by decide) (Nat.le_of_ble_eq_true rfl) hwN (m_N_slowest hN) ?_
      refine c_aload_n C d_L_law_734 2 rfl ?_
      refine c_aload_n C d_L_law_735 0 rfl ?_
      refine c_iload_n C d_L_law_736 3 rfl ?_
      refine c_iconst C d_L_law_737 1 ?_
      refine l_iadd C (nI (j + 1)) d_L_law_738 hj1 ?_
      refine l_sld C X d_L_law_739 (j + 1) ⟨by omega, by omega⟩ ?_
      refine l_callM C d_L_law_740 wd1290 cm_M_slowest [.int (xs (j + 1))] rfl rfl ⟨(Nat.le_of_ble_eq_true rfl), (Nat.le_of_ble_eq_true rfl)⟩ (by decide) (Nat.le_of_ble_eq_true rfl) hwM (m_M_slowest hM) ?_
      refine l_icmpeq C d_L_law_743 ?_
      exact hback S1 M1 hR1
    by_cases q20 : xs j &&& 31 = 20
    · refine l_tin C d_L_law_32 (q := 20) (t := 748) q20 (by decide) (by decide) rfl (by decide) ?_
      refine c_aload_n C d_L_law_748 1 rfl ?_
      refine c_aload_n C d_L_law_749 0 rfl ?_
      refine c_iload_n C d_L_law_750 3 rfl ?_
      refine c_iconst C d_L_law_751 1 ?_
      refine l_iadd C (nI (j + 1)) d_L_law_752 hj1 ?_
      refine l_sld C X d_L_law_753 (j + 1) ⟨by omega, by omega⟩ ?_
      refine c_aload_n C d_L_law_754 0 rfl ?_
      refine c_iload_n C d_L_law_755 3 rfl ?_
      refine c_iconst C d_L_law_756 2 ?_
      refine l_iadd C (nI (j + 2)) d_L_law_757 hj2 ?_
      refine l_sld C X d_L_law_758 (j + 2) ⟨by omega, by omega⟩ ?_
      obtain ⟨r, S1, M1, hN, hM, hR1⟩ := OK.2.2.2.2.2.2.2.2.2.2.2.2.2.2.2.2.2.2.2.2.1 S M hR (xs (j + 1)) (xs (j + 2)) 
      refine l_callN C d_L_law_759 wd804 cm_N_greatest [.int (xs (j + 1)), .int (xs (j + 2))] rfl rfl ⟨(Nat.le_of_ble_eq_true rfl), (Nat.le_of_ble_eq_true rfl)⟩ (by decide) (Nat.le_of_ble_eq_true rfl) hwN (m_N_greatest hN) ?_
      refine c_aload_n C d_L_law_762 2 rfl ?_
      refine c_aload_n C d_L_law_763 0 rfl ?_
      refine c_iload_n C d_L_law_764 3 rfl ?_
      refine c_iconst C d_L_law_765 1 ?_
      refine l_iadd C (nI (j + 1)) d_L_law_766 hj1 ?_
      refine l_sld C X d_L_law_767 (j + 1) ⟨by omega, by omega⟩ ?_
      refine c_aload_n C d_L_law_768 0 rfl ?_
      refine c_iload_n C d_L_law_769 3 rfl ?_
      refine c_iconst C d_L_law_770 2 ?_
      refine l_iadd C (nI (j + 2)) d_L_law_771 hj2 ?_
      refine l_sld C X d_L_law_772 (j + 2) ⟨by omega, by omega⟩ ?_
      refine l_callM C d_L_law_773 wd1298 cm_M_greatest [.int (xs (j + 1)), .int (xs (j + 2))] rfl rfl ⟨(Nat.le_of_ble_eq_true rfl), (Nat.le_of_ble_eq_true rfl)⟩ (by decide) (Nat.le_of_ble_eq_true rfl) hwM (m_M_greatest hM) ?_
      refine l_icmpeq C d_L_law_776 ?_
      exact hback S1 M1 hR1
    by_cases q21 : xs j &&& 31 = 21
    · refine l_tin C d_L_law_32 (q := 21) (t := 781) q21 (by decide) (by decide) rfl (by decide) ?_
      refine c_aload_n C d_L_law_781 1 rfl ?_
      refine c_aload_n C d_L_law_782 0 rfl ?_
      refine c_iload_n C d_L_law_783 3 rfl ?_
      refine c_iconst C d_L_law_784 1 ?_
      refine l_iadd C (nI (j + 1)) d_L_law_785 hj1 ?_
      refine l_sld C X d_L_law_786 (j + 1) ⟨by omega, by omega⟩ ?_
      refine c_aload_n C d_L_law_787 0 rfl ?_
      refine c_iload_n C d_L_law_788 3 rfl ?_
      refine c_iconst C d_L_law_789 2 ?_
      refine l_iadd C (nI (j + 2)) d_L_law_790 hj2 ?_
      refine l_sld C X d_L_law_791 (j + 2) ⟨by omega, by omega⟩ ?_
      obtain ⟨r, S1, M1, hN, hM, hR1⟩ := OK.2.2.2.2.2.2.2.2.2.2.2.2.2.2.2.2.2.2.2.2.2.1 S M hR (xs (j + 1)) (xs (j + 2)) 
      refine l_callN C d_L_law_792 wd833 cm_N_ways [.int (xs (j + 1)), .int (xs (j + 2))] rfl rfl ⟨(Nat.le_of_ble_eq_true rfl), (Nat.le_of_ble_eq_true rfl)⟩ (by decide) (Nat.le_of_ble_eq_true rfl) hwN (m_N_ways hN) ?_
      refine c_aload_n C d_L_law_795 2 rfl ?_
      refine c_aload_n C d_L_law_796 0 rfl ?_
      refine c_iload_n C d_L_law_797 3 rfl ?_
      refine c_iconst C d_L_law_798 1 ?_
      refine l_iadd C (nI (j + 1)) d_L_law_799 hj1 ?_
      refine l_sld C X d_L_law_800 (j + 1) ⟨by omega, by omega⟩ ?_
      refine c_aload_n C d_L_law_801 0 rfl ?_
      refine c_iload_n C d_L_law_802 3 rfl ?_
      refine c_iconst C d_L_law_803 2 ?_
      refine l_iadd C (nI (j + 2)) d_L_law_804 hj2 ?_
      refine l_sld C X d_L_law_805 (j + 2) ⟨by omega, by omega⟩ ?_
      refine l_callM C d_L_law_806 wd1302 cm_M_ways [.int (xs (j + 1)), .int (xs (j + 2))] rfl rfl ⟨(Nat.le_of_ble_eq_true rfl), (Nat.le_of_ble_eq_true rfl)⟩ (by decide) (Nat.le_of_ble_eq_true rfl) hwM (m_M_ways hM) ?_
      refine l_icmpeq C d_L_law_809 ?_
      exact hback S1 M1 hR1
    by_cases q22 : xs j &&& 31 = 22
    · refine l_tin C d_L_law_32 (q := 22) (t := 814) q22 (by decide) (by decide) rfl (by decide) ?_
      refine c_aload_n C d_L_law_814 1 rfl ?_
      refine c_aload_n C d_L_law_815 0 rfl ?_
      refine c_iload_n C d_L_law_816 3 rfl ?_
      refine c_iconst C d_L_law_817 1 ?_
      refine l_iadd C (nI (j + 1)) d_L_law_818 hj1 ?_
      refine l_sld C X d_L_law_819 (j + 1) ⟨by omega, by omega⟩ ?_
      refine c_aload_n C d_L_law_820 0 rfl ?_
      refine c_iload_n C d_L_law_821 3 rfl ?_
      refine c_iconst C d_L_law_822 2 ?_
      refine l_iadd C (nI (j + 2)) d_L_law_823 hj2 ?_
      refine l_sld C X d_L_law_824 (j + 2) ⟨by omega, by omega⟩ ?_
      refine c_aload_n C d_L_law_825 0 rfl ?_
      refine c_iload_n C d_L_law_826 3 rfl ?_
      refine c_iconst C d_L_law_827 3 ?_
      refine l_iadd C (nI (j + 3)) d_L_law_828 hj3 ?_
      refine l_sld C X d_L_law_829 (j + 3) ⟨by omega, by omega⟩ ?_
      obtain ⟨r, S1, M1, hN, hM, hR1⟩ := OK.2.2.2.2.2.2.2.2.2.2.2.2.2.2.2.2.2.2.2.2.2.2.1 S M hR (xs (j + 1)) (xs (j + 2)) (xs (j + 3)) 
      refine l_callN C d_L_law_830 wd851 cm_N_kept [.int (xs (j + 1)), .int (xs (j + 2)), .int (xs (j + 3))] rfl rfl ⟨(Nat.le_of_ble_eq_true rfl), (Nat.le_of_ble_eq_true rfl)⟩ (by decide) (Nat.le_of_ble_eq_true rfl) hwN (m_N_kept hN) ?_
      refine c_aload_n C d_L_law_833 2 rfl ?_
      refine c_aload_n C d_L_law_834 0 rfl ?_
      refine c_iload_n C d_L_law_835 3 rfl ?_
      refine c_iconst C d_L_law_836 1 ?_
      refine l_iadd C (nI (j + 1)) d_L_law_837 hj1 ?_
      refine l_sld C X d_L_law_838 (j + 1) ⟨by omega, by omega⟩ ?_
      refine c_aload_n C d_L_law_839 0 rfl ?_
      refine c_iload_n C d_L_law_840 3 rfl ?_
      refine c_iconst C d_L_law_841 2 ?_
      refine l_iadd C (nI (j + 2)) d_L_law_842 hj2 ?_
      refine l_sld C X d_L_law_843 (j + 2) ⟨by omega, by omega⟩ ?_
      refine c_aload_n C d_L_law_844 0 rfl ?_
      refine c_iload_n C d_L_law_845 3 rfl ?_
      refine c_iconst C d_L_law_846 3 ?_
      refine l_iadd C (nI (j + 3)) d_L_law_847 hj3 ?_
      refine l_sld C X d_L_law_848 (j + 3) ⟨by omega, by omega⟩ ?_
      refine l_callM C d_L_law_849 wd1318 cm_M_kept [.int (xs (j + 1)), .int (xs (j + 2)), .int (xs (j + 3))] rfl rfl ⟨(Nat.le_of_ble_eq_true rfl), (Nat.le_of_ble_eq_true rfl)⟩ (by decide) (Nat.le_of_ble_eq_true rfl) hwM (m_M_kept hM) ?_
      refine l_icmpeq C d_L_law_852 ?_
      exact hback S1 M1 hR1
    by_cases q23 : xs j &&& 31 = 23
    · refine l_tin C d_L_law_32 (q := 23) (t := 857) q23 (by decide) (by decide) rfl (by decide) ?_
      refine c_aload_n C d_L_law_857 1 rfl ?_
      refine c_aload_n C d_L_law_858 0 rfl ?_
      refine c_iload_n C d_L_law_859 3 rfl ?_
      refine c_iconst C d_L_law_860 1 ?_
      refine l_iadd C (nI (j + 1)) d_L_law_861 hj1 ?_
      refine l_sld C X d_L_law_862 (j + 1) ⟨by omega, by omega⟩ ?_
      obtain ⟨r, S1, M1, hN, hM, hR1⟩ := OK.2.2.2.2.2.2.2.2.2.2.2.2.2.2.2.2.2.2.2.2.2.2.2.1 S M hR (xs (j + 1)) 
      refine l_callN C d_L_law_863 wd891 cm_N_bits [.int (xs (j + 1))] rfl rfl ⟨(Nat.le_of_ble_eq_true rfl), (Nat.le_of_ble_eq_true rfl)⟩ (by decide) (Nat.le_of_ble_eq_true rfl) hwN (m_N_bits hN) ?_
      refine c_aload_n C d_L_law_866 2 rfl ?_
      refine c_aload_n C d_L_law_867 0 rfl ?_
      refine c_iload_n C d_L_law_868 3 rfl ?_
      refine c_iconst C d_L_law_869 1 ?_
      refine l_iadd C (nI (j + 1)) d_L_law_870 hj1 ?_
      refine l_sld C X d_L_law_871 (j + 1) ⟨by omega, by omega⟩ ?_
      refine l_callM C d_L_law_872 wd1331 cm_M_bits [.int (xs (j + 1))] rfl rfl ⟨(Nat.le_of_ble_eq_true rfl), (Nat.le_of_ble_eq_true rfl)⟩ (by decide) (Nat.le_of_ble_eq_true rfl) hwM (m_M_bits hM) ?_
      refine l_icmpeq C d_L_law_875 ?_
      exact hback S1 M1 hR1
    by_cases q24 : xs j &&& 31 = 24
    · refine l_tin C d_L_law_32 (q := 24) (t := 880) q24 (by decide) (by decide) rfl (by decide) ?_
      refine c_aload_n C d_L_law_880 1 rfl ?_
      refine c_aload_n C d_L_law_881 0 rfl ?_
      refine c_iload_n C d_L_law_882 3 rfl ?_
      refine c_iconst C d_L_law_883 1 ?_
      refine l_iadd C (nI (j + 1)) d_L_law_884 hj1 ?_
      refine l_sld C X d_L_law_885 (j + 1) ⟨by omega, by omega⟩ ?_
      refine c_aload_n C d_L_law_886 0 rfl ?_
      refine c_iload_n C d_L_law_887 3 rfl ?_
      refine c_iconst C d_L_law_888 2 ?_
      refine l_iadd C (nI (j + 2)) d_L_law_889 hj2 ?_
      refine l_sld C X d_L_law_890 (j + 2) ⟨by omega, by omega⟩ ?_
      refine c_aload_n C d_L_law_891 0 rfl ?_
      refine c_iload_n C d_L_law_892 3 rfl ?_
      refine c_iconst C d_L_law_893 3 ?_
      refine l_iadd C (nI (j + 3)) d_L_law_894 hj3 ?_
      refine l_sld C X d_L_law_895 (j + 3) ⟨by omega, by omega⟩ ?_
      refine c_aload_n C d_L_law_896 0 rfl ?_
      refine c_iload_n C d_L_law_897 3 rfl ?_
      refine c_iconst C d_L_law_898 4 ?_
      refine l_iadd C (nI (j + 4)) d_L_law_899 hj4 ?_
      refine l_sld C X d_L_law_900 (j + 4) ⟨by omega, by omega⟩ ?_
      obtain ⟨r, S1, M1, hN, hM, hR1⟩ := OK.2.2.2.2.2.2.2.2.2.2.2.2.2.2.2.2.2.2.2.2.2.2.2.2.1 S M hR (xs (j + 1)) (xs (j + 2)) (xs (j + 3)) (xs (j + 4)) 
      refine l_callN C d_L_law_901 wd895 cm_N_encode [.int (xs (j + 1)), .int (xs (j + 2)), .int (xs (j + 3)), .int (xs (j + 4))] rfl rfl ⟨(Nat.le_of_ble_eq_true rfl), (Nat.le_of_ble_eq_true rfl)⟩ (by decide) (Nat.le_of_ble_eq_true rfl) hwN (m_N_encode hN) ?_
      refine c_aload_n C d_L_law_904 2 rfl ?_
      refine c_aload_n C d_L_law_905 0 rfl ?_
      refine c_iload_n C d_L_law_906 3 rfl ?_
      refine c_iconst C d_L_law_907 1 ?_
      refine l_iadd C (nI (j + 1)) d_L_law_908 hj1 ?_
      refine l_sld C X d_L_law_909 (j + 1) ⟨by omega, by omega⟩ ?_
      refine c_aload_n C d_L_law_910 0 rfl ?_
      refine c_iload_n C d_L_law_911 3 rfl ?_
      refine c_iconst C d_L_law_912 2 ?_
      refine l_iadd C (nI (j + 2)) d_L_law_913 hj2 ?_
      refine l_sld C X d_L_law_914 (j + 2) ⟨by omega, by omega⟩ ?_
      refine c_aload_n C d_L_law_915 0 rfl ?_
      refine c_iload_n C d_L_law_916 3 rfl ?_
      refine c_iconst C d_L_law_917 3 ?_
      refine l_iadd C (nI (j + 3)) d_L_law_918 hj3 ?_
      refine l_sld C X d_L_law_919 (j + 3) ⟨by omega, by omega⟩ ?_
      refine c_aload_n C d_L_law_920 0 rfl ?_
      refine c_iload_n C d_L_law_921 3 rfl ?_
      refine c_iconst C d_L_law_922 4 ?_
      refine l_iadd C (nI (j + 4)) d_L_law_923 hj4 ?_
      refine l_sld C X d_L_law_924 (j + 4) ⟨by omega, by omega⟩ ?_
      refine l_callM C d_L_law_925 wd1335 cm_M_encode [.int (xs (j + 1)), .int (xs (j + 2)), .int (xs (j + 3)), .int (xs (j + 4))] rfl rfl ⟨(Nat.le_of_ble_eq_true rfl), (Nat.le_of_ble_eq_true rfl)⟩ (by decide) (Nat.le_of_ble_eq_true rfl) hwM (m_M_encode hM) ?_
      refine l_icmpeq C d_L_law_928 ?_
      exact hback S1 M1 hR1
    by_cases q25 : xs j &&& 31 = 25
    · refine l_tin C d_L_law_32 (q := 25) (t := 933) q25 (by decide) (by decide) rfl (by decide) ?_
      refine c_aload_n C d_L_law_933 1 rfl ?_
      refine c_aload_n C d_L_law_934 0 rfl ?_
      refine c_iload_n C d_L_law_935 3 rfl ?_
      refine c_iconst C d_L_law_936 1 ?_
      refine l_iadd C (nI (j + 1)) d_L_law_937 hj1 ?_
      refine l_sld C X d_L_law_938 (j + 1) ⟨by omega, by omega⟩ ?_
      refine c_aload_n C d_L_law_939 0 rfl ?_
      refine c_iload_n C d_L_law_940 3 rfl ?_
      refine c_iconst C d_L_law_941 2 ?_
      refine l_iadd C (nI (j + 2)) d_L_law_942 hj2 ?_
      refine l_sld C X d_L_law_943 (j + 2) ⟨by omega, by omega⟩ ?_
      refine c_aload_n C d_L_law_944 0 rfl ?_
      refine c_iload_n C d_L_law_945 3 rfl ?_
      refine c_iconst C d_L_law_946 3 ?_
      refine l_iadd C (nI (j + 3)) d_L_law_947 hj3 ?_
      refine l_sld C X d_L_law_948 (j + 3) ⟨by omega, by omega⟩ ?_
      refine c_aload_n C d_L_law_949 0 rfl ?_
      refine c_iload_n C d_L_law_950 3 rfl ?_
      refine c_iconst C d_L_law_951 4 ?_
      refine l_iadd C (nI (j + 4)) d_L_law_952 hj4 ?_
      refine l_sld C X d_L_law_953 (j + 4) ⟨by omega, by omega⟩ ?_
      obtain ⟨r, S1, M1, hN, hM, hR1⟩ := OK.2.2.2.2.2.2.2.2.2.2.2.2.2.2.2.2.2.2.2.2.2.2.2.2.2.1 S M hR (xs (j + 1)) (xs (j + 2)) (xs (j + 3)) (xs (j + 4)) 
      refine l_callN C d_L_law_954 wd903 cm_N_decode [.int (xs (j + 1)), .int (xs (j + 2)), .int (xs (j + 3)), .int (xs (j + 4))] rfl rfl ⟨(Nat.le_of_ble_eq_true rfl), (Nat.le_of_ble_eq_true rfl)⟩ (by decide) (Nat.le_of_ble_eq_true rfl) hwN (m_N_decode hN) ?_
      refine c_aload_n C d_L_law_957 2 rfl ?_
      refine c_aload_n C d_L_law_958 0 rfl ?_
      refine c_iload_n C d_L_law_959 3 rfl ?_
      refine c_iconst C d_L_law_960 1 ?_
      refine l_iadd C (nI (j + 1)) d_L_law_961 hj1 ?_
      refine l_sld C X d_L_law_962 (j + 1) ⟨by omega, by omega⟩ ?_
      refine c_aload_n C d_L_law_963 0 rfl ?_
      refine c_iload_n C d_L_law_964 3 rfl ?_
      refine c_iconst C d_L_law_965 2 ?_
      refine l_iadd C (nI (j + 2)) d_L_law_966 hj2 ?_
      refine l_sld C X d_L_law_967 (j + 2) ⟨by omega, by omega⟩ ?_
      refine c_aload_n C d_L_law_968 0 rfl ?_
      refine c_iload_n C d_L_law_969 3 rfl ?_
      refine c_iconst C d_L_law_970 3 ?_
      refine l_iadd C (nI (j + 3)) d_L_law_971 hj3 ?_
      refine l_sld C X d_L_law_972 (j + 3) ⟨by omega, by omega⟩ ?_
      refine c_aload_n C d_L_law_973 0 rfl ?_
      refine c_iload_n C d_L_law_974 3 rfl ?_
      refine c_iconst C d_L_law_975 4 ?_
      refine l_iadd C (nI (j + 4)) d_L_law_976 hj4 ?_
      refine l_sld C X d_L_law_977 (j + 4) ⟨by omega, by omega⟩ ?_
      refine l_callM C d_L_law_978 wd1339 cm_M_decode [.int (xs (j + 1)), .int (xs (j + 2)), .int (xs (j + 3)), .int (xs (j + 4))] rfl rfl ⟨(Nat.le_of_ble_eq_true rfl), (Nat.le_of_ble_eq_true rfl)⟩ (by decide) (Nat.le_of_ble_eq_true rfl) hwM (m_M_decode hM) ?_
      refine l_icmpeq C d_L_law_981 ?_
      exact hback S1 M1 hR1
    by_cases q26 : xs j &&& 31 = 26
    · refine l_tin C d_L_law_32 (q := 26) (t := 986) q26 (by decide) (by decide) rfl (by decide) ?_
      refine c_aload_n C d_L_law_986 1 rfl ?_
      refine c_aload_n C d_L_law_987 0 rfl ?_
      refine c_iload_n C d_L_law_988 3 rfl ?_
      refine c_iconst C d_L_law_989 1 ?_
      refine l_iadd C (nI (j + 1)) d_L_law_990 hj1 ?_
      refine l_sld C X d_L_law_991 (j + 1) ⟨by omega, by omega⟩ ?_
      refine c_aload_n C d_L_law_992 0 rfl ?_
      refine c_iload_n C d_L_law_993 3 rfl ?_
      refine c_iconst C d_L_law_994 2 ?_
      refine l_iadd C (nI (j + 2)) d_L_law_995 hj2 ?_
      refine l_sld C X d_L_law_996 (j + 2) ⟨by omega, by omega⟩ ?_
      refine c_aload_n C d_L_law_997 0 rfl ?_
      refine c_iload_n C d_L_law_998 3 rfl ?_
      refine c_iconst C d_L_law_999 3 ?_
      refine l_iadd C (nI (j + 3)) d_L_law_1000 hj3 ?_
      refine l_sld C X d_L_law_1001 (j + 3) ⟨by omega, by omega⟩ ?_
      obtain ⟨r, S1, M1, hN, hM, hR1⟩ := OK.2.2.2.2.2.2.2.2.2.2.2.2.2.2.2.2.2.2.2.2.2.2.2.2.2.2.1 S M hR (xs (j + 1)) (xs (j + 2)) (xs (j + 3)) 
      refine l_callN C d_L_law_1002 wd912 cm_N_sheet [.int (xs (j + 1)), .int (xs (j + 2)), .int (xs (j + 3))] rfl rfl ⟨(Nat.le_of_ble_eq_true rfl), (Nat.le_of_ble_eq_true rfl)⟩ (by decide) (Nat.le_of_ble_eq_true rfl) hwN (m_N_sheet hN) ?_
      refine c_aload_n C d_L_law_1005 2 rfl ?_
      refine c_aload_n C d_L_law_1006 0 rfl ?_
      refine c_iload_n C d_L_law_1007 3 rfl ?_
      refine c_iconst C d_L_law_1008 1 ?_
      refine l_iadd C (nI (j + 1)) d_L_law_1009 hj1 ?_
      refine l_sld C X d_L_law_1010 (j + 1) ⟨by omega, by omega⟩ ?_
      refine c_aload_n C d_L_law_1011 0 rfl ?_
      refine c_iload_n C d_L_law_1012 3 rfl ?_
      refine c_iconst C d_L_law_1013 2 ?_
      refine l_iadd C (nI (j + 2)) d_L_law_1014 hj2 ?_
      refine l_sld C X d_L_law_1015 (j + 2) ⟨by omega, by omega⟩ ?_
      refine c_aload_n C d_L_law_1016 0 rfl ?_
      refine c_iload_n C d_L_law_1017 3 rfl ?_
      refine c_iconst C d_L_law_1018 3 ?_
      refine l_iadd C (nI (j + 3)) d_L_law_1019 hj3 ?_
      refine l_sld C X d_L_law_1020 (j + 3) ⟨by omega, by omega⟩ ?_
      refine l_callM C d_L_law_1021 wd1343 cm_M_sheet [.int (xs (j + 1)), .int (xs (j + 2)), .int (xs (j + 3))] rfl rfl ⟨(Nat.le_of_ble_eq_true rfl), (Nat.le_of_ble_eq_true rfl)⟩ (by decide) (Nat.le_of_ble_eq_true rfl) hwM (m_M_sheet hM) ?_
      refine l_icmpeq C d_L_law_1024 ?_
      exact hback S1 M1 hR1
    by_cases q27 : xs j &&& 31 = 27
    · refine l_tin C d_L_law_32 (q := 27) (t := 1029) q27 (by decide) (by decide) rfl (by decide) ?_
      refine c_aload_n C d_L_law_1029 1 rfl ?_
      refine c_aload_n C d_L_law_1030 0 rfl ?_
      refine c_iload_n C d_L_law_1031 3 rfl ?_
      refine c_iconst C d_L_law_1032 1 ?_
      refine l_iadd C (nI (j + 1)) d_L_law_1033 hj1 ?_
      refine l_sld C X d_L_law_1034 (j + 1) ⟨by omega, by omega⟩ ?_
      refine c_aload_n C d_L_law_1035 0 rfl ?_
      refine c_iload_n C d_L_law_1036 3 rfl ?_
      refine c_iconst C d_L_law_1037 2 ?_
      refine l_iadd C (nI (j + 2)) d_L_law_1038 hj2 ?_
      refine l_sld C X d_L_law_1039 (j + 2) ⟨by omega, by omega⟩ ?_
      refine c_aload_n C d_L_law_1040 0 rfl ?_
      refine c_iload_n C d_L_law_1041 3 rfl ?_
      refine c_iconst C d_L_law_1042 3 ?_
      refine l_iadd C (nI (j + 3)) d_L_law_1043 hj3 ?_
      refine l_sld C X d_L_law_1044 (j + 3) ⟨by omega, by omega⟩ ?_
      obtain ⟨r, S1, M1, hN, hM, hR1⟩ := OK.2.2.2.2.2.2.2.2.2.2.2.2.2.2.2.2.2.2.2.2.2.2.2.2.2.2.2.1 S M hR (xs (j + 1)) (xs (j + 2)) (xs (j + 3)) 
      refine l_callN C d_L_law_1045 wd926 cm_N_lay [.int (xs (j + 1)), .int (xs (j + 2)), .int (xs (j + 3))] rfl rfl ⟨(Nat.le_of_ble_eq_true rfl), (Nat.le_of_ble_eq_true rfl)⟩ (by decide) (Nat.le_of_ble_eq_true rfl) hwN (m_N_lay hN) ?_
      refine c_aload_n C d_L_law_1048 2 rfl ?_
      refine c_aload_n C d_L_law_1049 0 rfl ?_
      refine c_iload_n C d_L_law_1050 3 rfl ?_
      refine c_iconst C d_L_law_1051 1 ?_
      refine l_iadd C (nI (j + 1)) d_L_law_1052 hj1 ?_
      refine l_sld C X d_L_law_1053 (j + 1) ⟨by omega, by omega⟩ ?_
      refine c_aload_n C d_L_law_1054 0 rfl ?_
      refine c_iload_n C d_L_law_1055 3 rfl ?_
      refine c_iconst C d_L_law_1056 2 ?_
      refine l_iadd C (nI (j + 2)) d_L_law_1057 hj2 ?_
      refine l_sld C X d_L_law_1058 (j + 2) ⟨by omega, by omega⟩ ?_
      refine c_aload_n C d_L_law_1059 0 rfl ?_
      refine c_iload_n C d_L_law_1060 3 rfl ?_
      refine c_iconst C d_L_law_1061 3 ?_
      refine l_iadd C (nI (j + 3)) d_L_law_1062 hj3 ?_
      refine l_sld C X d_L_law_1063 (j + 3) ⟨by omega, by omega⟩ ?_
      refine l_callM C d_L_law_1064 wd1351 cm_M_lay [.int (xs (j + 1)), .int (xs (j + 2)), .int (xs (j + 3))] rfl rfl ⟨(Nat.le_of_ble_eq_true rfl), (Nat.le_of_ble_eq_true rfl)⟩ (by decide) (Nat.le_of_ble_eq_true rfl) hwM (m_M_lay hM) ?_
      refine l_icmpeq C d_L_law_1067 ?_
      exact hback S1 M1 hR1
    by_cases q28 : xs j &&& 31 = 28
    · refine l_tin C d_L_law_32 (q := 28) (t := 1072) q28 (by decide) (by decide) rfl (by decide) ?_
      refine c_aload_n C d_L_law_1072 1 rfl ?_
      refine c_aload_n C d_L_law_1073 0 rfl ?_
      refine c_iload_n C d_L_law_1074 3 rfl ?_
      refine c_iconst C d_L_law_1075 1 ?_
      refine l_iadd C (nI (j + 1)) d_L_law_1076 hj1 ?_
      refine l_sld C X d_L_law_1077 (j + 1) ⟨by omega, by omega⟩ ?_
      refine c_aload_n C d_L_law_1078 0 rfl ?_
      refine c_iload_n C d_L_law_1079 3 rfl ?_
      refine c_iconst C d_L_law_1080 2 ?_
      refine l_iadd C (nI (j + 2)) d_L_law_1081 hj2 ?_
      refine l_sld C X d_L_law_1082 (j + 2) ⟨by omega, by omega⟩ ?_
      refine c_aload_n C d_L_law_1083 0 rfl ?_
      refine c_iload_n C d_L_law_1084 3 rfl ?_
      refine c_iconst C d_L_law_1085 3 ?_
      refine l_iadd C (nI (j + 3)) d_L_law_1086 hj3 ?_
      refine l_sld C X d_L_law_1087 (j + 3) ⟨by omega, by omega⟩ ?_
      refine c_aload_n C d_L_law_1088 0 rfl ?_
      refine c_iload_n C d_L_law_1089 3 rfl ?_
      refine c_iconst C d_L_law_1090 4 ?_
      refine l_iadd C (nI (j + 4)) d_L_law_1091 hj4 ?_
      refine l_sld C X d_L_law_1092 (j + 4) ⟨by omega, by omega⟩ ?_
      obtain ⟨r, S1, M1, hN, hM, hR1⟩ := OK.2.2.2.2.2.2.2.2.2.2.2.2.2.2.2.2.2.2.2.2.2.2.2.2.2.2.2.2.1 S M hR (xs (j + 1)) (xs (j + 2)) (xs (j + 3)) (xs (j + 4)) 
      refine l_callN C d_L_law_1093 wd942 cm_N_read [.int (xs (j + 1)), .int (xs (j + 2)), .int (xs (j + 3)), .int (xs (j + 4))] rfl rfl ⟨(Nat.le_of_ble_eq_true rfl), (Nat.le_of_ble_eq_true rfl)⟩ (by decide) (Nat.le_of_ble_eq_true rfl) hwN (m_N_read hN) ?_
      refine c_aload_n C d_L_law_1096 2 rfl ?_
      refine c_aload_n C d_L_law_1097 0 rfl ?_
      refine c_iload_n C d_L_law_1098 3 rfl ?_
      refine c_iconst C d_L_law_1099 1 ?_
      refine l_iadd C (nI (j + 1)) d_L_law_1100 hj1 ?_
      refine l_sld C X d_L_law_1101 (j + 1) ⟨by omega, by omega⟩ ?_
      refine c_aload_n C d_L_law_1102 0 rfl ?_
      refine c_iload_n C d_L_law_1103 3 rfl ?_
      refine c_iconst C d_L_law_1104 2 ?_
      refine l_iadd C (nI (j + 2)) d_L_law_1105 hj2 ?_
      refine l_sld C X d_L_law_1106 (j + 2) ⟨by omega, by omega⟩ ?_
      refine c_aload_n C d_L_law_1107 0 rfl ?_
      refine c_iload_n C d_L_law_1108 3 rfl ?_
      refine c_iconst C d_L_law_1109 3 ?_
      refine l_iadd C (nI (j + 3)) d_L_law_1110 hj3 ?_
      refine l_sld C X d_L_law_1111 (j + 3) ⟨by omega, by omega⟩ ?_
      refine c_aload_n C d_L_law_1112 0 rfl ?_
      refine c_iload_n C d_L_law_1113 3 rfl ?_
      refine c_iconst C d_L_law_1114 4 ?_
      refine l_iadd C (nI (j + 4)) d_L_law_1115 hj4 ?_
      refine l_sld C X d_L_law_1116 (j + 4) ⟨by omega, by omega⟩ ?_
      refine l_callM C d_L_law_1117 wd1355 cm_M_read [.int (xs (j + 1)), .int (xs (j + 2)), .int (xs (j + 3)), .int (xs (j + 4))] rfl rfl ⟨(Nat.le_of_ble_eq_true rfl), (Nat.le_of_ble_eq_true rfl)⟩ (by decide) (Nat.le_of_ble_eq_true rfl) hwM (m_M_read hM) ?_
      refine l_icmpeq C d_L_law_1120 ?_
      exact hback S1 M1 hR1
    by_cases q29 : xs j &&& 31 = 29
    · refine l_tin C d_L_law_32 (q := 29) (t := 1125) q29 (by decide) (by decide) rfl (by decide) ?_
      refine c_aload_n C d_L_law_1125 1 rfl ?_
      obtain ⟨r, hN, hM, hR1⟩ := OK.2.2.2.2.2.2.2.2.2.2.2.2.2.2.2.2.2.2.2.2.2.2.2.2.2.2.2.2.2.1 S M hR  
      refine l_callN C d_L_law_1126 wd950 cm_N_torn [] rfl rfl ⟨(Nat.le_of_ble_eq_true rfl), (Nat.le_of_ble_eq_true rfl)⟩ (by decide) (Nat.le_of_ble_eq_true rfl) hwN (m_N_torn hN) ?_
      refine c_aload_n C d_L_law_1129 2 rfl ?_
      refine l_callM C d_L_law_1130 wd1360 cm_M_torn [] rfl rfl ⟨(Nat.le_of_ble_eq_true rfl), (Nat.le_of_ble_eq_true rfl)⟩ (by decide) (Nat.le_of_ble_eq_true rfl) hwM (m_M_torn hM) ?_
      refine l_icmpeq C d_L_law_1133 ?_
      exact hback S M hR1
    by_cases q30 : xs j &&& 31 = 30
    · refine l_tin C d_L_law_32 (q := 30) (t := 1138) q30 (by decide) (by decide) rfl (by decide) ?_
      refine c_aload_n C d_L_law_1138 1 rfl ?_
      refine c_aload_n C d_L_law_1139 0 rfl ?_
      refine c_iload_n C d_L_law_1140 3 rfl ?_
      refine c_iconst C d_L_law_1141 1 ?_
      refine l_iadd C (nI (j + 1)) d_L_law_1142 hj1 ?_
      refine l_sld C X d_L_law_1143 (j + 1) ⟨by omega, by omega⟩ ?_
      obtain ⟨r, hN, hM, hR1⟩ := OK.2.2.2.2.2.2.2.2.2.2.2.2.2.2.2.2.2.2.2.2.2.2.2.2.2.2.2.2.2.2 S M hR (xs (j + 1)) 
      refine l_callN C d_L_law_1144 wd954 cm_N_count [.int (xs (j + 1))] rfl rfl ⟨(Nat.le_of_ble_eq_true rfl), (Nat.le_of_ble_eq_true rfl)⟩ (by decide) (Nat.le_of_ble_eq_true rfl) hwN (m_N_count hN) ?_
      refine c_aload_n C d_L_law_1147 2 rfl ?_
      refine c_aload_n C d_L_law_1148 0 rfl ?_
      refine c_iload_n C d_L_law_1149 3 rfl ?_
      refine c_iconst C d_L_law_1150 1 ?_
      refine l_iadd C (nI (j + 1)) d_L_law_1151 hj1 ?_
      refine l_sld C X d_L_law_1152 (j + 1) ⟨by omega, by omega⟩ ?_
      refine l_callM C d_L_law_1153 wd1364 cm_M_count [.int (xs (j + 1))] rfl rfl ⟨(Nat.le_of_ble_eq_true rfl), (Nat.le_of_ble_eq_true rfl)⟩ (by decide) (Nat.le_of_ble_eq_true rfl) hwM (m_M_count hM) ?_
      refine l_icmpeq C d_L_law_1156 ?_
      exact hback S M hR1
    refine l_tout C d_L_law_32 (t := 1161) (by have t0 := lv_neT q0 (a := 0) (by decide); have t1 := lv_neT q1 (a := 1) (by decide); have t2 := lv_neT q2 (a := 2) (by decide); have t3 := lv_neT q3 (a := 3) (by decide); have t4 := lv_neT q4 (a := 4) (by decide); have t5 := lv_neT q5 (a := 5) (by decide); have t6 := lv_neT q6 (a := 6) (by decide); have t7 := lv_neT q7 (a := 7) (by decide); have t8 := lv_neT q8 (a := 8) (by decide); have t9 := lv_neT q9 (a := 9) (by decide); have t10 := lv_neT q10 (a := 10) (by decide); have t11 := lv_neT q11 (a := 11) (by decide); have t12 := lv_neT q12 (a := 12) (by decide); have t13 := lv_neT q13 (a := 13) (by decide); have t14 := lv_neT q14 (a := 14) (by decide); have t15 := lv_neT q15 (a := 15) (by decide); have t16 := lv_neT q16 (a := 16) (by decide); have t17 := lv_neT q17 (a := 17) (by decide); have t18 := lv_neT q18 (a := 18) (by decide); have t19 := lv_neT q19 (a := 19) (by decide); have t20 := lv_neT q20 (a := 20) (by decide); have t21 := lv_neT q21 (a := 21) (by decide); have t22 := lv_neT q22 (a := 22) (by decide); have t23 := lv_neT q23 (a := 23) (by decide); have t24 := lv_neT q24 (a := 24) (by decide); have t25 := lv_neT q25 (a := 25) (by decide); have t26 := lv_neT q26 (a := 26) (by decide); have t27 := lv_neT q27 (a := 27) (by decide); have t28 := lv_neT q28 (a := 28) (by decide); have t29 := lv_neT q29 (a := 29) (by decide); have t30 := lv_neT q30 (a := 30) (by decide); omega) (by decide) ?_
    exact hback S M hR
