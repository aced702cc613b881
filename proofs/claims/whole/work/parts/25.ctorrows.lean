/-! CONSTRUCTORS: rows over explicit worlds -/
def EX (U : State) : Prop := va_Nw (.methodLinkNest "NeighbourWires" 18 y_C_init "NeighbourWires") U ∧ va_Nw (.methodLinkNest "NeighbourWires" 25 y_R_init "NeighbourWires") U ∧ va_Nw (.methodLinkNest "NeighbourWires" 63 y_H_init "NeighbourWires") U ∧ va_Nw (.methodLinkNest "NeighbourWires$Reader" 11 y_T_init "NeighbourWires") U ∧ va_AO "NeighbourWires$Sheet" U
theorem EX.warm {s U : State} (h : EX s) (hW : s.WarmedH U.vm) : EX U := ⟨va_Nw.warmM hW h.1, va_Nw.warmM hW h.2.1, va_Nw.warmM hW h.2.2.1, va_Nw.warmM hW h.2.2.2.1, va_AO.moved hW.alike h.2.2.2.2⟩
theorem EX.blind {U : State} {g : JFrame} {mk : MethodId} {a : Array Value} (h : EX U) : EX (U.calling g mk a) := ⟨va_Nw.same rfl (u := U) rfl h.1, va_Nw.same rfl (u := U) rfl h.2.1, va_Nw.same rfl (u := U) rfl h.2.2.1, va_Nw.same rfl (u := U) rfl h.2.2.2.1, va_AO.moved (u := U) (Vm.Alike.refl U.vm) h.2.2.2.2⟩
def CX (w : Ww) (x : Cx) (W0 : va_W) (k n : Nat) (pc : Nat) (lo : List (Nat × Value)) (st : List Value) : Prop :=
  match x with
  | (p, l, e, R, s, m, args, below, meth, c, Q, A, nL) => ∀ (H : Heap) (lc : List Loc) (ls : Array Slot), va_P w.2.2.1 cls W0 H → va_D A W0 → va_S A s.heap H lc → lv_has ls nL lo → W p l e R s m args below meth c H lc k n Q (F0 m pc ls st)
def KC (w : Ww) (own : String) (cc : ByteArray) (l0 : Launch) (d0 rc rs : Nat) (x : Cx) : Prop := XC [] w own cc l0 d0 x ∧
  match x with
  | (p, l, e, R, s, m, args, below, meth, c, Q, A, nL) => EX s ∧ rc ≤ R.cells ∧ rs ≤ R.slots ∧ (own ≠ "NeighbourWiresLaw" → meth.name = "<init>")
def rmK (d rc rs : Nat) : Room := { frames := d, cells := rc, slots := rs, locals := 60 * d }
def preK (w : Ww) (W0 : va_W) (sz : Nat) (U : State) : Prop := U.heap.size = sz ∧ va_P w.2.2.1 cls W0 U.heap ∧ va_K w.2.2.1 cls (tysW w) U ∧ va_D (fun _ => True) W0 ∧ SX w (va_A W0 sz) U U.heap ∧ EX U
def MK (w : Ww) (l : Launch) (y : MethodName) (cc : ByteArray) (nL d rc rs : Nat) (av : List Value) (W0 : va_W) (post : va_W → Prop) : Prop := ∀ sz : Nat, Met l y (.code y cc nL none :: tw) (rmK d rc rs) (va_Pc av (preK w W0 sz)) (va_Qv (fun u : va_W => post u) (fun u t => va_P w.2.2.1 cls u t.heap ∧ va_D (va_A W0 sz) u) (va_A W0 sz)) rc rs (va_A W0 sz)
theorem va_Psub {D : va_G} {cl : List vw_C} {ws ws' : va_W} {H : Heap} (hP : va_P D cl ws H) (is : List Nat) (hs : is.map (fun i => ws[i]?) = ws'.map some) : va_P D cl ws' H := by
  intro k9 q9 h9
  have h8 : (is.map (fun i => ws[i]?))[k9]? = some (some q9) := by rw [hs, List.getElem?_map, h9]; rfl
  rw [List.getElem?_map] at h8
  cases hi8 : is[k9]? with
  | none => rw [hi8] at h8; cases h8
  | some i8 => rw [hi8] at h8; exact hP i8 q9 (Option.some.inj h8)
section CROWS
variable {w : Ww} {own : String} {cc : ByteArray} {l0 : Launch} {d0 rc rs : Nat} {x : Cx} {W0 W1 : va_W} {k n : Nat} {pc np : Nat} {lo lo' : List (Nat × Value)} {st : List Value}
theorem c_aload_n (C : KC w own cc l0 d0 rc rs x) {i : Fin 4} {j a : Nat} (hd : dc cc pc (.aload_n i) 1 np) (q : Nat) (hl : lo[q]? = some (j, .ref a)) (kk : CX w x W0 k n np lo (.ref a :: st)) (hi : (i : Nat) = j := by rfl) : CX w x W0 k n pc lo st := by
  obtain ⟨p, l, e, R, s, m, args, below, meth, c, Q, A, nL⟩ := x
  obtain ⟨⟨⟨hx, hb, hml, hown, hts⟩, rfl, hK, hA, hAk, hSX, hlk, hfr, hlo⟩, hEX, hrc, hrs, hin1⟩ := C
  obtain ⟨hd, rfl⟩ := hd
  intro H lc ls hP hD hS hl2
  exact lv_aload_n hx hb hd hi (lv_at hl2 q hl) (kk H lc ls hP hD hS hl2)
theorem c_iload_n (C : KC w own cc l0 d0 rc rs x) {i : Fin 4} {j : Nat} {v : Int32} (hd : dc cc pc (.iload_n i) 1 np) (q : Nat) (hl : lo[q]? = some (j, .int v)) (kk : CX w x W0 k n np lo (.int v :: st)) (hi : (i : Nat) = j := by rfl) : CX w x W0 k n pc lo st := by
  obtain ⟨p, l, e, R, s, m, args, below, meth, c, Q, A, nL⟩ := x
  obtain ⟨⟨⟨hx, hb, hml, hown, hts⟩, rfl, hK, hA, hAk, hSX, hlk, hfr, hlo⟩, hEX, hrc, hrs, hin1⟩ := C
  obtain ⟨hd, rfl⟩ := hd
  intro H lc ls hP hD hS hl2
  exact lv_iload_n hx hb hd hi (lv_at hl2 q hl) (kk H lc ls hP hD hS hl2)
theorem c_istore_n (C : KC w own cc l0 d0 rc rs x) {i : Fin 4} {j : Nat} {v : Int32} (hd : dc cc pc (.istore_n i) 1 np) (lo2 : List (Nat × Value)) (hnL : j < x.2.2.2.2.2.2.2.2.2.2.2.2) (hl : (j, Value.int v) :: lo.filter (fun q => !(q.1 == j) && !(q.1 + 1 == j && q.2.category == 2)) = lo2) (kk : CX w x W0 k n np lo2 st) (hi : (i : Nat) = j := by rfl) : CX w x W0 k n pc lo (.int v :: st) := by
  obtain ⟨p, l, e, R, s, m, args, below, meth, c, Q, A, nL⟩ := x
  obtain ⟨⟨⟨hx, hb, hml, hown, hts⟩, rfl, hK, hA, hAk, hSX, hlk, hfr, hlo⟩, hEX, hrc, hrs, hin1⟩ := C
  obtain ⟨hd, rfl⟩ := hd
  intro H lc ls hP hD hS hl2
  exact lv_istore_n hx hb hd hi hl2 hnL hl (fun ls2 hl3 => kk H lc ls2 hP hD hS hl3)
theorem c_iinc (C : KC w own cc l0 d0 rc rs x) {i : Nat} {v : Int32} {t : Int} (v2 : Int32) (hd : dc cc pc (.iinc i t) 3 np) (q : Nat) (hl : lo[q]? = some (i, .int v)) (hnL : i < x.2.2.2.2.2.2.2.2.2.2.2.2) (lo2 : List (Nat × Value)) (hl3 : (i, Value.int v2) :: lo.filter (fun q => !(q.1 == i) && !(q.1 + 1 == i && q.2.category == 2)) = lo2) (kk : CX w x W0 k n np lo2 st) (ht : v + Int32.ofInt t = v2 := by decide) : CX w x W0 k n pc lo st := by
  obtain ⟨p, l, e, R, s, m, args, below, meth, c, Q, A, nL⟩ := x
  obtain ⟨⟨⟨hx, hb, hml, hown, hts⟩, rfl, hK, hA, hAk, hSX, hlk, hfr, hlo⟩, hEX, hrc, hrs, hin1⟩ := C
  obtain ⟨hd, rfl⟩ := hd
  intro H lc ls hP hD hS hl2
  exact lv_iinc hx hb hd hl2 hl ht hnL hl3 (fun ls2 hl4 => kk H lc ls2 hP hD hS hl4)
theorem c_iconst (C : KC w own cc l0 d0 rc rs x) {i : Int} (hd : dc cc pc (.iconst i) 1 np) (v : Int32) (kk : CX w x W0 k n np lo (.int v :: st)) (hv : Int32.ofInt i = v := by decide) : CX w x W0 k n pc lo st := by
  obtain ⟨p, l, e, R, s, m, args, below, meth, c, Q, A, nL⟩ := x
  obtain ⟨⟨⟨hx, hb, hml, hown, hts⟩, rfl, hK, hA, hAk, hSX, hlk, hfr, hlo⟩, hEX, hrc, hrs, hin1⟩ := C
  obtain ⟨hd, rfl⟩ := hd
  intro H lc ls hP hD hS hl2
  exact lv_iconst hx hb hd hv (kk H lc ls hP hD hS hl2)
theorem c_bipush (C : KC w own cc l0 d0 rc rs x) {i : Int} (hd : dc cc pc (.bipush i) 2 np) (v : Int32) (kk : CX w x W0 k n np lo (.int v :: st)) (hv : (Int8.ofInt i).toInt32 = v := by decide) : CX w x W0 k n pc lo st := by
  obtain ⟨p, l, e, R, s, m, args, below, meth, c, Q, A, nL⟩ := x
  obtain ⟨⟨⟨hx, hb, hml, hown, hts⟩, rfl, hK, hA, hAk, hSX, hlk, hfr, hlo⟩, hEX, hrc, hrs, hin1⟩ := C
  obtain ⟨hd, rfl⟩ := hd
  intro H lc ls hP hD hS hl2
  exact lv_bipush hx hb hd hv (kk H lc ls hP hD hS hl2)
theorem c_sipush (C : KC w own cc l0 d0 rc rs x) {i : Int} (hd : dc cc pc (.sipush i) 3 np) (v : Int32) (kk : CX w x W0 k n np lo (.int v :: st)) (hv : (Int16.ofInt i).toInt32 = v := by decide) : CX w x W0 k n pc lo st := by
  obtain ⟨p, l, e, R, s, m, args, below, meth, c, Q, A, nL⟩ := x
  obtain ⟨⟨⟨hx, hb, hml, hown, hts⟩, rfl, hK, hA, hAk, hSX, hlk, hfr, hlo⟩, hEX, hrc, hrs, hin1⟩ := C
  obtain ⟨hd, rfl⟩ := hd
  intro H lc ls hP hD hS hl2
  exact lv_sipush hx hb hd hv (kk H lc ls hP hD hS hl2)
theorem c_ldc (C : KC w own cc l0 d0 rc rs x) {i : Nat} {v : Int32} (hd : dc cc pc (.ldc i) 2 np) (hw : Cond.constant own i v ∈ tw) (kk : CX w x W0 k n np lo (.int v :: st)) : CX w x W0 k n pc lo st := by
  obtain ⟨p, l, e, R, s, m, args, below, meth, c, Q, A, nL⟩ := x
  obtain ⟨⟨⟨hx, hb, hml, hown, hts⟩, rfl, hK, hA, hAk, hSX, hlk, hfr, hlo⟩, hEX, hrc, hrs, hin1⟩ := C
  obtain ⟨hd, rfl⟩ := hd
  intro H lc ls hP hD hS hl2
  exact lv_ldc hx hb hown (hts _ hw) hd (kk H lc ls hP hD hS hl2)
theorem c_dup (C : KC w own cc l0 d0 rc rs x) {va : Value} (hd : dc cc pc .dup 1 np) (hc : va.category = 1) (kk : CX w x W0 k n np lo (va :: va :: st)) : CX w x W0 k n pc lo (va :: st) := by
  obtain ⟨p, l, e, R, s, m, args, below, meth, c, Q, A, nL⟩ := x
  obtain ⟨⟨⟨hx, hb, hml, hown, hts⟩, rfl, hK, hA, hAk, hSX, hlk, hfr, hlo⟩, hEX, hrc, hrs, hin1⟩ := C
  obtain ⟨hd, rfl⟩ := hd
  intro H lc ls hP hD hS hl2
  exact lv_dup hx hb hd hc (kk H lc ls hP hD hS hl2)
theorem c_icmp_ge (C : KC w own cc l0 d0 rc rs x) {a b : Int32} {t t2 : Nat} {off : Int} (hd : dj cc pc (.if_icmp .ge off) off np t) (hc : (a < b ∧ t2 = np) ∨ (¬ a < b ∧ t2 = t)) (kk : CX w x W0 k n t2 lo st) : CX w x W0 k n pc lo (.int b :: .int a :: st) := by
  obtain ⟨p, l, e, R, s, m, args, below, meth, c, Q, A, nL⟩ := x
  obtain ⟨⟨⟨hx, hb, hml, hown, hts⟩, rfl, hK, hA, hAk, hSX, hlk, hfr, hlo⟩, hEX, hrc, hrs, hin1⟩ := C
  obtain ⟨hd, rfl, ht⟩ := hd
  intro H lc ls hP hD hS hl2
  rcases hc with ⟨hc, rfl⟩ | ⟨hc, rfl⟩
  · exact lv_icmp_ge hx hb hd ht (fun q => absurd hc (Int32.not_lt.mpr q)) (fun _ => kk H lc ls hP hD hS hl2)
  · exact lv_icmp_ge hx hb hd ht (fun _ => kk H lc ls hP hD hS hl2) (fun q => absurd (Int32.not_le.mp q) hc)
theorem c_goto (C : KC w own cc l0 d0 rc rs x) {t : Nat} {off : Int} (hd : dj cc pc (.goto off) off np t) (kk : CX w x W0 k n t lo st) : CX w x W0 k n pc lo st := by
  obtain ⟨p, l, e, R, s, m, args, below, meth, c, Q, A, nL⟩ := x
  obtain ⟨⟨⟨hx, hb, hml, hown, hts⟩, rfl, hK, hA, hAk, hSX, hlk, hfr, hlo⟩, hEX, hrc, hrs, hin1⟩ := C
  obtain ⟨hd, rfl, ht⟩ := hd
  intro H lc ls hP hD hS hl2
  exact lv_goto hx hb hd ht (kk H lc ls hP hD hS hl2)
theorem c_obj (C : KC w own cc l0 d0 rc rs x) {idx a : Nat} (hd : dc cc pc (.invokespecial idx) 3 np) (hl : Cond.methodLink own idx objectInit ∈ tw) (h1 : Cond.instanceMethod objectInit ∈ tw ∧ Cond.code objectInit ⟨#[0xb1]⟩ 1 none ∈ tw) (hd0 : 1 ≤ d0) (hcat : (st.map fun v => v.category).sum ≤ 8) (kk : CX w x W0 k n np lo st) : CX w x W0 k n pc lo (.ref a :: st) := by
  obtain ⟨p, l, e, R, s, m, args, below, meth, c, Q, A, nL⟩ := x
  obtain ⟨⟨⟨hx, hb, hml, hown, hts⟩, rfl, hK, hA, hAk, hSX, hlk, hfr, hlo⟩, hEX, hrc, hrs, hin1⟩ := C
  obtain ⟨hd, rfl⟩ := hd
  intro H lc ls hP hD hS hl2
  exact W.objInit hx hb hown (hts _ hl) (hts _ h1.1) (hts _ h1.2) rfl (by rw [hml]; exact hl2.1) rfl hd (Nat.le_trans hd0 hfr) (by show 2 * 0 + _ + 12 ≤ _; omega) (kk H lc ls hP hD hS hl2)
theorem c_get (C : KC w own cc l0 d0 rc rs x) {ci fk a : Nat} {fs : List Value} {Cn nm ds : String} {fin : Bool} {T : u_T} {N idx : Nat} {tf : Nat → FieldType} {v : Value} (hd : dc cc pc (.getfield idx) 3 np) (hfo : fo ci fk Cn nm ds fin T N tf) (hl : Cond.fieldLink own idx Cn nm ds ∈ tw) (q : Nat) (hq : W0[q]? = some (a, .inr (ci, fs))) (hk : fs[fk]? = some v) (kk : CX w x W0 k n np lo (v :: st)) : CX w x W0 k n pc lo (.ref a :: st) := by
  obtain ⟨p, l, e, R, s, m, args, below, meth, c, Q, A, nL⟩ := x
  obtain ⟨⟨⟨hx, hb, hml, hown, hts⟩, rfl, hK, hA, hAk, hSX, hlk, hfr, hlo⟩, hEX, hrc, hrs, hin1⟩ := C
  obtain ⟨hd, rfl⟩ := hd
  intro H lc ls hP hD hS hl2
  obtain ⟨hc, hin, hkN, hT, hty, hnm⟩ := hfo
  exact va_get (D := w.2.2.1) (v := v) (C := Cn) (T := T) (N := N) (ref := Cn) (index := idx) hx hb hts hin hown hK hP q hq hc fk hkN (by rw [hT]; exact hts _ hl) (by rw [hT]; exact fun _ h => h) hk hd (kk H lc ls hP hD hS hl2)
theorem c_put (C : KC w own cc l0 d0 rc rs x) {ci fk a : Nat} {fs : List Value} {Cn nm : String} {T : u_T} {N idx : Nat} {tf : Nat → FieldType} {v : Int32} (W1 : va_W) (hd : dc cc pc (.putfield idx) 3 np) (hfo : fo ci fk Cn nm "I" false T N tf) (hl : Cond.fieldLink own idx Cn nm "I" ∈ tw) (q : Nat) (hq : W0[q]? = some (a, .inr (ci, fs))) (hlen : fk < fs.length) (hW : W0.set q (a, .inr (ci, fs.set fk (.int v))) = W1) (kk : CX w x W1 k n np lo st) : CX w x W0 k n pc lo (.int v :: .ref a :: st) := by
  obtain ⟨p, l, e, R, s, m, args, below, meth, c, Q, A, nL⟩ := x
  obtain ⟨⟨⟨hx, hb, hml, hown, hts⟩, rfl, hK, hA, hAk, hSX, hlk, hfr, hlo⟩, hEX, hrc, hrs, hin1⟩ := C
  obtain ⟨hd, rfl⟩ := hd
  intro H lc ls hP hD hS hl2
  obtain ⟨hc, hin, hkN, hT, hty, hnm⟩ := hfo
  subst hW
  exact va_put (D := w.2.2.1) (v := .int v) (ty := .int) (C := Cn) (T := T) (N := N) (ref := Cn) (index := idx) hx hb hts hin tf hty hnm hown hK hP hD hS q hq hc fk hkN (by rw [hT]; exact hts _ hl) (by rw [hT]; exact fun _ h => h) (by rw [hT]) (by rw [hT]; exact pfdI) rfl rfl hlen hd (fun H1 lc1 hP1 hD1 hS1 => kk H1 lc1 ls hP1 hD1 hS1 hl2)
theorem c_putF (C : KC w own cc l0 d0 rc rs x) {ci fk a : Nat} {fs : List Value} {Cn nm ds : String} {T : u_T} {N idx : Nat} {tf : Nat → FieldType} {r : Nat} {ty : FieldType} (W1 : va_W) (hd : dc cc pc (.putfield idx) 3 np) (hfo : fo ci fk Cn nm ds true T N tf) (hcn : Cn = own) (hne : own ≠ "NeighbourWiresLaw") (hpd : parseFieldDescriptor ds = some ty) (hfit : narrow ty (.ref r) = .ref r ∧ fits ty (.ref r) = true) (hl : Cond.fieldLink own idx Cn nm ds ∈ tw) (q : Nat) (hq : W0[q]? = some (a, .inr (ci, fs))) (hlen : fk < fs.length) (hW : W0.set q (a, .inr (ci, fs.set fk (.ref r))) = W1) (kk : CX w x W1 k n np lo st) : CX w x W0 k n pc lo (.ref r :: .ref a :: st) := by
  obtain ⟨p, l, e, R, s, m, args, below, meth, c, Q, A, nL⟩ := x
  obtain ⟨⟨⟨hx, hb, hml, hown, hts⟩, rfl, hK, hA, hAk, hSX, hlk, hfr, hlo⟩, hEX, hrc, hrs, hin1⟩ := C
  obtain ⟨hd, rfl⟩ := hd
  intro H lc ls hP hD hS hl2
  obtain ⟨hc, hin, hkN, hT, hty, hnm⟩ := hfo
  subst hW
  exact va_putF (D := w.2.2.1) (v := .ref r) (ty := ty) (C := Cn) (T := T) (N := N) (ref := Cn) (index := idx) hx hb hts hin tf hty hnm hown hK hP hD hS q hq hc fk hkN (by rw [hT]; exact hts _ hl) (by rw [hT]; exact fun _ h => h) (by rw [hT]) (hin1 hne) (by rw [hT]; exact hcn) (by rw [hT]; exact hpd) hfit.1 hfit.2 hlen hd (fun H1 lc1 hP1 hD1 hS1 => kk H1 lc1 ls hP1 hD1 hS1 hl2)
theorem c_new (C : KC w own cc l0 d0 rc rs x) {Cn : String} {T : u_T} {N idx ci : Nat} (tf : Nat → FieldType) (fs : List Value) (hd : dc cc pc (.new idx) 3 np) (hc : cls[ci]? = some (Cn, T, N)) (hin : ∀ w ∈ u_ws Cn T N, w ∈ tw) (hty : ∀ k, k < N → parseFieldDescriptor (T k).2.2.1 = some (tf k)) (h1 : Cond.classLink own idx Cn ∈ tw ∧ Cond.instantiable Cn N ∈ tw ∧ Cond.initialized Cn ∈ tw) (hfs : ∀ j, j < N → defaultValue (tf j) = vp_V fs j) (hroom : k + 1 ≤ rc ∧ n + N ≤ rs) (kk : ∀ q : Nat, CX w x (W0 ++ [(q, .inr (ci, fs))]) (k + 1) (n + N) np lo (.ref q :: st)) : CX w x W0 k n pc lo st := by
  obtain ⟨p, l, e, R, s, m, args, below, meth, c, Q, A, nL⟩ := x
  obtain ⟨⟨⟨hx, hb, hml, hown, hts⟩, rfl, hK, hA, hAk, hSX, hlk, hfr, hlo⟩, hEX, hrc, hrs, hin1⟩ := C
  obtain ⟨hd, rfl⟩ := hd
  intro H lc ls hP hD hS hl2
  exact va_new (C := Cn) (T := T) (N := N) hx hb hts hin tf hty hown (hts _ h1.1) (hts _ h1.2.1) (hts _ h1.2.2) hK hP hD hS hA hc hfs (Nat.le_trans hroom.1 hrc) (Nat.le_trans hroom.2 hrs) hd (fun q H1 hP1 hD1 hS1 => kk q H1 lc ls hP1 hD1 hS1 hl2)
theorem c_newa (C : KC w own cc l0 d0 rc rs x) {len : Int32} {N kd : Nat} {ty : FieldType} {atype : ArrayType} {a0 : vp_A} (hd : dc cc pc (.newarray atype) 2 np) (hw : Cond.arrayClass (newarray.typeOf atype) ∈ tw) (hty : newarray.typeOf atype = ty) (hkd : (tysW w)[kd]? = some (w.2.1 kd, ty)) (hra : ∀ U cA, va_RA U cA ty = (U.vm.findClass ("[" ++ ty.toString) = some cA)) (ha : ∀ cA : ClassId, vp_cell cA a0 = arrV cA N (fun _ => defaultValue ty)) (hn : ¬ len < 0 ∧ len.toNatClampNeg = N ∧ N * componentBytes ty ≤ 536870912) (hroom : k + 1 ≤ rc ∧ n + N ≤ rs) (kk : ∀ q : Nat, CX w x (W0 ++ [(q, .inl (w.2.1 kd, a0))]) (k + 1) (n + N) np lo (.ref q :: st)) : CX w x W0 k n pc lo (.int len :: st) := by
  obtain ⟨p, l, e, R, s, m, args, below, meth, c, Q, A, nL⟩ := x
  obtain ⟨⟨⟨hx, hb, hml, hown, hts⟩, rfl, hK, hA, hAk, hSX, hlk, hfr, hlo⟩, hEX, hrc, hrs, hin1⟩ := C
  obtain ⟨hd, rfl⟩ := hd
  intro H lc ls hP hD hS hl2
  refine va_newa (atype := atype) hx hb (hts _ hw) hty hK hP hD hS hA ha hn.1 hn.2.1 hn.2.2 (Nat.le_trans hroom.1 hrc) (Nat.le_trans hroom.2 hrs) hd (fun q cA H1 hK1 hP1 hD1 hS1 => ?_)
  have e1 : va_RA s cA ty := (hK1.2 (tysW w).length (cA, ty) (by rw [List.getElem?_append_right (Nat.le_refl _), Nat.sub_self]; rfl)).2
  have e2 : va_RA s (w.2.1 kd) ty := (hK.2 kd _ hkd).2
  rw [hra] at e1 e2
  have e3 : cA = w.2.1 kd := Option.some.inj (e1.symm.trans e2)
  subst e3
  exact kk q H1 lc ls hP1 hD1 hS1 hl2
theorem c_newq (C : KC w own cc l0 d0 rc rs x) {idx : Nat} (hd : dc cc pc (.anewarray idx) 3 np) (hw : Cond.classLink own idx "NeighbourWires$Sheet" ∈ tw) (hroom : k + 1 ≤ rc ∧ n + 4 ≤ rs) (kk : ∀ q : Nat, CX w x (W0 ++ [(q, .inl (w.2.1 4, 4, .inr (.inr (.inr (.inr (fun _ => none))))))]) (k + 1) (n + 4) np lo (.ref q :: st)) : CX w x W0 k n pc lo (.int 4 :: st) := by
  obtain ⟨p, l, e, R, s, m, args, below, meth, c, Q, A, nL⟩ := x
  obtain ⟨⟨⟨hx, hb, hml, hown, hts⟩, rfl, hK, hA, hAk, hSX, hlk, hfr, hlo⟩, hEX, hrc, hrs, hin1⟩ := C
  obtain ⟨hd, rfl⟩ := hd
  intro H lc ls hP hD hS hl2
  refine va_newq (C := "NeighbourWires$Sheet") (N' := 4) hx hb hown (hts _ hw) hEX.2.2.2.2 hK hP hD hS hA (by decide) (by decide) (by decide) (Nat.le_trans hroom.1 hrc) (Nat.le_trans hroom.2 hrs) hd (fun q cA H1 hK1 hP1 hD1 hS1 => ?_)
  have e1 : va_RA s cA (.object "NeighbourWires$Sheet") := (hK1.2 (tysW w).length (cA, _) (by rw [List.getElem?_append_right (Nat.le_refl _), Nat.sub_self]; rfl)).2
  have e2 : va_RA s (w.2.1 4) (.object "NeighbourWires$Sheet") := (hK.2 4 _ rfl).2
  obtain ⟨_, _, _, _, _, e1⟩ := e1
  obtain ⟨_, _, _, _, _, e2⟩ := e2
  have e3 : cA = w.2.1 4 := Option.some.inj (e1.symm.trans e2)
  subst e3
  exact kk q H1 lc ls hP1 hD1 hS1 hl2
theorem c_alen (C : KC w own cc l0 d0 rc rs x) {kd a : Nat} {xA : vp_A} {ty : FieldType} (v : Int32) (hd : dc cc pc .arraylength 1 np) (q : Nat) (hq : W0[q]? = some (a, .inl (w.2.1 kd, xA))) (hk : (tysW w)[kd]? = some (w.2.1 kd, ty)) (hv : Int32.ofNat xA.1 = v) (kk : CX w x W0 k n np lo (.int v :: st)) : CX w x W0 k n pc lo (.ref a :: st) := by
  obtain ⟨p, l, e, R, s, m, args, below, meth, c, Q, A, nL⟩ := x
  obtain ⟨⟨⟨hx, hb, hml, hown, hts⟩, rfl, hK, hA, hAk, hSX, hlk, hfr, hlo⟩, hEX, hrc, hrs, hin1⟩ := C
  obtain ⟨hd, rfl⟩ := hd
  intro H lc ls hP hD hS hl2
  exact va_alen hx hb hK hP q kd hq hk hv hd (kk H lc ls hP hD hS hl2)
theorem c_iast (C : KC w own cc l0 d0 rc rs x) {len a : Nat} {f : Nat → Int32} {i v : Int32} (W1 : va_W) (hd : dc cc pc .iastore 1 np) (q : Nat) (hq : W0[q]? = some (a, .inl (w.2.1 0, len, .inl f))) (hi : vp_in i len) (hW : W0.set q (a, .inl (w.2.1 0, len, .inl (upd f i.toNatClampNeg v))) = W1) (kk : CX w x W1 k n np lo st) : CX w x W0 k n pc lo (.int v :: .int i :: .ref a :: st) := by
  obtain ⟨p, l, e, R, s, m, args, below, meth, c, Q, A, nL⟩ := x
  obtain ⟨⟨⟨hx, hb, hml, hown, hts⟩, rfl, hK, hA, hAk, hSX, hlk, hfr, hlo⟩, hEX, hrc, hrs, hin1⟩ := C
  obtain ⟨hd, rfl⟩ := hd
  intro H lc ls hP hD hS hl2
  subst hW
  exact va_iast hx hb hK hP hD hS q 0 hq rfl hi hd (fun H1 lc1 hP1 hD1 hS1 => kk H1 lc1 ls hP1 hD1 hS1 hl2)
theorem c_aast (C : KC w own cc l0 d0 rc rs x) {len a v : Nat} {vs : List Value} {f : Nat → Option Nat} {i : Int32} (W1 : va_W) (hd : dc cc pc .aastore 1 np) (q qk : Nat) (hq : W0[q]? = some (a, .inl (w.2.1 4, len, .inr (.inr (.inr (.inr f)))))) (hv : W0[qk]? = some (v, .inr (5, vs))) (hi : vp_in i len) (hW : W0.set q (a, .inl (w.2.1 4, len, .inr (.inr (.inr (.inr (va_up f i.toNatClampNeg (some v))))))) = W1) (kk : CX w x W1 k n np lo st) : CX w x W0 k n pc lo (.ref v :: .int i :: .ref a :: st) := by
  obtain ⟨p, l, e, R, s, m, args, below, meth, c, Q, A, nL⟩ := x
  obtain ⟨⟨⟨hx, hb, hml, hown, hts⟩, rfl, hK, hA, hAk, hSX, hlk, hfr, hlo⟩, hEX, hrc, hrs, hin1⟩ := C
  obtain ⟨hd, rfl⟩ := hd
  intro H lc ls hP hD hS hl2
  subst hW
  exact va_astq hx hb hK hP hD hS q 4 qk 5 (r := ("NeighbourWires$Sheet", T5, 3)) hq rfl hv rfl hi hd (fun H1 lc1 hP1 hD1 hS1 => kk H1 lc1 ls hP1 hD1 hS1 hl2)
theorem preK_blind {w : Ww} {W0 : va_W} {sz : Nat} {av : List Value} : FrameBlind (va_Pc av (preK w W0 sz)) := by
  intro a U g mk q
  obtain ⟨h1, h2, h3, h4, h5, h6, h7⟩ := q
  exact ⟨h1, h2, h3, va_K.moved (u := U) (U := U.calling g mk a) (Vm.Alike.refl U.vm) h4, h5, ⟨vk_S.moved (u := U) (U := U.calling g mk a) (Vm.Alike.refl U.vm) h6.1, fun i hi => vk_R.same (u := U) (U := U.calling g mk a) rfl (h6.2.1 i hi), va_Z.moved (u := U) (U := U.calling g mk a) (Vm.Alike.refl U.vm) h6.2.2.1, va_Zq.moved (u := U) (U := U.calling g mk a) (Vm.Alike.refl U.vm) h6.2.2.2⟩, h7.blind⟩
def cmI (y : MethodName) (b : ByteArray) (nL na : Nat) : Prop := (Cond.instanceMethod y ∈ tw ∧ Cond.initialized y.cls ∈ tw ∧ Cond.code y b nL none ∈ tw) ∧ y.name = "<init>" ∧ y.cls ≠ "java/lang/invoke/MethodHandle" ∧ y.cls ≠ "java/lang/invoke/VarHandle" ∧ (parseMethodDescriptor y.desc).map (fun d => d.parameters.length) = some na
theorem c_callI (C : KC w own cc l0 d0 rc rs x) {y : MethodName} {b2 : ByteArray} {nL2 d mc ms na idx b : Nat} {st0 : List Value} {post : va_W → Prop} (wc wr : va_W) (isC isR : List Nat) (hd : dc cc pc (.invokespecial idx) 3 np) (hl : Cond.methodLink own idx y ∈ tw) (cm : cmI y b2 nL2 na) (As : List Value) (hn : As.length = na) (hst : st0 = As.reverse ++ .ref b :: st) (hro : d + 1 ≤ d0 ∧ nL2 ≤ 41) (hcat : (st.map fun v => v.category).sum ≤ 8) (hC : isC.map (fun i => W0[i]?) = wc.map some) (hRr : isR.map (fun i => W0[i]?) = wr.map some) (hnC : va_nd isC = true) (hnR : va_nd isR = true) (hdis : ∀ i ∈ isR, i ∉ isC) (hrm : k + mc ≤ rc ∧ n + ms ≤ rs) (hm : MK w l0 y b2 nL2 d mc ms (.ref b :: As) wc post) (kk : ∀ u, post u → CX w x (wr ++ u) (k + mc) (n + ms) np lo st) : CX w x W0 k n pc lo st0 := by
  obtain ⟨p, l, e, R, s, m, args, below, meth, c, Q, A, nL⟩ := x
  obtain ⟨⟨⟨hx, hb, hml, hown, hts⟩, rfl, hK, hA, hAk, hSX, hlk, hfr, hlo⟩, hEX, hrc, hrs, hin1⟩ := C
  obtain ⟨hd, rfl⟩ := hd
  intro H lc ls hP hD hS hl2
  subst hst
  have hAB : ∀ q, va_A wc H.size q → A q := va_free hD hS hA isC hC
  have hroom : (rmK d mc ms).frames + 1 ≤ R.frames ∧ 8 + (nL2 + 11) + (rmK d mc ms).locals ≤ R.locals := by
    unfold rmK
    dsimp only
    omega
  have hpre : ∀ U : State, U.heap = H → s.WarmedH U.vm → va_Pc (.ref b :: As) (preK w wc H.size) (Value.ref b :: As).toArray U := fun U hU hW => ⟨rfl, by rw [hU], by rw [hU]; exact va_Psub hP isC hC, va_K.moved hW.alike hK, (hD.sub isC hnC hC).weaken (fun _ _ _ _ => trivial), hSX.call hS hU hW hAB, hEX.warm hW⟩
  refine va_callv (va_runI (As := As) (rest := st) ⟨hx, hb, hml, hown, hts⟩ (hm H.size) (cwI na hts (giC cm.1.2.2) rfl rfl rfl (hts _ cm.1.2.1) (hts _ hl) (hts _ cm.1.1) cm.2.1 cm.2.2 hroom) ⟨preK_blind, hpre⟩ rfl hn hl2.1 rfl (lv_room hcat) hd ⟨Nat.le_trans hrm.1 hrc, Nat.le_trans hrm.2 hrs⟩) hS (fun q _ h => hAB q h) hAB (fun u t H1 locs1 ht hvm hw hB hz hk hS1 => ?_)
  obtain ⟨hP1, hD1⟩ := hB
  rw [ht] at hP1
  obtain ⟨hP2, hD2⟩ := va_join (wr := wr) (w1 := u) hP hD isC isR hC hRr hnR hdis hk hAB hP1 hD1
  exact kk u hw H1 locs1 ls hP2 hD2 hS1 hl2
theorem c_callN (C : KC w own cc l0 d0 rc rs x) {y : MethodName} {b2 : ByteArray} {nL2 d mc ms na idx b : Nat} {st0 : List Value} {post : va_W → Prop} (wc wr : va_W) (isC isR : List Nat) (hd : dc cc pc (.invokespecial idx) 3 np) (hl : ∀ U, EX U → va_Nw (.methodLinkNest own idx y "NeighbourWires") U) (cm : cmI y b2 nL2 na) (As : List Value) (hn : As.length = na) (hst : st0 = As.reverse ++ .ref b :: st) (hro : d + 1 ≤ d0 ∧ nL2 ≤ 41) (hcat : (st.map fun v => v.category).sum ≤ 8) (hC : isC.map (fun i => W0[i]?) = wc.map some) (hRr : isR.map (fun i => W0[i]?) = wr.map some) (hnC : va_nd isC = true) (hnR : va_nd isR = true) (hdis : ∀ i ∈ isR, i ∉ isC) (hrm : k + mc ≤ rc ∧ n + ms ≤ rs) (hm : MK w l0 y b2 nL2 d mc ms (.ref b :: As) wc post) (kk : ∀ u, post u → CX w x (wr ++ u) (k + mc) (n + ms) np lo st) : CX w x W0 k n pc lo st0 := by
  obtain ⟨p, l, e, R, s, m, args, below, meth, c, Q, A, nL⟩ := x
  obtain ⟨⟨⟨hx, hb, hml, hown, hts⟩, rfl, hK, hA, hAk, hSX, hlk, hfr, hlo⟩, hEX, hrc, hrs, hin1⟩ := C
  obtain ⟨hd, rfl⟩ := hd
  intro H lc ls hP hD hS hl2
  subst hst
  have hAB : ∀ q, va_A wc H.size q → A q := va_free hD hS hA isC hC
  have hroom : (rmK d mc ms).frames + 1 ≤ R.frames ∧ 8 + (nL2 + 11) + (rmK d mc ms).locals ≤ R.locals := by
    unfold rmK
    dsimp only
    omega
  have hpre : ∀ U : State, U.heap = H → s.WarmedH U.vm → va_Pc (.ref b :: As) (preK w wc H.size) (Value.ref b :: As).toArray U := fun U hU hW => ⟨rfl, by rw [hU], by rw [hU]; exact va_Psub hP isC hC, va_K.moved hW.alike hK, (hD.sub isC hnC hC).weaken (fun _ _ _ _ => trivial), hSX.call hS hU hW hAB, hEX.warm hW⟩
  refine va_callv (va_runIN (As := As) (rest := st) ⟨hx, hb, hml, hown, hts⟩ (hm H.size) ⟨va_cnB na hts (giC cm.1.2.2) rfl rfl rfl (hl s hEX) (hts _ cm.1.2.1) cm.2.2 hroom, cm.2.1, hts _ cm.1.1⟩ ⟨preK_blind, hpre⟩ rfl hn hl2.1 rfl (lv_room hcat) hd ⟨Nat.le_trans hrm.1 hrc, Nat.le_trans hrm.2 hrs⟩) hS (fun q _ h => hAB q h) hAB (fun u t H1 locs1 ht hvm hw hB hz hk hS1 => ?_)
  obtain ⟨hP1, hD1⟩ := hB
  rw [ht] at hP1
  obtain ⟨hP2, hD2⟩ := va_join (wr := wr) (w1 := u) hP hD isC isR hC hRr hnR hdis hk hAB hP1 hD1
  exact kk u hw H1 locs1 ls hP2 hD2 hS1 hl2
theorem c_reset (C : KC w own cc l0 d0 rc rs x) {idx d na nL2 b : Nat} {b2 : ByteArray} {S S2 : St} {y : MethodName} (w2 : Ww) (sh2 : List Sh) (wr : va_W) (isC isR : List Nat) (hd : dc cc pc (.invokevirtual idx) 3 np) (hl : Cond.methodLink own idx y ∈ tw) (cm : cmV y "NeighbourWires$Plan" b2 nL2 none na) (hna : 0 = na) (hkn : k ≤ rc ∧ n ≤ rs) (hro : d + 1 ≤ d0 ∧ nL2 ≤ 41) (hcat : (st.map fun v => v.category).sum ≤ 8) (hw2 : w2.2 = w.2) (hC : isC.map (fun i => W0[i]?) = (mkW w2 S 0 sh2).map some) (hRr : isR.map (fun i => W0[i]?) = wr.map some) (hnC : va_nd isC = true) (hnR : va_nd isR = true) (hdis : ∀ i ∈ isR, i ∉ isC) (h0 : ∃ fl, sh2[0]? = some (.inl (3, fl))) (hb0 : w2.1 0 = b) (hm : MV sh2 w2 l0 y b2 nL2 d [.ref (w2.1 0)] S S2) (kk : CX w x (wr ++ mkW w2 S2 0 sh2) k n np lo st) : CX w x W0 k n pc lo (.ref b :: st) := by
  obtain ⟨p, l, e, R, s, m, args, below, meth, c, Q, A, nL⟩ := x
  obtain ⟨⟨⟨hx, hb, hml, hown, hts⟩, rfl, hK, hA, hAk, hSX, hlk, hfr, hlo⟩, hEX, hrc, hrs, hin1⟩ := C
  obtain ⟨hd, rfl⟩ := hd
  intro H lc ls hP hD hS hl2
  subst hb0
  have hA2 : ∀ q, AW sh2 w2 H.size q → va_A (mkW w2 S 0 sh2) H.size q := by
    rintro q (⟨k9, h9, rfl⟩ | h)
    · have := mkW0 (w := w2) (S := S) (List.getElem?_eq_getElem h9)
      exact Or.inl ⟨k9, _, this⟩
    · exact Or.inr h
  have hAB : ∀ q, AW sh2 w2 H.size q → A q := fun q h => va_free hD hS hA isC hC q (hA2 q h)
  have hA3 : ∀ q, va_A (mkW w2 S 0 sh2) H.size q → AW sh2 w2 H.size q := by
    rintro q (⟨k9, e9, h9⟩ | h)
    · obtain ⟨g1, g2⟩ := mkW_ex h9
      exact Or.inl ⟨k9, g1, by rw [← Nat.zero_add k9]; exact g2⟩
    · exact Or.inr h
  have hroom : (rmD d).frames + 1 ≤ R.frames ∧ 8 + (nL2 + 11) + (rmD d).locals ≤ R.locals := by
    unfold rmD
    dsimp only
    omega
  have hPs : va_P w.2.2.1 cls (mkW w2 S 0 sh2) H := va_Psub hP isC hC
  have e1 : w2.2.2.1 = w.2.2.1 := by rw [hw2]
  have e2 : tysW w2 = tysW w := by unfold tysW; rw [show w2.2.1 = w.2.1 by rw [hw2]]
  have hSX2 : SX w2 A s s.heap := by unfold SX at hSX ⊢; rw [hw2]; exact hSX
  have hpre : ∀ U : State, U.heap = H → s.WarmedH U.vm → va_Pc [.ref (w2.1 0)] (preM sh2 w2 S H.size) (Value.ref (w2.1 0) :: []).toArray U := fun U hU hW => ⟨rfl, by rw [hU], by rw [hU, e1]; exact hPs, by rw [e1, e2]; exact va_K.moved hW.alike hK, (hD.sub isC hnC hC).weaken (fun _ _ _ _ => trivial), hSX2.call hS hU hW hAB⟩
  obtain ⟨fl, hfl⟩ := h0
  refine va_callv (va_runV (As := []) (rest := st) ⟨hx, hb, hml, hown, hts⟩ (hm H.size) (cwV na hts (giV cm hl) rfl rfl rfl cm.2 hroom) ⟨preM_blind, va_recv hK hPs (ci := 3) rfl (mkW0 hfl), hpre⟩ rfl hna hl2.1 rfl (lv_room hcat) hd ⟨by have h1 := hkn.1; omega, by have h1 := hkn.2; omega⟩) hS (fun q _ h => hAB q h) hAB (fun u t H1 locs1 ht hvm hw hB hz hk hS1 => ?_)
  subst hw
  obtain ⟨hP1, hD1⟩ := hB
  rw [ht, e1] at hP1
  obtain ⟨hP2, hD2⟩ := va_join (wr := wr) (w1 := mkW w2 u 0 sh2) hP hD isC isR hC hRr hnR hdis (fun q h1 h2 => hk q h1 (fun h3 => h2 (hA2 q h3))) (fun q h => hAB q (hA3 q h)) hP1 (hD1.weaken (fun _ q _ h => hA2 _ h))
  exact kk H1 locs1 ls hP2 hD2 hS1 hl2
theorem c_ret (C : KC w own cc l0 d0 rc rs x) (hd : dc cc pc .return_ 1 np) (hr : ∀ H lc ls, va_P w.2.2.1 cls W1 H → va_D x.2.2.2.2.2.2.2.2.2.2.2.1 W1 → va_S x.2.2.2.2.2.2.2.2.2.2.2.1 x.2.2.2.2.1.heap H lc → W x.1 x.2.1 x.2.2.1 x.2.2.2.1 x.2.2.2.2.1 x.2.2.2.2.2.1 x.2.2.2.2.2.2.1 x.2.2.2.2.2.2.2.1 x.2.2.2.2.2.2.2.2.1 x.2.2.2.2.2.2.2.2.2.1 H lc rc rs x.2.2.2.2.2.2.2.2.2.2.1 (F0 x.2.2.2.2.2.1 pc ls [])) (is : List Nat) (hnd : va_nd is = true) (hW : is.map (fun i => W0[i]?) = W1.map some) (hroom : k ≤ rc ∧ n ≤ rs) : CX w x W0 k n pc lo [] := by
  obtain ⟨p, l, e, R, s, m, args, below, meth, c, Q, A, nL⟩ := x
  obtain ⟨⟨⟨hx, hb, hml, hown, hts⟩, rfl, hK, hA, hAk, hSX, hlk, hfr, hlo⟩, hEX, hrc, hrs, hin1⟩ := C
  obtain ⟨hd, rfl⟩ := hd
  intro H lc ls hP hD hS hl2
  exact W.widen hroom.1 hroom.2 (hr H lc ls (va_Psub hP is hW) (hD.sub is hnd hW) hS)
def RK (w : Ww) (cc : ByteArray) (rc rs : Nat) (post : va_W → Prop) (x : Cx) : Prop := ∀ (W1 : va_W) (pc : Nat), decode cc pc = .ok (.return_, 1) → post W1 → ∀ H lc ls, va_P w.2.2.1 cls W1 H → va_D x.2.2.2.2.2.2.2.2.2.2.2.1 W1 → va_S x.2.2.2.2.2.2.2.2.2.2.2.1 x.2.2.2.2.1.heap H lc → W x.1 x.2.1 x.2.2.1 x.2.2.2.1 x.2.2.2.2.1 x.2.2.2.2.2.1 x.2.2.2.2.2.2.1 x.2.2.2.2.2.2.2.1 x.2.2.2.2.2.2.2.2.1 x.2.2.2.2.2.2.2.2.2.1 H lc rc rs x.2.2.2.2.2.2.2.2.2.2.1 (F0 x.2.2.2.2.2.1 pc ls [])
theorem MK.of {w : Ww} {l : Launch} {y : MethodName} {cc : ByteArray} {nL d rc rs : Nat} {av : List Value} {W0 : va_W} {post : va_W → Prop} {lo0 : List (Nat × Value)} (hy : plainName y.cls = true) (hin : y.name = "<init>") (hlen : (lg_sl av).length ≤ nL) (hlo : lv_args 0 av = lo0) (body : ∀ x : Cx, x.2.2.2.2.2.2.2.2.2.2.2.2 = nL → KC w y.cls cc l d rc rs x → RK w cc rc rs post x → CX w x W0 0 0 0 lo0 []) : MK w l y cc nL d rc rs av W0 post := by
  intro sz
  refine Met.ofW (cc := cc) (maxL := nL) (ret := none) hy rfl ?_
  intro p e s m args below meth c s₁ B hml hv
  obtain ⟨rfl, hsz, hP, hK, hD0, hSX, hEX⟩ := hv
  have hts := atoms_spec (ws := .code y cc nL none :: tw) B.pre
  have hown : s.vm.findClass y.cls = some m.cls := findClass_of_methodNamed B.named
  have hx := B.exec
  have hb := B.bytes
  have hr := B.returns
  have hlocks := B.notSynchronized
  have hname : meth.name = "<init>" := (name_of_methodNamed B.named B.method).1.trans hin
  subst hsz
  rw [lg_entry_eq]
  have hl := lv_entry av (n := nL) hlen
  rw [hlo] at hl
  refine body (p, l, e, _, s, m, _, below, meth, c, _, va_A W0 s.heap.size, nL) rfl ⟨⟨⟨B.exec, B.bytes, hml, hown, fun w hw => hts w (List.mem_cons_of_mem _ hw)⟩, rfl, hK, fun q h => Or.inr h, fun k hk => absurd hk (Nat.not_lt_zero _), hSX, hlocks, Nat.le_refl _, Nat.le_refl _⟩, hEX, Nat.le_refl _, Nat.le_refl _, fun _ => hname⟩ ?_ s.heap [] _ hP hD0.self va_S.rf hl
  intro W1 pc hd hpost H lc ls hP hD hS
  exact W.vret hx hb hr (fun t ht hW => ⟨⟨W1, rfl, hpost, by rw [ht]; exact hP, hD⟩, hS.F ht⟩) hS.2.2 hd hlocks
end CROWS
