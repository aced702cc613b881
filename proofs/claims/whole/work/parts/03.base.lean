/-! BASE: abstract states, worlds by shape, walks over them -/
abbrev St : Type := (Nat → Nat → Int32) × (Nat → Nat → Int64)
def sI (S : St) (q k : Nat) (v : Int32) : St := (fun a => if a = q then upd (S.1 a) k v else S.1 a, S.2)
def sL (S : St) (q k : Nat) (v : Int64) : St := (S.1, fun a => if a = q then vp_updL (S.2 a) k v else S.2 a)
def sA (S : St) (q : Nat) (f : Nat → Int32) : St := (fun a => if a = q then f else S.1 a, S.2)
def sB (S : St) (q : Nat) (f : Nat → Int64) : St := (S.1, fun a => if a = q then f else S.2 a)
/-- a cell's shape: an object (its class's place; a field is an int or the cell it names), or an array (kind, length, the cells of a row of references) -/
abbrev Sh : Type := (Nat × List (Option Nat)) ⊕ (Nat × Nat × List Nat)
/-- the world's names: addresses, array classes, classes' places, strings -/
abbrev Ww : Type := (Nat → Nat) × (Nat → ClassId) × va_G × (Nat → Nat) × (Nat → Nat)
def mkF (ad : Nat → Nat) (f : Nat → Int32) : Nat → List (Option Nat) → List Value
  | _, [] => []
  | k, none :: l => .int (f k) :: mkF ad f (k + 1) l
  | k, some r :: l => .ref (ad r) :: mkF ad f (k + 1) l
def mkE (w : Ww) (S : St) (q : Nat) : Sh → va_E
  | .inl o => .inr (o.1, mkF w.1 (S.1 q) 0 o.2)
  | .inr a => .inl (w.2.1 a.1, a.2.1, match a.1 with
    | 1 => .inr (.inl (S.2 q))
    | 4 => .inr (.inr (.inr (.inr (fun i => (a.2.2[i]?).map w.1))))
    | _ => .inl (S.1 q))
def mkW (w : Ww) (S : St) : Nat → List Sh → va_W
  | _, [] => []
  | q, s :: l => (w.1 q, mkE w S q s) :: mkW w S (q + 1) l
theorem mkF_n {ad : Nat → Nat} {f : Nat → Int32} : ∀ {fl : List (Option Nat)} {q k : Nat}, fl[k]? = some none → (mkF ad f q fl)[k]? = some (.int (f (q + k)))
  | [], q, k, h => by simp at h
  | none :: l, q, 0, _ => rfl
  | some r :: l, q, 0, h => by simp at h
  | none :: l, q, k + 1, h => by
    have h2 : l[k]? = some none := by simpa using h
    have := mkF_n (ad := ad) (f := f) (q := q + 1) h2
    show (mkF ad f (q + 1) l)[k]? = _
    rw [this, show q + 1 + k = q + (k + 1) by omega]
  | some r :: l, q, k + 1, h => by
    have h2 : l[k]? = some none := by simpa using h
    have := mkF_n (ad := ad) (f := f) (q := q + 1) h2
    show (mkF ad f (q + 1) l)[k]? = _
    rw [this, show q + 1 + k = q + (k + 1) by omega]
theorem mkF_s {ad : Nat → Nat} {f : Nat → Int32} {r : Nat} : ∀ {fl : List (Option Nat)} {q k : Nat}, fl[k]? = some (some r) → (mkF ad f q fl)[k]? = some (.ref (ad r))
  | [], q, k, h => by simp at h
  | none :: l, q, 0, h => by simp at h
  | some r' :: l, q, 0, h => by
    have : r' = r := by simpa using h
    subst this
    rfl
  | none :: l, q, k + 1, h => by
    have h2 : l[k]? = some (some r) := by simpa using h
    exact mkF_s (ad := ad) (f := f) (q := q + 1) h2
  | some r' :: l, q, k + 1, h => by
    have h2 : l[k]? = some (some r) := by simpa using h
    exact mkF_s (ad := ad) (f := f) (q := q + 1) h2
theorem mkF_len {ad : Nat → Nat} {f : Nat → Int32} : ∀ {fl : List (Option Nat)} {q : Nat}, (mkF ad f q fl).length = fl.length
  | [], _ => rfl
  | none :: l, q => by show (mkF ad f (q + 1) l).length + 1 = _; rw [mkF_len]; rfl
  | some r :: l, q => by show (mkF ad f (q + 1) l).length + 1 = _; rw [mkF_len]; rfl
theorem mkF_ne {ad : Nat → Nat} {f : Nat → Int32} {v : Int32} {j : Nat} : ∀ {fl : List (Option Nat)} {q : Nat}, j < q → mkF ad (upd f j v) q fl = mkF ad f q fl
  | [], _, _ => rfl
  | none :: l, q, h => by
    show Value.int (upd f j v q) :: mkF ad (upd f j v) (q + 1) l = Value.int (f q) :: mkF ad f (q + 1) l
    rw [mkF_ne (by omega), pk_un (by omega)]
  | some r :: l, q, h => by
    show Value.ref (ad r) :: mkF ad (upd f j v) (q + 1) l = Value.ref (ad r) :: mkF ad f (q + 1) l
    rw [mkF_ne (by omega)]
theorem mkF_set {ad : Nat → Nat} {f : Nat → Int32} {v : Int32} : ∀ {fl : List (Option Nat)} {q k : Nat}, fl[k]? = some none → (mkF ad f q fl).set k (.int v) = mkF ad (upd f (q + k) v) q fl
  | [], q, k, h => by simp at h
  | none :: l, q, 0, _ => by
    show Value.int v :: mkF ad f (q + 1) l = Value.int (upd f q v q) :: mkF ad (upd f q v) (q + 1) l
    rw [mkF_ne (by omega), pk_us]
  | some r :: l, q, 0, h => by simp at h
  | none :: l, q, k + 1, h => by
    have h2 : l[k]? = some none := by simpa using h
    show Value.int (f q) :: (mkF ad f (q + 1) l).set k (.int v) = Value.int (upd f (q + (k + 1)) v q) :: mkF ad (upd f (q + (k + 1)) v) (q + 1) l
    rw [mkF_set h2, show q + 1 + k = q + (k + 1) by omega, pk_un (by omega)]
  | some r :: l, q, k + 1, h => by
    have h2 : l[k]? = some none := by simpa using h
    show Value.ref (ad r) :: (mkF ad f (q + 1) l).set k (.int v) = Value.ref (ad r) :: mkF ad (upd f (q + (k + 1)) v) (q + 1) l
    rw [mkF_set h2, show q + 1 + k = q + (k + 1) by omega]
theorem mkW_get {w : Ww} {S : St} {s : Sh} : ∀ {l : List Sh} {q k : Nat}, l[k]? = some s → (mkW w S q l)[k]? = some (w.1 (q + k), mkE w S (q + k) s)
  | [], q, k, h => by simp at h
  | a :: l, q, 0, h => by
    have : a = s := by simpa using h
    subst this
    rfl
  | a :: l, q, k + 1, h => by
    have h2 : l[k]? = some s := by simpa using h
    have := mkW_get (w := w) (S := S) (q := q + 1) h2
    show (mkW w S (q + 1) l)[k]? = _
    rw [this, show q + 1 + k = q + (k + 1) by omega]
theorem mkW_ex {w : Ww} {S : St} : ∀ {l : List Sh} {q k : Nat} {p : Nat × va_E}, (mkW w S q l)[k]? = some p → k < l.length ∧ p.1 = w.1 (q + k)
  | [], q, k, p, h => by simp [mkW] at h
  | a :: l, q, 0, p, h => by
    have : (w.1 q, mkE w S q a) = p := by simpa [mkW] using h
    subst this
    exact ⟨Nat.succ_pos _, rfl⟩
  | a :: l, q, k + 1, p, h => by
    have h2 : (mkW w S (q + 1) l)[k]? = some p := by simpa [mkW] using h
    obtain ⟨h3, h4⟩ := mkW_ex h2
    exact ⟨Nat.succ_lt_succ h3, by rw [h4, show q + 1 + k = q + (k + 1) by omega]⟩
/-- states that say the same of the cells from q on make the same world -/
theorem mkE_congr {w : Ww} {S S' : St} {q : Nat} {s : Sh} (h1 : S'.1 q = S.1 q) (h2 : S'.2 q = S.2 q) : mkE w S' q s = mkE w S q s := by
  cases s with
  | inl o => show (Sum.inr (o.1, mkF w.1 (S'.1 q) 0 o.2) : va_E) = Sum.inr (o.1, mkF w.1 (S.1 q) 0 o.2); rw [h1]
  | inr a => unfold mkE; rw [h1, h2]
theorem mkW_congr {w : Ww} {S S' : St} : ∀ {l : List Sh} {q : Nat}, (∀ a, q ≤ a → S'.1 a = S.1 a ∧ S'.2 a = S.2 a) → mkW w S' q l = mkW w S q l
  | [], _, _ => rfl
  | s :: l, q, h => by
    show (w.1 q, mkE w S' q s) :: mkW w S' (q + 1) l = (w.1 q, mkE w S q s) :: mkW w S (q + 1) l
    rw [mkE_congr (h q (Nat.le_refl q)).1 (h q (Nat.le_refl q)).2, mkW_congr (fun a ha => h a (by omega))]
theorem mkW_set {w : Ww} {S S' : St} {s : Sh} {e : va_E} : ∀ {l : List Sh} {q k : Nat}, l[k]? = some s → (∀ a, a ≠ q + k → S'.1 a = S.1 a ∧ S'.2 a = S.2 a) → mkE w S' (q + k) s = e → (mkW w S q l).set k (w.1 (q + k), e) = mkW w S' q l
  | [], q, k, h, _, _ => by simp at h
  | a :: l, q, 0, h, h2, h3 => by
    have : a = s := by simpa using h
    subst this
    show (w.1 (q + 0), e) :: mkW w S (q + 1) l = (w.1 q, mkE w S' q a) :: mkW w S' (q + 1) l
    rw [mkW_congr (S := S) (S' := S') (fun a ha => h2 a (by omega)), ← h3]
    rfl
  | a :: l, q, k + 1, h, h2, h3 => by
    have h4 : l[k]? = some s := by simpa using h
    have e1 : q + 1 + k = q + (k + 1) := by omega
    show (w.1 q, mkE w S q a) :: (mkW w S (q + 1) l).set k (w.1 (q + (k + 1)), e) = (w.1 q, mkE w S' q a) :: mkW w S' (q + 1) l
    rw [← e1] at h2 h3 ⊢
    rw [mkW_set h4 h2 h3, mkE_congr (S := S) (S' := S') (h2 q (by omega)).1 (h2 q (by omega)).2]
/-- the cells of a world's shape, and those that are new -/
def AW (sh : List Sh) (w : Ww) (sz : Nat) : Nat → Prop := fun q => (∃ k, k < sh.length ∧ q = w.1 k) ∨ sz ≤ q
def lenS : List Nat := [5, 3, 4, 6, 4, 4]
def txS (i : Nat) : String := ["wires", "own", "side", "shield", "send", "step"].getD i ""
def ixS (i : Nat) : Nat := [50, 56, 58, 60, 62, 64].getD i 0
def bytS : List (List Int32) := [[119, 105, 114, 101, 115], [111, 119, 110], [115, 105, 100, 101], [115, 104, 105, 101, 108, 100], [115, 101, 110, 100], [115, 116, 101, 112]]
/-- the String constants of the tape -/
def SX (w : Ww) (A : Nat → Prop) (U : State) (H : Heap) : Prop := vk_S 6 lenS bytS w.2.2.2.1 w.2.2.2.2 A U H ∧ (∀ i : Nat, i < 6 → vk_R "NeighbourWires$Tape" (ixS i) (txS i) (w.2.2.2.1 i) U) ∧ va_Z "java/lang/String" "COMPACT_STRINGS" "Z" (.int 1) A U H ∧ va_Zq "jdk/internal/util/Preconditions" "SIOOBE_FORMATTER" "Ljava/util/function/BiFunction;" A U H
def tysW (w : Ww) : List (ClassId × FieldType) := [(w.2.1 0, .int), (w.2.1 1, .long), (w.2.1 2, .byte), (w.2.1 3, .boolean), (w.2.1 4, .object "NeighbourWires$Sheet")]
/-- what a walk stands in -/
abbrev Cx : Type := Program × Launch × Env × Room × State × MethodId × Array Value × List Frame × Method × Code × (State → Prop) × (Nat → Prop) × Nat
def WX (sh : List Sh) (w : Ww) (x : Cx) (S : St) (pc : Nat) (lo : List (Nat × Value)) (st : List Value) : Prop :=
  match x with
  | (p, l, e, R, s, m, args, below, meth, c, Q, A, nL) => ∀ (H : Heap) (lc : List Loc) (ls : Array Slot), va_P w.2.2.1 cls (mkW w S 0 sh) H → va_D A (mkW w S 0 sh) → va_S A s.heap H lc → lv_has ls nL lo → W p l e R s m args below meth c H lc 0 0 Q (F0 m pc ls st)
def XC (sh : List Sh) (w : Ww) (own : String) (cc : ByteArray) (l0 : Launch) (d0 : Nat) (x : Cx) : Prop :=
  match x with
  | (p, l, e, R, s, m, args, below, meth, c, Q, A, nL) => (p.tables.exec = Jvm.exec ∧ c.code = cc ∧ c.maxLocals = nL ∧ s.vm.findClass own = some m.cls ∧ ∀ w ∈ tw, w.before args s = true) ∧ l = l0 ∧ va_K w.2.2.1 cls (tysW w) s ∧ (∀ q, s.heap.size ≤ q → A q) ∧ (∀ k, k < sh.length → A (w.1 k)) ∧ SX w A s s.heap ∧ meth.locks = false ∧ d0 ≤ R.frames ∧ 60 * d0 ≤ R.locals
/-- the end of a method that answers an int: its answer and state are rs -/
def RI (sh : List Sh) (w : Ww) (cc : ByteArray) (bz : Int32 → Prop) (rs : Int32 × St) (x : Cx) : Prop := ∀ (pc : Nat) (lo : List (Nat × Value)) (v : Int32) (S1 : St), decode cc pc = .ok (.ireturn, 1) → some (v, S1) = some rs → bz v → WX sh w x S1 pc lo [.int v]
def RL' (sh : List Sh) (w : Ww) (cc : ByteArray) (rs : Int64 × St) (x : Cx) : Prop := ∀ (pc : Nat) (lo : List (Nat × Value)) (v : Int64) (S1 : St), decode cc pc = .ok (.lreturn, 1) → some (v, S1) = some rs → WX sh w x S1 pc lo [.long v]
def RV (sh : List Sh) (w : Ww) (cc : ByteArray) (rs : St) (x : Cx) : Prop := ∀ (pc : Nat) (lo : List (Nat × Value)) (S1 : St), decode cc pc = .ok (.return_, 1) → some S1 = some rs → WX sh w x S1 pc lo []
def bz01 (v : Int32) : Prop := v = 0 ∨ v = 1
def bzT (_ : Int32) : Prop := True
def rmD (d : Nat) : Room := { frames := d, cells := 0, slots := 0, locals := 60 * d }
def preM (sh : List Sh) (w : Ww) (S : St) (sz : Nat) (U : State) : Prop := U.heap.size = sz ∧ va_P w.2.2.1 cls (mkW w S 0 sh) U.heap ∧ va_K w.2.2.1 cls (tysW w) U ∧ va_D (fun _ => True) (mkW w S 0 sh) ∧ SX w (AW sh w sz) U U.heap
def posM (sh : List Sh) (w : Ww) (sz : Nat) (u : St) (t : State) : Prop := va_P w.2.2.1 cls (mkW w u 0 sh) t.heap ∧ va_D (AW sh w sz) (mkW w u 0 sh)
/-- contracts: a method that answers an int; a long; nothing -/
def MI (sh : List Sh) (w : Ww) (l : Launch) (y : MethodName) (cc : ByteArray) (nL : Nat) (ret : FieldType) (d : Nat) (av : List Value) (S : St) (r : Int32) (S' : St) (bz : Int32 → Prop) : Prop := ∀ sz : Nat, Met l y (.code y cc nL (some ret) :: tw) (rmD d) (va_Pc av (preM sh w S sz)) (va_Qi (fun (r1 : Int32) (u : St) => r1 = r ∧ u = S' ∧ bz r1) (posM sh w sz) (AW sh w sz)) 0 0 (AW sh w sz)
def ML (sh : List Sh) (w : Ww) (l : Launch) (y : MethodName) (cc : ByteArray) (nL : Nat) (d : Nat) (av : List Value) (S : St) (r : Int64) (S' : St) : Prop := ∀ sz : Nat, Met l y (.code y cc nL (some .long) :: tw) (rmD d) (va_Pc av (preM sh w S sz)) (va_Ql (fun (r1 : Int64) (u : St) => r1 = r ∧ u = S') (posM sh w sz) (AW sh w sz)) 0 0 (AW sh w sz)
def MV (sh : List Sh) (w : Ww) (l : Launch) (y : MethodName) (cc : ByteArray) (nL : Nat) (d : Nat) (av : List Value) (S : St) (S' : St) : Prop := ∀ sz : Nat, Met l y (.code y cc nL none :: tw) (rmD d) (va_Pc av (preM sh w S sz)) (va_Qv (fun (u : St) => u = S') (posM sh w sz) (AW sh w sz)) 0 0 (AW sh w sz)
def dc (cc : ByteArray) (pc : Nat) (i : Instr) (len n : Nat) : Prop := decode cc pc = .ok (i, len) ∧ pc + len = n
