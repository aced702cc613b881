/-! ROWS of a walk over WX -/
section ROWS
variable {sh : List Sh} {w : Ww} {own : String} {cc : ByteArray} {l0 : Launch} {d0 : Nat} {x : Cx} {S : St} {pc n : Nat} {lo lo' : List (Nat × Value)} {st : List Value}
def dj (cc : ByteArray) (pc : Nat) (i : Instr) (off : Int) (n t : Nat) : Prop := decode cc pc = .ok (i, 3) ∧ pc + 3 = n ∧ (pc : Int) + off = (t : Int)
def bnd {α β : Type} (v : α) (k : α → β) : β := k v
def jn {α β : Type} (k : α) (b : α → β) : β := b k
def cal {α β : Type} (f : Option (α × St)) (k : α → St → Option β) : Option β := match f with
  | some (r, S) => k r S
  | none => none
def cav {β : Type} (f : Option St) (k : St → Option β) : Option β := match f with
  | some S => k S
  | none => none
def crd {α β : Type} (f : Option α) (k : α → Option β) : Option β := match f with
  | some r => k r
  | none => none
def chk {β : Type} (i : Int32) (n : Nat) (k : Option β) : Option β := if 0 ≤ i ∧ i.toNatClampNeg < n then k else none
def nz {β : Type} (d : Int32) (k : Option β) : Option β := if d = 0 then none else k
def jshl (x y : Int32) : Int32 := x <<< (y &&& 31)
def jshr (x y : Int32) : Int32 := x >>> (y &&& 31)
def jushr (x y : Int32) : Int32 := (x.toUInt32 >>> (y.toUInt32 &&& Int32.toUInt32 31)).toInt32
def jrem (x y : Int32) : Int32 := x - x / y * y
def jlshl (x : Int64) (y : Int32) : Int64 := x <<< (y.toInt64 &&& 63)
def jlshr (x : Int64) (y : Int32) : Int64 := x >>> (y.toInt64 &&& 63)
def jlushr (x : Int64) (y : Int32) : Int64 := (x.toUInt64 >>> (y.toInt64.toUInt64 &&& Int64.toUInt64 63)).toInt64
def jb (x : Int32) : Int32 := x.toInt8.toInt32
def js (x : Int32) : Int32 := x.toInt16.toInt32
def jmax (x y : Int32) : Int32 := if x < y then y else x
def jmin (x y : Int32) : Int32 := if y < x then y else x
theorem chk_in {β : Type} {i : Int32} {N : Nat} {k : Option β} {rs : β} (h : chk i N k = some rs) : vp_in i N ∧ i.toNatClampNeg < N ∧ k = some rs := by
  unfold chk at h
  by_cases hc : 0 ≤ i ∧ i.toNatClampNeg < N
  · rw [if_pos hc] at h
    refine ⟨fun q => ?_, hc.2, h⟩
    rcases q with q | q
    · exact absurd q (Int32.not_lt.mpr hc.1)
    · omega
  · rw [if_neg hc] at h
    cases h
def zk {β : Type} (v : Int32) (k : Option β) : Option β := if v = 0 ∨ v = 1 then k else none
theorem zk_in {β : Type} {v : Int32} {k : Option β} {rs : β} (h : zk v k = some rs) : (v = 0 ∨ v = 1) ∧ k = some rs := by
  unfold zk at h
  by_cases hc : v = 0 ∨ v = 1
  · rw [if_pos hc] at h; exact ⟨hc, h⟩
  · rw [if_neg hc] at h; cases h
theorem nz_in {β : Type} {d : Int32} {k : Option β} {rs : β} (h : nz d k = some rs) : ¬ d = 0 ∧ k = some rs := by
  unfold nz at h
  by_cases hc : d = 0
  · rw [if_pos hc] at h; cases h
  · rw [if_neg hc] at h; exact ⟨hc, h⟩
theorem cal_in {α β : Type} {f : Option (α × St)} {k : α → St → Option β} {rs : β} (h : cal f k = some rs) : ∃ r S1, f = some (r, S1) ∧ k r S1 = some rs := by
  match f, h with
  | some (r, S1), h => exact ⟨r, S1, rfl, h⟩
theorem cav_in {β : Type} {f : Option St} {k : St → Option β} {rs : β} (h : cav f k = some rs) : ∃ S1, f = some S1 ∧ k S1 = some rs := by
  match f, h with
  | some S1, h => exact ⟨S1, rfl, h⟩
theorem crd_in {α β : Type} {f : Option α} {k : α → Option β} {rs : β} (h : crd f k = some rs) : ∃ r, f = some r ∧ k r = some rs := by
  match f, h with
  | some r, h => exact ⟨r, rfl, h⟩
theorem x_ite {c : Prop} [Decidable c] {α : Type} {X Y : Option α} {rs : α} (hf : (if c then X else Y) = some rs) : (c ∧ X = some rs) ∨ (¬ c ∧ Y = some rs) := by
  by_cases hc : c
  · rw [if_pos hc] at hf; exact Or.inl ⟨hc, hf⟩
  · rw [if_neg hc] at hf; exact Or.inr ⟨hc, hf⟩
theorem x_bi {v : Int32} {α : Type} {K : Int32 → Option α} {rs : α} (hf : bnd v K = some rs) (kk : ∀ y, K y = some rs → WX sh w x S pc lo (.int y :: st)) : WX sh w x S pc lo (.int v :: st) := kk v hf
theorem x_bl {v : Int64} {α : Type} {K : Int64 → Option α} {rs : α} (hf : bnd v K = some rs) (kk : ∀ y, K y = some rs → WX sh w x S pc lo (.long y :: st)) : WX sh w x S pc lo (.long v :: st) := kk v hf
theorem x_retR {bz : Int32 → Prop} {v r : Int32} (hR : RI sh w cc bz (r, S) x) (hd : dc cc pc .ireturn 1 n) (hf : some v = some r) (hb : bz v) : WX sh w x S pc lo [.int v] := hR _ _ _ _ hd.1 (by cases hf; rfl) hb
theorem x_retL {v r : Int64} (hR : RL' sh w cc (r, S) x) (hd : dc cc pc .lreturn 1 n) (hf : some v = some r) : WX sh w x S pc lo [.long v] := hR _ _ _ _ hd.1 (by cases hf; rfl)
theorem x_bnd {α β : Type} {v : α} {k : α → Option β} {rs : β} {G : α → Prop} (hf : bnd v k = some rs) (kk : ∀ y, k y = some rs → G y) : G v := kk v hf
theorem x_jn {α β : Type} {k : α} {b : α → Option β} {rs : β} {G : Prop} (P : α → Prop) (hf : jn k b = some rs) (hk : P k) (kk : ∀ J, P J → b J = some rs → G) : G := kk k hk hf
theorem x_sub (ks : List Nat) (hl : lv_pick lo ks = lo') (kk : WX sh w x S pc lo' st) : WX sh w x S pc lo st := by
  obtain ⟨p, l, e, R, s, m, args, below, meth, c, Q, A, nL⟩ := x
  intro H lc ls hP hD hS hl2
  exact kk H lc ls hP hD hS (lv_sub hl2 ks hl)
theorem x_iload (C : XC sh w own cc l0 d0 x) {i : Nat} {v : Int32} (hd : dc cc pc (.iload i) 2 n) (k : Nat) (hl : lo[k]? = some (i, .int v)) (kk : WX sh w x S n lo (.int v :: st)) : WX sh w x S pc lo st := by
  obtain ⟨p, l, e, R, s, m, args, below, meth, c, Q, A, nL⟩ := x
  obtain ⟨⟨hx, hb, hml, hown, hts⟩, rfl, hK, hA, hAk, hSX, hlk, hfr, hlo⟩ := C
  obtain ⟨hd, rfl⟩ := hd
  intro H lc ls hP hD hS hl2
  exact lv_iload hx hb hd (lv_at hl2 k hl) (kk H lc ls hP hD hS hl2)
theorem x_iload_n (C : XC sh w own cc l0 d0 x) {i : Fin 4} {j : Nat} {v : Int32} (hd : dc cc pc (.iload_n i) 1 n) (k : Nat) (hl : lo[k]? = some (j, .int v)) (kk : WX sh w x S n lo (.int v :: st)) (hi : (i : Nat) = j := by rfl) : WX sh w x S pc lo st := by
  obtain ⟨p, l, e, R, s, m, args, below, meth, c, Q, A, nL⟩ := x
  obtain ⟨⟨hx, hb, hml, hown, hts⟩, rfl, hK, hA, hAk, hSX, hlk, hfr, hlo⟩ := C
  obtain ⟨hd, rfl⟩ := hd
  intro H lc ls hP hD hS hl2
  exact lv_iload_n hx hb hd hi (lv_at hl2 k hl) (kk H lc ls hP hD hS hl2)
theorem x_lload (C : XC sh w own cc l0 d0 x) {i : Nat} {v : Int64} (hd : dc cc pc (.lload i) 2 n) (k : Nat) (hl : lo[k]? = some (i, .long v)) (kk : WX sh w x S n lo (.long v :: st)) : WX sh w x S pc lo st := by
  obtain ⟨p, l, e, R, s, m, args, below, meth, c, Q, A, nL⟩ := x
  obtain ⟨⟨hx, hb, hml, hown, hts⟩, rfl, hK, hA, hAk, hSX, hlk, hfr, hlo⟩ := C
  obtain ⟨hd, rfl⟩ := hd
  intro H lc ls hP hD hS hl2
  exact lv_lload hx hb hd (lv_at hl2 k hl) (kk H lc ls hP hD hS hl2)
theorem x_lload_n (C : XC sh w own cc l0 d0 x) {i : Fin 4} {j : Nat} {v : Int64} (hd : dc cc pc (.lload_n i) 1 n) (k : Nat) (hl : lo[k]? = some (j, .long v)) (kk : WX sh w x S n lo (.long v :: st)) (hi : (i : Nat) = j := by rfl) : WX sh w x S pc lo st := by
  obtain ⟨p, l, e, R, s, m, args, below, meth, c, Q, A, nL⟩ := x
  obtain ⟨⟨hx, hb, hml, hown, hts⟩, rfl, hK, hA, hAk, hSX, hlk, hfr, hlo⟩ := C
  obtain ⟨hd, rfl⟩ := hd
  intro H lc ls hP hD hS hl2
  exact lv_lload_n hx hb hd hi (lv_at hl2 k hl) (kk H lc ls hP hD hS hl2)
theorem x_aload (C : XC sh w own cc l0 d0 x) {i a : Nat} (hd : dc cc pc (.aload i) 2 n) (k : Nat) (hl : lo[k]? = some (i, .ref a)) (kk : WX sh w x S n lo (.ref a :: st)) : WX sh w x S pc lo st := by
  obtain ⟨p, l, e, R, s, m, args, below, meth, c, Q, A, nL⟩ := x
  obtain ⟨⟨hx, hb, hml, hown, hts⟩, rfl, hK, hA, hAk, hSX, hlk, hfr, hlo⟩ := C
  obtain ⟨hd, rfl⟩ := hd
  intro H lc ls hP hD hS hl2
  exact lv_aload hx hb hd (lv_at hl2 k hl) (kk H lc ls hP hD hS hl2)
theorem x_aload_n (C : XC sh w own cc l0 d0 x) {i : Fin 4} {j a : Nat} (hd : dc cc pc (.aload_n i) 1 n) (k : Nat) (hl : lo[k]? = some (j, .ref a)) (kk : WX sh w x S n lo (.ref a :: st)) (hi : (i : Nat) = j := by rfl) : WX sh w x S pc lo st := by
  obtain ⟨p, l, e, R, s, m, args, below, meth, c, Q, A, nL⟩ := x
  obtain ⟨⟨hx, hb, hml, hown, hts⟩, rfl, hK, hA, hAk, hSX, hlk, hfr, hlo⟩ := C
  obtain ⟨hd, rfl⟩ := hd
  intro H lc ls hP hD hS hl2
  exact lv_aload_n hx hb hd hi (lv_at hl2 k hl) (kk H lc ls hP hD hS hl2)
theorem x_istore (C : XC sh w own cc l0 d0 x) {i : Nat} {v : Int32} (hd : dc cc pc (.istore i) 2 n) (lo2 : List (Nat × Value)) (hnL : i < x.2.2.2.2.2.2.2.2.2.2.2.2) (hl : (i, Value.int v) :: lo.filter (fun q => !(q.1 == i) && !(q.1 + 1 == i && q.2.category == 2)) = lo2) (kk : WX sh w x S n lo2 st) : WX sh w x S pc lo (.int v :: st) := by
  obtain ⟨p, l, e, R, s, m, args, below, meth, c, Q, A, nL⟩ := x
  obtain ⟨⟨hx, hb, hml, hown, hts⟩, rfl, hK, hA, hAk, hSX, hlk, hfr, hlo⟩ := C
  obtain ⟨hd, rfl⟩ := hd
  intro H lc ls hP hD hS hl2
  exact lv_istore hx hb hd hl2 hnL hl (fun ls2 hl3 => kk H lc ls2 hP hD hS hl3)
theorem x_istore_n (C : XC sh w own cc l0 d0 x) {i : Fin 4} {j : Nat} {v : Int32} (hd : dc cc pc (.istore_n i) 1 n) (lo2 : List (Nat × Value)) (hnL : j < x.2.2.2.2.2.2.2.2.2.2.2.2) (hl : (j, Value.int v) :: lo.filter (fun q => !(q.1 == j) && !(q.1 + 1 == j && q.2.category == 2)) = lo2) (kk : WX sh w x S n lo2 st) (hi : (i : Nat) = j := by rfl) : WX sh w x S pc lo (.int v :: st) := by
  obtain ⟨p, l, e, R, s, m, args, below, meth, c, Q, A, nL⟩ := x
  obtain ⟨⟨hx, hb, hml, hown, hts⟩, rfl, hK, hA, hAk, hSX, hlk, hfr, hlo⟩ := C
  obtain ⟨hd, rfl⟩ := hd
  intro H lc ls hP hD hS hl2
  exact lv_istore_n hx hb hd hi hl2 hnL hl (fun ls2 hl3 => kk H lc ls2 hP hD hS hl3)
theorem x_astore (C : XC sh w own cc l0 d0 x) {i : Nat} {v : Nat} (hd : dc cc pc (.astore i) 2 n) (lo2 : List (Nat × Value)) (hnL : i < x.2.2.2.2.2.2.2.2.2.2.2.2) (hl : (i, Value.ref v) :: lo.filter (fun q => !(q.1 == i) && !(q.1 + 1 == i && q.2.category == 2)) = lo2) (kk : WX sh w x S n lo2 st) : WX sh w x S pc lo (.ref v :: st) := by
  obtain ⟨p, l, e, R, s, m, args, below, meth, c, Q, A, nL⟩ := x
  obtain ⟨⟨hx, hb, hml, hown, hts⟩, rfl, hK, hA, hAk, hSX, hlk, hfr, hlo⟩ := C
  obtain ⟨hd, rfl⟩ := hd
  intro H lc ls hP hD hS hl2
  exact lv_astore hx hb hd hl2 hnL hl (fun ls2 hl3 => kk H lc ls2 hP hD hS hl3)
theorem x_astore_n (C : XC sh w own cc l0 d0 x) {i : Fin 4} {j : Nat} {v : Nat} (hd : dc cc pc (.astore_n i) 1 n) (lo2 : List (Nat × Value)) (hnL : j < x.2.2.2.2.2.2.2.2.2.2.2.2) (hl : (j, Value.ref v) :: lo.filter (fun q => !(q.1 == j) && !(q.1 + 1 == j && q.2.category == 2)) = lo2) (kk : WX sh w x S n lo2 st) (hi : (i : Nat) = j := by rfl) : WX sh w x S pc lo (.ref v :: st) := by
  obtain ⟨p, l, e, R, s, m, args, below, meth, c, Q, A, nL⟩ := x
  obtain ⟨⟨hx, hb, hml, hown, hts⟩, rfl, hK, hA, hAk, hSX, hlk, hfr, hlo⟩ := C
  obtain ⟨hd, rfl⟩ := hd
  intro H lc ls hP hD hS hl2
  exact lv_astore_n hx hb hd hi hl2 hnL hl (fun ls2 hl3 => kk H lc ls2 hP hD hS hl3)
theorem x_lstore (C : XC sh w own cc l0 d0 x) {i : Nat} {v : Int64} (hd : dc cc pc (.lstore i) 2 n) (lo2 : List (Nat × Value)) (hnL : i + 1 < x.2.2.2.2.2.2.2.2.2.2.2.2) (hl : (i, Value.long v) :: lo.filter (fun q => !(q.1 == i) && (!(q.1 == i + 1) && !(q.1 + 1 == i && q.2.category == 2))) = lo2) (kk : WX sh w x S n lo2 st) : WX sh w x S pc lo (.long v :: st) := by
  obtain ⟨p, l, e, R, s, m, args, below, meth, c, Q, A, nL⟩ := x
  obtain ⟨⟨hx, hb, hml, hown, hts⟩, rfl, hK, hA, hAk, hSX, hlk, hfr, hlo⟩ := C
  obtain ⟨hd, rfl⟩ := hd
  intro H lc ls hP hD hS hl2
  exact lv_lstore hx hb hd hl2 hnL hl (fun ls2 hl3 => kk H lc ls2 hP hD hS hl3)
theorem x_iinc (C : XC sh w own cc l0 d0 x) {i : Nat} {v : Int32} {t : Int} {α : Type} {K : Int32 → Option α} {rs : α} (d : Int32) (hd : dc cc pc (.iinc i t) 3 n) (k : Nat) (hl : lo[k]? = some (i, .int v)) (hnL : i < x.2.2.2.2.2.2.2.2.2.2.2.2) (hf : bnd (v + d) K = some rs) (lo2 : Int32 → List (Nat × Value)) (hl3 : ∀ y, (i, Value.int y) :: lo.filter (fun q => !(q.1 == i) && !(q.1 + 1 == i && q.2.category == 2)) = lo2 y) (kk : ∀ y, K y = some rs → WX sh w x S n (lo2 y) st) (ht : Int32.ofInt t = d := by decide) : WX sh w x S pc lo st := by
  obtain ⟨p, l, e, R, s, m, args, below, meth, c, Q, A, nL⟩ := x
  obtain ⟨⟨hx, hb, hml, hown, hts⟩, rfl, hK, hA, hAk, hSX, hlk, hfr, hlo⟩ := C
  obtain ⟨hd, rfl⟩ := hd
  intro H lc ls hP hD hS hl2
  subst ht
  exact lv_iinc hx hb hd hl2 hl rfl hnL (hl3 _) (fun ls2 hl4 => kk _ hf H lc ls2 hP hD hS hl4)
theorem x_iconst (C : XC sh w own cc l0 d0 x) {i : Int} (hd : dc cc pc (.iconst i) 1 n) (v : Int32) (kk : WX sh w x S n lo (.int v :: st)) (hv : Int32.ofInt i = v := by decide) : WX sh w x S pc lo st := by
  obtain ⟨p, l, e, R, s, m, args, below, meth, c, Q, A, nL⟩ := x
  obtain ⟨⟨hx, hb, hml, hown, hts⟩, rfl, hK, hA, hAk, hSX, hlk, hfr, hlo⟩ := C
  obtain ⟨hd, rfl⟩ := hd
  intro H lc ls hP hD hS hl2
  exact lv_iconst hx hb hd hv (kk H lc ls hP hD hS hl2)
theorem x_bipush (C : XC sh w own cc l0 d0 x) {i : Int} (hd : dc cc pc (.bipush i) 2 n) (v : Int32) (kk : WX sh w x S n lo (.int v :: st)) (hv : (Int8.ofInt i).toInt32 = v := by decide) : WX sh w x S pc lo st := by
  obtain ⟨p, l, e, R, s, m, args, below, meth, c, Q, A, nL⟩ := x
  obtain ⟨⟨hx, hb, hml, hown, hts⟩, rfl, hK, hA, hAk, hSX, hlk, hfr, hlo⟩ := C
  obtain ⟨hd, rfl⟩ := hd
  intro H lc ls hP hD hS hl2
  exact lv_bipush hx hb hd hv (kk H lc ls hP hD hS hl2)
theorem x_sipush (C : XC sh w own cc l0 d0 x) {i : Int} (hd : dc cc pc (.sipush i) 3 n) (v : Int32) (kk : WX sh w x S n lo (.int v :: st)) (hv : (Int16.ofInt i).toInt32 = v := by decide) : WX sh w x S pc lo st := by
  obtain ⟨p, l, e, R, s, m, args, below, meth, c, Q, A, nL⟩ := x
  obtain ⟨⟨hx, hb, hml, hown, hts⟩, rfl, hK, hA, hAk, hSX, hlk, hfr, hlo⟩ := C
  obtain ⟨hd, rfl⟩ := hd
  intro H lc ls hP hD hS hl2
  exact lv_sipush hx hb hd hv (kk H lc ls hP hD hS hl2)
theorem x_lconst (C : XC sh w own cc l0 d0 x) {i : Fin 2} (hd : dc cc pc (.lconst i) 1 n) (v : Int64) (kk : WX sh w x S n lo (.long v :: st)) (hv : Int64.ofNat (i : Nat) = v := by decide) : WX sh w x S pc lo st := by
  obtain ⟨p, l, e, R, s, m, args, below, meth, c, Q, A, nL⟩ := x
  obtain ⟨⟨hx, hb, hml, hown, hts⟩, rfl, hK, hA, hAk, hSX, hlk, hfr, hlo⟩ := C
  obtain ⟨hd, rfl⟩ := hd
  intro H lc ls hP hD hS hl2
  exact lv_lconst hx hb hd hv (kk H lc ls hP hD hS hl2)
theorem x_ldc (C : XC sh w own cc l0 d0 x) {i : Nat} {v : Int32} (hd : dc cc pc (.ldc i) 2 n) (hw : Cond.constant own i v ∈ tw) (kk : WX sh w x S n lo (.int v :: st)) : WX sh w x S pc lo st := by
  obtain ⟨p, l, e, R, s, m, args, below, meth, c, Q, A, nL⟩ := x
  obtain ⟨⟨hx, hb, hml, hown, hts⟩, rfl, hK, hA, hAk, hSX, hlk, hfr, hlo⟩ := C
  obtain ⟨hd, rfl⟩ := hd
  intro H lc ls hP hD hS hl2
  exact lv_ldc hx hb hown (hts _ hw) hd (kk H lc ls hP hD hS hl2)
theorem x_ldcw (C : XC sh w own cc l0 d0 x) {i : Nat} {v : Int32} (hd : dc cc pc (.ldc_w i) 3 n) (hw : Cond.constant own i v ∈ tw) (kk : WX sh w x S n lo (.int v :: st)) : WX sh w x S pc lo st := by
  obtain ⟨p, l, e, R, s, m, args, below, meth, c, Q, A, nL⟩ := x
  obtain ⟨⟨hx, hb, hml, hown, hts⟩, rfl, hK, hA, hAk, hSX, hlk, hfr, hlo⟩ := C
  obtain ⟨hd, rfl⟩ := hd
  intro H lc ls hP hD hS hl2
  exact lv_ldcw hx hb hown (hts _ hw) hd (kk H lc ls hP hD hS hl2)
theorem x_lstore_n (C : XC sh w own cc l0 d0 x) {i : Fin 4} {j : Nat} {v : Int64} (hd : dc cc pc (.lstore_n i) 1 n) (lo2 : List (Nat × Value)) (hnL : j + 1 < x.2.2.2.2.2.2.2.2.2.2.2.2) (hl : (j, Value.long v) :: lo.filter (fun q => !(q.1 == j) && (!(q.1 == j + 1) && !(q.1 + 1 == j && q.2.category == 2))) = lo2) (kk : WX sh w x S n lo2 st) (hi : (i : Nat) = j := by rfl) : WX sh w x S pc lo (.long v :: st) := by
  obtain ⟨p, l, e, R, s, m, args, below, meth, c, Q, A, nL⟩ := x
  obtain ⟨⟨hx, hb, hml, hown, hts⟩, rfl, hK, hA, hAk, hSX, hlk, hfr, hlo⟩ := C
  obtain ⟨hd, rfl⟩ := hd
  intro H lc ls hP hD hS hl2
  exact lv_lstore_n hx hb hd hi hl2 hnL hl (fun ls2 hl3 => kk H lc ls2 hP hD hS hl3)
theorem x_ldc2 (C : XC sh w own cc l0 d0 x) {i : Nat} {v : Int64} (hd : dc cc pc (.ldc2_w i) 3 n) (hw : Cond.constantLong own i v ∈ tw) (kk : WX sh w x S n lo (.long v :: st)) : WX sh w x S pc lo st := by
  obtain ⟨p, l, e, R, s, m, args, below, meth, c, Q, A, nL⟩ := x
  obtain ⟨⟨hx, hb, hml, hown, hts⟩, rfl, hK, hA, hAk, hSX, hlk, hfr, hlo⟩ := C
  obtain ⟨hd, rfl⟩ := hd
  intro H lc ls hP hD hS hl2
  exact lv_ldc2 hx hb hown (hts _ hw) hd (kk H lc ls hP hD hS hl2)
theorem x_ldcS (C : XC sh w own cc l0 d0 x) {i : Nat} (hd : dc cc pc (.ldc i) 2 n) (ho : own = "NeighbourWires$Tape") (j : Nat) (hj : j < 6) (hi : ixS j = i) (kk : WX sh w x S n lo (.ref (w.2.2.2.1 j) :: st)) : WX sh w x S pc lo st := by
  obtain ⟨p, l, e, R, s, m, args, below, meth, c, Q, A, nL⟩ := x
  obtain ⟨⟨hx, hb, hml, hown, hts⟩, rfl, hK, hA, hAk, hSX, hlk, hfr, hlo⟩ := C
  obtain ⟨hd, rfl⟩ := hd
  intro H lc ls hP hD hS hl2
  subst hi; subst ho
  exact va_ldcS hx hb hown (hSX.2.1 j hj) hd (kk H lc ls hP hD hS hl2)
theorem x_iadd (C : XC sh w own cc l0 d0 x) {a b : Int32} (hd : dc cc pc .iadd 1 n) (kk : WX sh w x S n lo (.int (a + b) :: st)) : WX sh w x S pc lo (.int b :: .int a :: st) := by
  obtain ⟨p, l, e, R, s, m, args, below, meth, c, Q, A, nL⟩ := x
  obtain ⟨⟨hx, hb, hml, hown, hts⟩, rfl, hK, hA, hAk, hSX, hlk, hfr, hlo⟩ := C
  obtain ⟨hd, rfl⟩ := hd
  intro H lc ls hP hD hS hl2
  exact lv_iadd hx hb hd (kk H lc ls hP hD hS hl2)
theorem x_isub (C : XC sh w own cc l0 d0 x) {a b : Int32} (hd : dc cc pc .isub 1 n) (kk : WX sh w x S n lo (.int (a - b) :: st)) : WX sh w x S pc lo (.int b :: .int a :: st) := by
  obtain ⟨p, l, e, R, s, m, args, below, meth, c, Q, A, nL⟩ := x
  obtain ⟨⟨hx, hb, hml, hown, hts⟩, rfl, hK, hA, hAk, hSX, hlk, hfr, hlo⟩ := C
  obtain ⟨hd, rfl⟩ := hd
  intro H lc ls hP hD hS hl2
  exact lv_isub hx hb hd (kk H lc ls hP hD hS hl2)
theorem x_imul (C : XC sh w own cc l0 d0 x) {a b : Int32} (hd : dc cc pc .imul 1 n) (kk : WX sh w x S n lo (.int (a * b) :: st)) : WX sh w x S pc lo (.int b :: .int a :: st) := by
  obtain ⟨p, l, e, R, s, m, args, below, meth, c, Q, A, nL⟩ := x
  obtain ⟨⟨hx, hb, hml, hown, hts⟩, rfl, hK, hA, hAk, hSX, hlk, hfr, hlo⟩ := C
  obtain ⟨hd, rfl⟩ := hd
  intro H lc ls hP hD hS hl2
  exact lv_imul hx hb hd (kk H lc ls hP hD hS hl2)
theorem x_iand (C : XC sh w own cc l0 d0 x) {a b : Int32} (hd : dc cc pc .iand 1 n) (kk : WX sh w x S n lo (.int (a &&& b) :: st)) : WX sh w x S pc lo (.int b :: .int a :: st) := by
  obtain ⟨p, l, e, R, s, m, args, below, meth, c, Q, A, nL⟩ := x
  obtain ⟨⟨hx, hb, hml, hown, hts⟩, rfl, hK, hA, hAk, hSX, hlk, hfr, hlo⟩ := C
  obtain ⟨hd, rfl⟩ := hd
  intro H lc ls hP hD hS hl2
  exact lv_iand hx hb hd (kk H lc ls hP hD hS hl2)
theorem x_ior (C : XC sh w own cc l0 d0 x) {a b : Int32} (hd : dc cc pc .ior 1 n) (kk : WX sh w x S n lo (.int (a ||| b) :: st)) : WX sh w x S pc lo (.int b :: .int a :: st) := by
  obtain ⟨p, l, e, R, s, m, args, below, meth, c, Q, A, nL⟩ := x
  obtain ⟨⟨hx, hb, hml, hown, hts⟩, rfl, hK, hA, hAk, hSX, hlk, hfr, hlo⟩ := C
  obtain ⟨hd, rfl⟩ := hd
  intro H lc ls hP hD hS hl2
  exact lv_ior hx hb hd (kk H lc ls hP hD hS hl2)
theorem x_ixor (C : XC sh w own cc l0 d0 x) {a b : Int32} (hd : dc cc pc .ixor 1 n) (kk : WX sh w x S n lo (.int (a ^^^ b) :: st)) : WX sh w x S pc lo (.int b :: .int a :: st) := by
  obtain ⟨p, l, e, R, s, m, args, below, meth, c, Q, A, nL⟩ := x
  obtain ⟨⟨hx, hb, hml, hown, hts⟩, rfl, hK, hA, hAk, hSX, hlk, hfr, hlo⟩ := C
  obtain ⟨hd, rfl⟩ := hd
  intro H lc ls hP hD hS hl2
  exact lv_ixor hx hb hd (kk H lc ls hP hD hS hl2)
theorem x_ishl (C : XC sh w own cc l0 d0 x) {a b : Int32} (hd : dc cc pc .ishl 1 n) (kk : WX sh w x S n lo (.int (jshl a b) :: st)) : WX sh w x S pc lo (.int b :: .int a :: st) := by
  obtain ⟨p, l, e, R, s, m, args, below, meth, c, Q, A, nL⟩ := x
  obtain ⟨⟨hx, hb, hml, hown, hts⟩, rfl, hK, hA, hAk, hSX, hlk, hfr, hlo⟩ := C
  obtain ⟨hd, rfl⟩ := hd
  intro H lc ls hP hD hS hl2
  exact lv_ishl hx hb hd (kk H lc ls hP hD hS hl2)
theorem x_ishr (C : XC sh w own cc l0 d0 x) {a b : Int32} (hd : dc cc pc .ishr 1 n) (kk : WX sh w x S n lo (.int (jshr a b) :: st)) : WX sh w x S pc lo (.int b :: .int a :: st) := by
  obtain ⟨p, l, e, R, s, m, args, below, meth, c, Q, A, nL⟩ := x
  obtain ⟨⟨hx, hb, hml, hown, hts⟩, rfl, hK, hA, hAk, hSX, hlk, hfr, hlo⟩ := C
  obtain ⟨hd, rfl⟩ := hd
  intro H lc ls hP hD hS hl2
  exact lv_ishr hx hb hd (kk H lc ls hP hD hS hl2)
theorem x_ladd (C : XC sh w own cc l0 d0 x) {a b : Int64} (hd : dc cc pc .ladd 1 n) (kk : WX sh w x S n lo (.long (a + b) :: st)) : WX sh w x S pc lo (.long b :: .long a :: st) := by
  obtain ⟨p, l, e, R, s, m, args, below, meth, c, Q, A, nL⟩ := x
  obtain ⟨⟨hx, hb, hml, hown, hts⟩, rfl, hK, hA, hAk, hSX, hlk, hfr, hlo⟩ := C
  obtain ⟨hd, rfl⟩ := hd
  intro H lc ls hP hD hS hl2
  exact lv_ladd hx hb hd (kk H lc ls hP hD hS hl2)
theorem x_lsub (C : XC sh w own cc l0 d0 x) {a b : Int64} (hd : dc cc pc .lsub 1 n) (kk : WX sh w x S n lo (.long (a - b) :: st)) : WX sh w x S pc lo (.long b :: .long a :: st) := by
  obtain ⟨p, l, e, R, s, m, args, below, meth, c, Q, A, nL⟩ := x
  obtain ⟨⟨hx, hb, hml, hown, hts⟩, rfl, hK, hA, hAk, hSX, hlk, hfr, hlo⟩ := C
  obtain ⟨hd, rfl⟩ := hd
  intro H lc ls hP hD hS hl2
  exact lv_lsub hx hb hd (kk H lc ls hP hD hS hl2)
theorem x_land (C : XC sh w own cc l0 d0 x) {a b : Int64} (hd : dc cc pc .land 1 n) (kk : WX sh w x S n lo (.long (a &&& b) :: st)) : WX sh w x S pc lo (.long b :: .long a :: st) := by
  obtain ⟨p, l, e, R, s, m, args, below, meth, c, Q, A, nL⟩ := x
  obtain ⟨⟨hx, hb, hml, hown, hts⟩, rfl, hK, hA, hAk, hSX, hlk, hfr, hlo⟩ := C
  obtain ⟨hd, rfl⟩ := hd
  intro H lc ls hP hD hS hl2
  exact lv_land hx hb hd (kk H lc ls hP hD hS hl2)
theorem x_lor (C : XC sh w own cc l0 d0 x) {a b : Int64} (hd : dc cc pc .lor 1 n) (kk : WX sh w x S n lo (.long (a ||| b) :: st)) : WX sh w x S pc lo (.long b :: .long a :: st) := by
  obtain ⟨p, l, e, R, s, m, args, below, meth, c, Q, A, nL⟩ := x
  obtain ⟨⟨hx, hb, hml, hown, hts⟩, rfl, hK, hA, hAk, hSX, hlk, hfr, hlo⟩ := C
  obtain ⟨hd, rfl⟩ := hd
  intro H lc ls hP hD hS hl2
  exact lv_lor hx hb hd (kk H lc ls hP hD hS hl2)
theorem x_lxor (C : XC sh w own cc l0 d0 x) {a b : Int64} (hd : dc cc pc .lxor 1 n) (kk : WX sh w x S n lo (.long (a ^^^ b) :: st)) : WX sh w x S pc lo (.long b :: .long a :: st) := by
  obtain ⟨p, l, e, R, s, m, args, below, meth, c, Q, A, nL⟩ := x
  obtain ⟨⟨hx, hb, hml, hown, hts⟩, rfl, hK, hA, hAk, hSX, hlk, hfr, hlo⟩ := C
  obtain ⟨hd, rfl⟩ := hd
  intro H lc ls hP hD hS hl2
  exact lv_lxor hx hb hd (kk H lc ls hP hD hS hl2)
theorem x_idiv (C : XC sh w own cc l0 d0 x) {a b : Int32} (hd : dc cc pc .idiv 1 n) (hne : ¬ b = 0) (kk : WX sh w x S n lo (.int (a / b) :: st)) : WX sh w x S pc lo (.int b :: .int a :: st) := by
  obtain ⟨p, l, e, R, s, m, args, below, meth, c, Q, A, nL⟩ := x
  obtain ⟨⟨hx, hb, hml, hown, hts⟩, rfl, hK, hA, hAk, hSX, hlk, hfr, hlo⟩ := C
  obtain ⟨hd, rfl⟩ := hd
  intro H lc ls hP hD hS hl2
  exact lv_idiv hx hb hd hne (kk H lc ls hP hD hS hl2)
theorem x_irem (C : XC sh w own cc l0 d0 x) {a b : Int32} (hd : dc cc pc .irem 1 n) (hne : ¬ b = 0) (kk : WX sh w x S n lo (.int (jrem a b) :: st)) : WX sh w x S pc lo (.int b :: .int a :: st) := by
  obtain ⟨p, l, e, R, s, m, args, below, meth, c, Q, A, nL⟩ := x
  obtain ⟨⟨hx, hb, hml, hown, hts⟩, rfl, hK, hA, hAk, hSX, hlk, hfr, hlo⟩ := C
  obtain ⟨hd, rfl⟩ := hd
  intro H lc ls hP hD hS hl2
  exact lv_irem hx hb hd hne (kk H lc ls hP hD hS hl2)
theorem x_ineg (C : XC sh w own cc l0 d0 x) {a : Int32} (hd : dc cc pc .ineg 1 n) (kk : WX sh w x S n lo (.int (-a) :: st)) : WX sh w x S pc lo (.int a :: st) := by
  obtain ⟨p, l, e, R, s, m, args, below, meth, c, Q, A, nL⟩ := x
  obtain ⟨⟨hx, hb, hml, hown, hts⟩, rfl, hK, hA, hAk, hSX, hlk, hfr, hlo⟩ := C
  obtain ⟨hd, rfl⟩ := hd
  intro H lc ls hP hD hS hl2
  exact lv_ineg hx hb hd (kk H lc ls hP hD hS hl2)
theorem x_iushr (C : XC sh w own cc l0 d0 x) {a b : Int32} (hd : dc cc pc .iushr 1 n) (kk : WX sh w x S n lo (.int (jushr a b) :: st)) : WX sh w x S pc lo (.int b :: .int a :: st) := by
  obtain ⟨p, l, e, R, s, m, args, below, meth, c, Q, A, nL⟩ := x
  obtain ⟨⟨hx, hb, hml, hown, hts⟩, rfl, hK, hA, hAk, hSX, hlk, hfr, hlo⟩ := C
  obtain ⟨hd, rfl⟩ := hd
  intro H lc ls hP hD hS hl2
  exact lv_iushr hx hb hd rfl (kk H lc ls hP hD hS hl2)
theorem x_lushr (C : XC sh w own cc l0 d0 x) {a : Int64} {b : Int32} (hd : dc cc pc .lushr 1 n) (kk : WX sh w x S n lo (.long (jlushr a b) :: st)) : WX sh w x S pc lo (.int b :: .long a :: st) := by
  obtain ⟨p, l, e, R, s, m, args, below, meth, c, Q, A, nL⟩ := x
  obtain ⟨⟨hx, hb, hml, hown, hts⟩, rfl, hK, hA, hAk, hSX, hlk, hfr, hlo⟩ := C
  obtain ⟨hd, rfl⟩ := hd
  intro H lc ls hP hD hS hl2
  exact lv_lushr hx hb hd rfl (kk H lc ls hP hD hS hl2)
theorem x_lshl (C : XC sh w own cc l0 d0 x) {a : Int64} {b : Int32} (hd : dc cc pc .lshl 1 n) (kk : WX sh w x S n lo (.long (jlshl a b) :: st)) : WX sh w x S pc lo (.int b :: .long a :: st) := by
  obtain ⟨p, l, e, R, s, m, args, below, meth, c, Q, A, nL⟩ := x
  obtain ⟨⟨hx, hb, hml, hown, hts⟩, rfl, hK, hA, hAk, hSX, hlk, hfr, hlo⟩ := C
  obtain ⟨hd, rfl⟩ := hd
  intro H lc ls hP hD hS hl2
  exact lv_lshl hx hb hd rfl (kk H lc ls hP hD hS hl2)
theorem x_lshr (C : XC sh w own cc l0 d0 x) {a : Int64} {b : Int32} (hd : dc cc pc .lshr 1 n) (kk : WX sh w x S n lo (.long (jlshr a b) :: st)) : WX sh w x S pc lo (.int b :: .long a :: st) := by
  obtain ⟨p, l, e, R, s, m, args, below, meth, c, Q, A, nL⟩ := x
  obtain ⟨⟨hx, hb, hml, hown, hts⟩, rfl, hK, hA, hAk, hSX, hlk, hfr, hlo⟩ := C
  obtain ⟨hd, rfl⟩ := hd
  intro H lc ls hP hD hS hl2
  exact lv_lshr hx hb hd rfl (kk H lc ls hP hD hS hl2)
theorem x_i2l (C : XC sh w own cc l0 d0 x) {a : Int32} (hd : dc cc pc .i2l 1 n) (kk : WX sh w x S n lo (.long a.toInt64 :: st)) : WX sh w x S pc lo (.int a :: st) := by
  obtain ⟨p, l, e, R, s, m, args, below, meth, c, Q, A, nL⟩ := x
  obtain ⟨⟨hx, hb, hml, hown, hts⟩, rfl, hK, hA, hAk, hSX, hlk, hfr, hlo⟩ := C
  obtain ⟨hd, rfl⟩ := hd
  intro H lc ls hP hD hS hl2
  exact lv_i2l hx hb hd rfl (kk H lc ls hP hD hS hl2)
theorem x_l2i (C : XC sh w own cc l0 d0 x) {a : Int64} (hd : dc cc pc .l2i 1 n) (kk : WX sh w x S n lo (.int a.toInt32 :: st)) : WX sh w x S pc lo (.long a :: st) := by
  obtain ⟨p, l, e, R, s, m, args, below, meth, c, Q, A, nL⟩ := x
  obtain ⟨⟨hx, hb, hml, hown, hts⟩, rfl, hK, hA, hAk, hSX, hlk, hfr, hlo⟩ := C
  obtain ⟨hd, rfl⟩ := hd
  intro H lc ls hP hD hS hl2
  exact lv_l2i hx hb hd rfl (kk H lc ls hP hD hS hl2)
theorem x_i2b (C : XC sh w own cc l0 d0 x) {a : Int32} (hd : dc cc pc .i2b 1 n) (kk : WX sh w x S n lo (.int (jb a) :: st)) : WX sh w x S pc lo (.int a :: st) := by
  obtain ⟨p, l, e, R, s, m, args, below, meth, c, Q, A, nL⟩ := x
  obtain ⟨⟨hx, hb, hml, hown, hts⟩, rfl, hK, hA, hAk, hSX, hlk, hfr, hlo⟩ := C
  obtain ⟨hd, rfl⟩ := hd
  intro H lc ls hP hD hS hl2
  exact lv_i2b hx hb hd rfl (kk H lc ls hP hD hS hl2)
theorem x_i2s (C : XC sh w own cc l0 d0 x) {a : Int32} (hd : dc cc pc .i2s 1 n) (kk : WX sh w x S n lo (.int (js a) :: st)) : WX sh w x S pc lo (.int a :: st) := by
  obtain ⟨p, l, e, R, s, m, args, below, meth, c, Q, A, nL⟩ := x
  obtain ⟨⟨hx, hb, hml, hown, hts⟩, rfl, hK, hA, hAk, hSX, hlk, hfr, hlo⟩ := C
  obtain ⟨hd, rfl⟩ := hd
  intro H lc ls hP hD hS hl2
  exact lv_i2s hx hb hd rfl (kk H lc ls hP hD hS hl2)
theorem x_lcmp (C : XC sh w own cc l0 d0 x) {a b : Int64} (hd : dc cc pc .lcmp 1 n) (kk : WX sh w x S n lo (.int (lg_cmp a b) :: st)) : WX sh w x S pc lo (.long b :: .long a :: st) := by
  obtain ⟨p, l, e, R, s, m, args, below, meth, c, Q, A, nL⟩ := x
  obtain ⟨⟨hx, hb, hml, hown, hts⟩, rfl, hK, hA, hAk, hSX, hlk, hfr, hlo⟩ := C
  obtain ⟨hd, rfl⟩ := hd
  intro H lc ls hP hD hS hl2
  exact W.lcmp hx hb hd (kk H lc ls hP hD hS hl2)
theorem x_dup (C : XC sh w own cc l0 d0 x) {va : Value} (hd : dc cc pc .dup 1 n) (hc : va.category = 1) (kk : WX sh w x S n lo (va :: va :: st)) : WX sh w x S pc lo (va :: st) := by
  obtain ⟨p, l, e, R, s, m, args, below, meth, c, Q, A, nL⟩ := x
  obtain ⟨⟨hx, hb, hml, hown, hts⟩, rfl, hK, hA, hAk, hSX, hlk, hfr, hlo⟩ := C
  obtain ⟨hd, rfl⟩ := hd
  intro H lc ls hP hD hS hl2
  exact lv_dup hx hb hd hc (kk H lc ls hP hD hS hl2)
theorem x_dup2 (C : XC sh w own cc l0 d0 x) {va vb : Value} (hd : dc cc pc .dup2 1 n) (hc : va.category = 1) (hc2 : vb.category = 1) (kk : WX sh w x S n lo (va :: vb :: va :: vb :: st)) : WX sh w x S pc lo (va :: vb :: st) := by
  obtain ⟨p, l, e, R, s, m, args, below, meth, c, Q, A, nL⟩ := x
  obtain ⟨⟨hx, hb, hml, hown, hts⟩, rfl, hK, hA, hAk, hSX, hlk, hfr, hlo⟩ := C
  obtain ⟨hd, rfl⟩ := hd
  intro H lc ls hP hD hS hl2
  exact lv_dup2_11 hx hb hd hc hc2 (kk H lc ls hP hD hS hl2)
theorem x_pop (C : XC sh w own cc l0 d0 x) {va : Value} (hd : dc cc pc .pop 1 n) (hc : va.category = 1) (kk : WX sh w x S n lo st) : WX sh w x S pc lo (va :: st) := by
  obtain ⟨p, l, e, R, s, m, args, below, meth, c, Q, A, nL⟩ := x
  obtain ⟨⟨hx, hb, hml, hown, hts⟩, rfl, hK, hA, hAk, hSX, hlk, hfr, hlo⟩ := C
  obtain ⟨hd, rfl⟩ := hd
  intro H lc ls hP hD hS hl2
  exact lv_pop hx hb hd hc (kk H lc ls hP hD hS hl2)
theorem x_icmp_eq (C : XC sh w own cc l0 d0 x) {a b : Int32} {t : Nat} {off : Int} {α : Type} {X Y : Option α} {rs : α} (hd : dj cc pc (.if_icmp .eq off) off n t) (hf : (if a = b then X else Y) = some rs) (kX : X = some rs → WX sh w x S t lo st) (kY : Y = some rs → WX sh w x S n lo st) : WX sh w x S pc lo (.int b :: .int a :: st) := by
  obtain ⟨p, l, e, R, s, m, args, below, meth, c, Q, A, nL⟩ := x
  obtain ⟨⟨hx, hb, hml, hown, hts⟩, rfl, hK, hA, hAk, hSX, hlk, hfr, hlo⟩ := C
  obtain ⟨hd, rfl, ht⟩ := hd
  intro H lc ls hP hD hS hl2
  exact lv_icmp_eq hx hb hd ht (fun q => kX (by rw [if_pos q] at hf; exact hf) H lc ls hP hD hS hl2) (fun q => kY (by rw [if_neg q] at hf; exact hf) H lc ls hP hD hS hl2)
theorem x_icmp_ne (C : XC sh w own cc l0 d0 x) {a b : Int32} {t : Nat} {off : Int} {α : Type} {X Y : Option α} {rs : α} (hd : dj cc pc (.if_icmp .ne off) off n t) (hf : (if a = b then X else Y) = some rs) (kX : X = some rs → WX sh w x S n lo st) (kY : Y = some rs → WX sh w x S t lo st) : WX sh w x S pc lo (.int b :: .int a :: st) := by
  obtain ⟨p, l, e, R, s, m, args, below, meth, c, Q, A, nL⟩ := x
  obtain ⟨⟨hx, hb, hml, hown, hts⟩, rfl, hK, hA, hAk, hSX, hlk, hfr, hlo⟩ := C
  obtain ⟨hd, rfl, ht⟩ := hd
  intro H lc ls hP hD hS hl2
  exact lv_icmp_ne hx hb hd ht (fun q => kY (by rw [if_neg q] at hf; exact hf) H lc ls hP hD hS hl2) (fun q => kX (by rw [if_pos q] at hf; exact hf) H lc ls hP hD hS hl2)
theorem x_icmp_lt (C : XC sh w own cc l0 d0 x) {a b : Int32} {t : Nat} {off : Int} {α : Type} {X Y : Option α} {rs : α} (hd : dj cc pc (.if_icmp .lt off) off n t) (hf : (if a < b then X else Y) = some rs) (kX : X = some rs → WX sh w x S t lo st) (kY : Y = some rs → WX sh w x S n lo st) : WX sh w x S pc lo (.int b :: .int a :: st) := by
  obtain ⟨p, l, e, R, s, m, args, below, meth, c, Q, A, nL⟩ := x
  obtain ⟨⟨hx, hb, hml, hown, hts⟩, rfl, hK, hA, hAk, hSX, hlk, hfr, hlo⟩ := C
  obtain ⟨hd, rfl, ht⟩ := hd
  intro H lc ls hP hD hS hl2
  exact lv_icmp_lt hx hb hd ht (fun q => kX (by rw [if_pos q] at hf; exact hf) H lc ls hP hD hS hl2) (fun q => kY (by rw [if_neg q] at hf; exact hf) H lc ls hP hD hS hl2)
theorem x_icmp_ge (C : XC sh w own cc l0 d0 x) {a b : Int32} {t : Nat} {off : Int} {α : Type} {X Y : Option α} {rs : α} (hd : dj cc pc (.if_icmp .ge off) off n t) (hf : (if a < b then X else Y) = some rs) (kX : X = some rs → WX sh w x S n lo st) (kY : Y = some rs → WX sh w x S t lo st) : WX sh w x S pc lo (.int b :: .int a :: st) := by
  obtain ⟨p, l, e, R, s, m, args, below, meth, c, Q, A, nL⟩ := x
  obtain ⟨⟨hx, hb, hml, hown, hts⟩, rfl, hK, hA, hAk, hSX, hlk, hfr, hlo⟩ := C
  obtain ⟨hd, rfl, ht⟩ := hd
  intro H lc ls hP hD hS hl2
  exact lv_icmp_ge hx hb hd ht (fun q => kY (by rw [if_neg (Int32.not_lt.mpr q)] at hf; exact hf) H lc ls hP hD hS hl2) (fun q => kX (by rw [if_pos (Int32.not_le.mp q)] at hf; exact hf) H lc ls hP hD hS hl2)
theorem x_icmp_gt (C : XC sh w own cc l0 d0 x) {a b : Int32} {t : Nat} {off : Int} {α : Type} {X Y : Option α} {rs : α} (hd : dj cc pc (.if_icmp .gt off) off n t) (hf : (if b < a then X else Y) = some rs) (kX : X = some rs → WX sh w x S t lo st) (kY : Y = some rs → WX sh w x S n lo st) : WX sh w x S pc lo (.int b :: .int a :: st) := by
  obtain ⟨p, l, e, R, s, m, args, below, meth, c, Q, A, nL⟩ := x
  obtain ⟨⟨hx, hb, hml, hown, hts⟩, rfl, hK, hA, hAk, hSX, hlk, hfr, hlo⟩ := C
  obtain ⟨hd, rfl, ht⟩ := hd
  intro H lc ls hP hD hS hl2
  exact lv_icmp_gt hx hb hd ht (fun q => kX (by rw [if_pos q] at hf; exact hf) H lc ls hP hD hS hl2) (fun q => kY (by rw [if_neg q] at hf; exact hf) H lc ls hP hD hS hl2)
theorem x_icmp_le (C : XC sh w own cc l0 d0 x) {a b : Int32} {t : Nat} {off : Int} {α : Type} {X Y : Option α} {rs : α} (hd : dj cc pc (.if_icmp .le off) off n t) (hf : (if b < a then X else Y) = some rs) (kX : X = some rs → WX sh w x S n lo st) (kY : Y = some rs → WX sh w x S t lo st) : WX sh w x S pc lo (.int b :: .int a :: st) := by
  obtain ⟨p, l, e, R, s, m, args, below, meth, c, Q, A, nL⟩ := x
  obtain ⟨⟨hx, hb, hml, hown, hts⟩, rfl, hK, hA, hAk, hSX, hlk, hfr, hlo⟩ := C
  obtain ⟨hd, rfl, ht⟩ := hd
  intro H lc ls hP hD hS hl2
  exact lv_icmp_le hx hb hd ht (fun q => kY (by rw [if_neg (Int32.not_lt.mpr q)] at hf; exact hf) H lc ls hP hD hS hl2) (fun q => kX (by rw [if_pos (Int32.not_le.mp q)] at hf; exact hf) H lc ls hP hD hS hl2)
theorem x_if_eq (C : XC sh w own cc l0 d0 x) {a : Int32} {t : Nat} {off : Int} {α : Type} {X Y : Option α} {rs : α} (hd : dj cc pc (.ifCond .eq off) off n t) (hf : (if a = 0 then X else Y) = some rs) (kX : X = some rs → WX sh w x S t lo st) (kY : Y = some rs → WX sh w x S n lo st) : WX sh w x S pc lo (.int a :: st) := by
  obtain ⟨p, l, e, R, s, m, args, below, meth, c, Q, A, nL⟩ := x
  obtain ⟨⟨hx, hb, hml, hown, hts⟩, rfl, hK, hA, hAk, hSX, hlk, hfr, hlo⟩ := C
  obtain ⟨hd, rfl, ht⟩ := hd
  intro H lc ls hP hD hS hl2
  exact lv_if_eq hx hb hd ht (fun q => kX (by rw [if_pos q] at hf; exact hf) H lc ls hP hD hS hl2) (fun q => kY (by rw [if_neg q] at hf; exact hf) H lc ls hP hD hS hl2)
theorem x_if_ne (C : XC sh w own cc l0 d0 x) {a : Int32} {t : Nat} {off : Int} {α : Type} {X Y : Option α} {rs : α} (hd : dj cc pc (.ifCond .ne off) off n t) (hf : (if a = 0 then X else Y) = some rs) (kX : X = some rs → WX sh w x S n lo st) (kY : Y = some rs → WX sh w x S t lo st) : WX sh w x S pc lo (.int a :: st) := by
  obtain ⟨p, l, e, R, s, m, args, below, meth, c, Q, A, nL⟩ := x
  obtain ⟨⟨hx, hb, hml, hown, hts⟩, rfl, hK, hA, hAk, hSX, hlk, hfr, hlo⟩ := C
  obtain ⟨hd, rfl, ht⟩ := hd
  intro H lc ls hP hD hS hl2
  exact lv_if_ne hx hb hd ht (fun q => kY (by rw [if_neg q] at hf; exact hf) H lc ls hP hD hS hl2) (fun q => kX (by rw [if_pos q] at hf; exact hf) H lc ls hP hD hS hl2)
theorem x_if_lt (C : XC sh w own cc l0 d0 x) {a : Int32} {t : Nat} {off : Int} {α : Type} {X Y : Option α} {rs : α} (hd : dj cc pc (.ifCond .lt off) off n t) (hf : (if a < 0 then X else Y) = some rs) (kX : X = some rs → WX sh w x S t lo st) (kY : Y = some rs → WX sh w x S n lo st) : WX sh w x S pc lo (.int a :: st) := by
  obtain ⟨p, l, e, R, s, m, args, below, meth, c, Q, A, nL⟩ := x
  obtain ⟨⟨hx, hb, hml, hown, hts⟩, rfl, hK, hA, hAk, hSX, hlk, hfr, hlo⟩ := C
  obtain ⟨hd, rfl, ht⟩ := hd
  intro H lc ls hP hD hS hl2
  exact lv_if_lt hx hb hd ht (fun q => kX (by rw [if_pos q] at hf; exact hf) H lc ls hP hD hS hl2) (fun q => kY (by rw [if_neg q] at hf; exact hf) H lc ls hP hD hS hl2)
theorem x_if_ge (C : XC sh w own cc l0 d0 x) {a : Int32} {t : Nat} {off : Int} {α : Type} {X Y : Option α} {rs : α} (hd : dj cc pc (.ifCond .ge off) off n t) (hf : (if a < 0 then X else Y) = some rs) (kX : X = some rs → WX sh w x S n lo st) (kY : Y = some rs → WX sh w x S t lo st) : WX sh w x S pc lo (.int a :: st) := by
  obtain ⟨p, l, e, R, s, m, args, below, meth, c, Q, A, nL⟩ := x
  obtain ⟨⟨hx, hb, hml, hown, hts⟩, rfl, hK, hA, hAk, hSX, hlk, hfr, hlo⟩ := C
  obtain ⟨hd, rfl, ht⟩ := hd
  intro H lc ls hP hD hS hl2
  exact lv_if_ge hx hb hd ht (fun q => kY (by rw [if_neg (Int32.not_lt.mpr q)] at hf; exact hf) H lc ls hP hD hS hl2) (fun q => kX (by rw [if_pos (Int32.not_le.mp q)] at hf; exact hf) H lc ls hP hD hS hl2)
theorem x_if_gt (C : XC sh w own cc l0 d0 x) {a : Int32} {t : Nat} {off : Int} {α : Type} {X Y : Option α} {rs : α} (hd : dj cc pc (.ifCond .gt off) off n t) (hf : (if 0 < a then X else Y) = some rs) (kX : X = some rs → WX sh w x S t lo st) (kY : Y = some rs → WX sh w x S n lo st) : WX sh w x S pc lo (.int a :: st) := by
  obtain ⟨p, l, e, R, s, m, args, below, meth, c, Q, A, nL⟩ := x
  obtain ⟨⟨hx, hb, hml, hown, hts⟩, rfl, hK, hA, hAk, hSX, hlk, hfr, hlo⟩ := C
  obtain ⟨hd, rfl, ht⟩ := hd
  intro H lc ls hP hD hS hl2
  exact lv_if_gt hx hb hd ht (fun q => kX (by rw [if_pos q] at hf; exact hf) H lc ls hP hD hS hl2) (fun q => kY (by rw [if_neg q] at hf; exact hf) H lc ls hP hD hS hl2)
theorem x_if_le (C : XC sh w own cc l0 d0 x) {a : Int32} {t : Nat} {off : Int} {α : Type} {X Y : Option α} {rs : α} (hd : dj cc pc (.ifCond .le off) off n t) (hf : (if 0 < a then X else Y) = some rs) (kX : X = some rs → WX sh w x S n lo st) (kY : Y = some rs → WX sh w x S t lo st) : WX sh w x S pc lo (.int a :: st) := by
  obtain ⟨p, l, e, R, s, m, args, below, meth, c, Q, A, nL⟩ := x
  obtain ⟨⟨hx, hb, hml, hown, hts⟩, rfl, hK, hA, hAk, hSX, hlk, hfr, hlo⟩ := C
  obtain ⟨hd, rfl, ht⟩ := hd
  intro H lc ls hP hD hS hl2
  exact lv_if_le hx hb hd ht (fun q => kY (by rw [if_neg (Int32.not_lt.mpr q)] at hf; exact hf) H lc ls hP hD hS hl2) (fun q => kX (by rw [if_pos (Int32.not_le.mp q)] at hf; exact hf) H lc ls hP hD hS hl2)
theorem x_goto (C : XC sh w own cc l0 d0 x) {t : Nat} {off : Int} (hd : dj cc pc (.goto off) off n t) (kk : WX sh w x S t lo st) : WX sh w x S pc lo st := by
  obtain ⟨p, l, e, R, s, m, args, below, meth, c, Q, A, nL⟩ := x
  obtain ⟨⟨hx, hb, hml, hown, hts⟩, rfl, hK, hA, hAk, hSX, hlk, hfr, hlo⟩ := C
  obtain ⟨hd, rfl, ht⟩ := hd
  intro H lc ls hP hD hS hl2
  exact lv_goto hx hb hd ht (kk H lc ls hP hD hS hl2)
theorem pfdI : parseFieldDescriptor "I" = some .int := by decide +kernel
def fo (ci k : Nat) (Cn : String) (nm ds : String) (fin : Bool) (T : u_T) (N : Nat) (tf : Nat → FieldType) : Prop := cls[ci]? = some (Cn, T, N) ∧ (∀ w ∈ u_ws Cn T N, w ∈ tw) ∧ k < N ∧ T k = (Cn, nm, ds, fin) ∧ (∀ k, k < N → parseFieldDescriptor (T k).2.2.1 = some (tf k)) ∧ (∀ a, a < N → ∀ b, b < N → a ≠ b → (T a).2.1 ≠ (T b).2.1)
theorem mkW0 {sh : List Sh} {w : Ww} {S : St} {q : Nat} {s : Sh} (h : sh[q]? = some s) : (mkW w S 0 sh)[q]? = some (w.1 q, mkE w S q s) := by
  have := mkW_get (w := w) (S := S) (q := 0) h
  rwa [Nat.zero_add] at this
theorem mkW_set0 {sh : List Sh} {w : Ww} {S S' : St} {s : Sh} {e : va_E} {q : Nat} (h : sh[q]? = some s) (h2 : ∀ a, a ≠ q → S'.1 a = S.1 a ∧ S'.2 a = S.2 a) (h3 : mkE w S' q s = e) : (mkW w S 0 sh).set q (w.1 q, e) = mkW w S' 0 sh := by
  have := mkW_set (w := w) (S := S) (S' := S') (e := e) (q := 0) h (by rw [Nat.zero_add]; exact h2) (by rw [Nat.zero_add]; exact h3)
  rwa [Nat.zero_add] at this
theorem x_get (C : XC sh w own cc l0 d0 x) {q ci k : Nat} {fl : List (Option Nat)} {Cn nm ds : String} {fin : Bool} {T : u_T} {N idx : Nat} {tf : Nat → FieldType} (hd : dc cc pc (.getfield idx) 3 n) (hfo : fo ci k Cn nm ds fin T N tf) (hl : Cond.fieldLink own idx Cn nm ds ∈ tw) (hq : sh[q]? = some (.inl (ci, fl))) (hk : fl[k]? = some none) (kk : WX sh w x S n lo (.int (S.1 q k) :: st)) : WX sh w x S pc lo (.ref (w.1 q) :: st) := by
  obtain ⟨p, l, e, R, s, m, args, below, meth, c, Q, A, nL⟩ := x
  obtain ⟨⟨hx, hb, hml, hown, hts⟩, rfl, hK, hA, hAk, hSX, hlk, hfr, hlo⟩ := C
  obtain ⟨hd, rfl⟩ := hd
  intro H lc ls hP hD hS hl2
  obtain ⟨hc, hin, hkN, hT, hty, hnm⟩ := hfo
  refine va_get (D := w.2.2.1) (v := .int (S.1 q k)) (C := Cn) (T := T) (N := N) (ref := Cn) (index := idx) hx hb hts hin hown hK hP q (mkW0 hq) hc k hkN (by rw [hT]; exact hts _ hl) (by rw [hT]; exact fun _ h => h) ?_ hd (kk H lc ls hP hD hS hl2)
  rw [mkF_n hk, Nat.zero_add]
theorem x_getr (C : XC sh w own cc l0 d0 x) {q ci k : Nat} {fl : List (Option Nat)} {Cn nm ds : String} {fin : Bool} {T : u_T} {N idx : Nat} {tf : Nat → FieldType} {r : Nat} (hd : dc cc pc (.getfield idx) 3 n) (hfo : fo ci k Cn nm ds fin T N tf) (hl : Cond.fieldLink own idx Cn nm ds ∈ tw) (hq : sh[q]? = some (.inl (ci, fl))) (hk : fl[k]? = some (some r)) (kk : WX sh w x S n lo (.ref (w.1 r) :: st)) : WX sh w x S pc lo (.ref (w.1 q) :: st) := by
  obtain ⟨p, l, e, R, s, m, args, below, meth, c, Q, A, nL⟩ := x
  obtain ⟨⟨hx, hb, hml, hown, hts⟩, rfl, hK, hA, hAk, hSX, hlk, hfr, hlo⟩ := C
  obtain ⟨hd, rfl⟩ := hd
  intro H lc ls hP hD hS hl2
  obtain ⟨hc, hin, hkN, hT, hty, hnm⟩ := hfo
  exact va_get (D := w.2.2.1) (v := .ref (w.1 r)) (C := Cn) (T := T) (N := N) (ref := Cn) (index := idx) hx hb hts hin hown hK hP q (mkW0 hq) hc k hkN (by rw [hT]; exact hts _ hl) (by rw [hT]; exact fun _ h => h) (mkF_s hk) hd (kk H lc ls hP hD hS hl2)
theorem x_put (C : XC sh w own cc l0 d0 x) {q ci k : Nat} {fl : List (Option Nat)} {Cn nm : String} {T : u_T} {N idx : Nat} {tf : Nat → FieldType} {v : Int32} {α : Type} {K : St → Option α} {rs : α} (hd : dc cc pc (.putfield idx) 3 n) (hfo : fo ci k Cn nm "I" false T N tf) (hl : Cond.fieldLink own idx Cn nm "I" ∈ tw) (hq : sh[q]? = some (.inl (ci, fl))) (hk : fl[k]? = some none) (hf : bnd (sI S q k v) K = some rs) (kk : ∀ S1, K S1 = some rs → WX sh w x S1 n lo st) : WX sh w x S pc lo (.int v :: .ref (w.1 q) :: st) := by
  obtain ⟨p, l, e, R, s, m, args, below, meth, c, Q, A, nL⟩ := x
  obtain ⟨⟨hx, hb, hml, hown, hts⟩, rfl, hK, hA, hAk, hSX, hlk, hfr, hlo⟩ := C
  obtain ⟨hd, rfl⟩ := hd
  intro H lc ls hP hD hS hl2
  obtain ⟨hc, hin, hkN, hT, hty, hnm⟩ := hfo
  refine va_put (D := w.2.2.1) (v := .int v) (ty := .int) (C := Cn) (T := T) (N := N) (ref := Cn) (index := idx) hx hb hts hin tf hty hnm hown hK hP hD hS q (mkW0 hq) hc k hkN (by rw [hT]; exact hts _ hl) (by rw [hT]; exact fun _ h => h) (by rw [hT]) (by rw [hT]; exact pfdI) rfl rfl (by show k < (mkF w.1 (S.1 q) 0 fl).length; rw [mkF_len]; exact (List.getElem?_eq_some_iff.mp hk).1) hd (fun H1 lc1 hP1 hD1 hS1 => ?_)
  have e9 : (mkW w S 0 sh).set q (w.1 q, Sum.inr (ci, (mkF w.1 (S.1 q) 0 fl).set k (.int v))) = mkW w (sI S q k v) 0 sh := mkW_set0 hq (fun a ha => ⟨by show (if a = q then _ else _) = _; rw [if_neg ha], rfl⟩) (by
    show (Sum.inr (ci, mkF w.1 (if q = q then upd (S.1 q) k v else S.1 q) 0 fl) : va_E) = _
    rw [if_pos rfl, mkF_set hk, Nat.zero_add])
  exact kk _ hf H1 lc1 ls (by rw [← e9]; exact hP1) (by rw [← e9]; exact hD1) hS1 hl2
theorem x_iald (C : XC sh w own cc l0 d0 x) {q len : Nat} {rl : List Nat} {i : Int32} {α : Type} {X : Option α} {rs : α} (hd : dc cc pc .iaload 1 n) (hq : sh[q]? = some (.inr (0, len, rl))) (hf : chk i len X = some rs) (kk : X = some rs → WX sh w x S n lo (.int (S.1 q i.toNatClampNeg) :: st)) : WX sh w x S pc lo (.int i :: .ref (w.1 q) :: st) := by
  obtain ⟨p, l, e, R, s, m, args, below, meth, c, Q, A, nL⟩ := x
  obtain ⟨⟨hx, hb, hml, hown, hts⟩, rfl, hK, hA, hAk, hSX, hlk, hfr, hlo⟩ := C
  obtain ⟨hd, rfl⟩ := hd
  intro H lc ls hP hD hS hl2
  obtain ⟨hi, hi2, hf⟩ := chk_in hf
  exact va_iald hx hb hK hP q 0 (mkW0 hq) rfl hi hd (kk hf H lc ls hP hD hS hl2)
theorem x_bald (C : XC sh w own cc l0 d0 x) {q len : Nat} {rl : List Nat} {i : Int32} {α : Type} {X : Option α} {rs : α} (hd : dc cc pc .baload 1 n) (hq : sh[q]? = some (.inr (2, len, rl))) (hf : chk i len X = some rs) (kk : X = some rs → WX sh w x S n lo (.int (S.1 q i.toNatClampNeg) :: st)) : WX sh w x S pc lo (.int i :: .ref (w.1 q) :: st) := by
  obtain ⟨p, l, e, R, s, m, args, below, meth, c, Q, A, nL⟩ := x
  obtain ⟨⟨hx, hb, hml, hown, hts⟩, rfl, hK, hA, hAk, hSX, hlk, hfr, hlo⟩ := C
  obtain ⟨hd, rfl⟩ := hd
  intro H lc ls hP hD hS hl2
  obtain ⟨hi, hi2, hf⟩ := chk_in hf
  exact va_bald hx hb hK hP q 2 (mkW0 hq) rfl hi hd (kk hf H lc ls hP hD hS hl2)
theorem x_zald (C : XC sh w own cc l0 d0 x) {q len : Nat} {rl : List Nat} {i : Int32} {α : Type} {X : Option α} {rs : α} (hd : dc cc pc .baload 1 n) (hq : sh[q]? = some (.inr (3, len, rl))) (hf : chk i len X = some rs) (kk : X = some rs → WX sh w x S n lo (.int (S.1 q i.toNatClampNeg) :: st)) : WX sh w x S pc lo (.int i :: .ref (w.1 q) :: st) := by
  obtain ⟨p, l, e, R, s, m, args, below, meth, c, Q, A, nL⟩ := x
  obtain ⟨⟨hx, hb, hml, hown, hts⟩, rfl, hK, hA, hAk, hSX, hlk, hfr, hlo⟩ := C
  obtain ⟨hd, rfl⟩ := hd
  intro H lc ls hP hD hS hl2
  obtain ⟨hi, hi2, hf⟩ := chk_in hf
  exact va_zald hx hb hK hP q 3 (mkW0 hq) rfl hi hd (kk hf H lc ls hP hD hS hl2)
theorem x_lald (C : XC sh w own cc l0 d0 x) {q len : Nat} {rl : List Nat} {i : Int32} {α : Type} {X : Option α} {rs : α} (hd : dc cc pc .laload 1 n) (hq : sh[q]? = some (.inr (1, len, rl))) (hf : chk i len X = some rs) (kk : X = some rs → WX sh w x S n lo (.long (S.2 q i.toNatClampNeg) :: st)) : WX sh w x S pc lo (.int i :: .ref (w.1 q) :: st) := by
  obtain ⟨p, l, e, R, s, m, args, below, meth, c, Q, A, nL⟩ := x
  obtain ⟨⟨hx, hb, hml, hown, hts⟩, rfl, hK, hA, hAk, hSX, hlk, hfr, hlo⟩ := C
  obtain ⟨hd, rfl⟩ := hd
  intro H lc ls hP hD hS hl2
  obtain ⟨hi, hi2, hf⟩ := chk_in hf
  exact va_lald hx hb hK hP q 1 (mkW0 hq) rfl hi hd (kk hf H lc ls hP hD hS hl2)
theorem x_aald (C : XC sh w own cc l0 d0 x) {q len : Nat} {rl : List Nat} {i : Int32} {α : Type} {X : Option α} {rs : α} (g : Nat → Nat) (hd : dc cc pc .aaload 1 n) (hq : sh[q]? = some (.inr (4, len, rl))) (hg : ∀ j, j < len → rl[j]? = some (g j)) (hf : chk i len X = some rs) (kk : i.toNatClampNeg < len → X = some rs → WX sh w x S n lo (.ref (w.1 (g i.toNatClampNeg)) :: st)) : WX sh w x S pc lo (.int i :: .ref (w.1 q) :: st) := by
  obtain ⟨p, l, e, R, s, m, args, below, meth, c, Q, A, nL⟩ := x
  obtain ⟨⟨hx, hb, hml, hown, hts⟩, rfl, hK, hA, hAk, hSX, hlk, hfr, hlo⟩ := C
  obtain ⟨hd, rfl⟩ := hd
  intro H lc ls hP hD hS hl2
  obtain ⟨hi, hi2, hf⟩ := chk_in hf
  refine va_aldq hx hb hK hP q 4 (mkW0 hq) rfl hi hd ?_
  rw [show ((rl[i.toNatClampNeg]?).map w.1) = some (w.1 (g i.toNatClampNeg)) by rw [hg _ hi2]; rfl]
  exact kk hi2 hf H lc ls hP hD hS hl2
theorem x_iast (C : XC sh w own cc l0 d0 x) {q len : Nat} {rl : List Nat} {i v : Int32} {α : Type} {K : St → Option α} {rs : α} (hd : dc cc pc .iastore 1 n) (hq : sh[q]? = some (.inr (0, len, rl))) (hf : chk i len (bnd (sI S q i.toNatClampNeg v) K) = some rs) (kk : ∀ S1, K S1 = some rs → WX sh w x S1 n lo st) : WX sh w x S pc lo (.int v :: .int i :: .ref (w.1 q) :: st) := by
  obtain ⟨p, l, e, R, s, m, args, below, meth, c, Q, A, nL⟩ := x
  obtain ⟨⟨hx, hb, hml, hown, hts⟩, rfl, hK, hA, hAk, hSX, hlk, hfr, hlo⟩ := C
  obtain ⟨hd, rfl⟩ := hd
  intro H lc ls hP hD hS hl2
  obtain ⟨hi, hi2, hf⟩ := chk_in hf
  refine va_iast hx hb hK hP hD hS q 0 (mkW0 hq) rfl hi hd (fun H1 lc1 hP1 hD1 hS1 => ?_)
  have e9 : (mkW w S 0 sh).set q (w.1 q, Sum.inl (w.2.1 0, len, Sum.inl (upd (S.1 q) i.toNatClampNeg v))) = mkW w (sI S q i.toNatClampNeg v) 0 sh := mkW_set0 hq (fun a ha => ⟨by show (if a = q then _ else _) = _; rw [if_neg ha], rfl⟩) (by
    show (Sum.inl (w.2.1 0, len, Sum.inl (if q = q then upd (S.1 q) i.toNatClampNeg v else S.1 q)) : va_E) = _
    rw [if_pos rfl])
  exact kk _ hf H1 lc1 ls (by rw [← e9]; exact hP1) (by rw [← e9]; exact hD1) hS1 hl2
theorem x_bast (C : XC sh w own cc l0 d0 x) {q len : Nat} {rl : List Nat} {i v : Int32} {α : Type} {K : St → Option α} {rs : α} (hd : dc cc pc .bastore 1 n) (hq : sh[q]? = some (.inr (2, len, rl))) (hf : chk i len (bnd (sI S q i.toNatClampNeg (vp_nar .byte v)) K) = some rs) (kk : ∀ S1, K S1 = some rs → WX sh w x S1 n lo st) : WX sh w x S pc lo (.int v :: .int i :: .ref (w.1 q) :: st) := by
  obtain ⟨p, l, e, R, s, m, args, below, meth, c, Q, A, nL⟩ := x
  obtain ⟨⟨hx, hb, hml, hown, hts⟩, rfl, hK, hA, hAk, hSX, hlk, hfr, hlo⟩ := C
  obtain ⟨hd, rfl⟩ := hd
  intro H lc ls hP hD hS hl2
  obtain ⟨hi, hi2, hf⟩ := chk_in hf
  refine va_bast hx hb hK hP hD hS q 2 (mkW0 hq) rfl hi hd (fun H1 lc1 hP1 hD1 hS1 => ?_)
  have e9 : (mkW w S 0 sh).set q (w.1 q, Sum.inl (w.2.1 2, len, Sum.inl (upd (S.1 q) i.toNatClampNeg (vp_nar .byte v)))) = mkW w (sI S q i.toNatClampNeg (vp_nar .byte v)) 0 sh := mkW_set0 hq (fun a ha => ⟨by show (if a = q then _ else _) = _; rw [if_neg ha], rfl⟩) (by
    show (Sum.inl (w.2.1 2, len, Sum.inl (if q = q then upd (S.1 q) i.toNatClampNeg (vp_nar .byte v) else S.1 q)) : va_E) = _
    rw [if_pos rfl])
  exact kk _ hf H1 lc1 ls (by rw [← e9]; exact hP1) (by rw [← e9]; exact hD1) hS1 hl2
theorem x_zast (C : XC sh w own cc l0 d0 x) {q len : Nat} {rl : List Nat} {i v : Int32} {α : Type} {K : St → Option α} {rs : α} (hd : dc cc pc .bastore 1 n) (hq : sh[q]? = some (.inr (3, len, rl))) (hv : vp_nar .boolean v = v) (hf : chk i len (bnd (sI S q i.toNatClampNeg v) K) = some rs) (kk : ∀ S1, K S1 = some rs → WX sh w x S1 n lo st) : WX sh w x S pc lo (.int v :: .int i :: .ref (w.1 q) :: st) := by
  obtain ⟨p, l, e, R, s, m, args, below, meth, c, Q, A, nL⟩ := x
  obtain ⟨⟨hx, hb, hml, hown, hts⟩, rfl, hK, hA, hAk, hSX, hlk, hfr, hlo⟩ := C
  obtain ⟨hd, rfl⟩ := hd
  intro H lc ls hP hD hS hl2
  obtain ⟨hi, hi2, hf⟩ := chk_in hf
  refine va_zast hx hb hK hP hD hS q 3 (mkW0 hq) rfl hi hd (fun H1 lc1 hP1 hD1 hS1 => ?_)
  rw [hv] at hP1 hD1
  have e9 : (mkW w S 0 sh).set q (w.1 q, Sum.inl (w.2.1 3, len, Sum.inl (upd (S.1 q) i.toNatClampNeg v))) = mkW w (sI S q i.toNatClampNeg v) 0 sh := mkW_set0 hq (fun a ha => ⟨by show (if a = q then _ else _) = _; rw [if_neg ha], rfl⟩) (by
    show (Sum.inl (w.2.1 3, len, Sum.inl (if q = q then upd (S.1 q) i.toNatClampNeg v else S.1 q)) : va_E) = _
    rw [if_pos rfl])
  exact kk _ hf H1 lc1 ls (by rw [← e9]; exact hP1) (by rw [← e9]; exact hD1) hS1 hl2
theorem x_zastG (C : XC sh w own cc l0 d0 x) {q len : Nat} {rl : List Nat} {i v : Int32} {α : Type} {K : St → Option α} {rs : α} (hd : dc cc pc .bastore 1 n) (hq : sh[q]? = some (.inr (3, len, rl))) (hf : chk i len (bnd (sI S q i.toNatClampNeg (vp_nar .boolean v)) K) = some rs) (kk : ∀ S1, K S1 = some rs → WX sh w x S1 n lo st) : WX sh w x S pc lo (.int v :: .int i :: .ref (w.1 q) :: st) := by
  obtain ⟨p, l, e, R, s, m, args, below, meth, c, Q, A, nL⟩ := x
  obtain ⟨⟨hx, hb, hml, hown, hts⟩, rfl, hK, hA, hAk, hSX, hlk, hfr, hlo⟩ := C
  obtain ⟨hd, rfl⟩ := hd
  intro H lc ls hP hD hS hl2
  obtain ⟨hi, hi2, hf⟩ := chk_in hf
  refine va_zast hx hb hK hP hD hS q 3 (mkW0 hq) rfl hi hd (fun H1 lc1 hP1 hD1 hS1 => ?_)
  have e9 : (mkW w S 0 sh).set q (w.1 q, Sum.inl (w.2.1 3, len, Sum.inl (upd (S.1 q) i.toNatClampNeg (vp_nar .boolean v)))) = mkW w (sI S q i.toNatClampNeg (vp_nar .boolean v)) 0 sh := mkW_set0 hq (fun a ha => ⟨by show (if a = q then _ else _) = _; rw [if_neg ha], rfl⟩) (by
    show (Sum.inl (w.2.1 3, len, Sum.inl (if q = q then upd (S.1 q) i.toNatClampNeg (vp_nar .boolean v) else S.1 q)) : va_E) = _
    rw [if_pos rfl])
  exact kk _ hf H1 lc1 ls (by rw [← e9]; exact hP1) (by rw [← e9]; exact hD1) hS1 hl2
theorem x_last (C : XC sh w own cc l0 d0 x) {q len : Nat} {rl : List Nat} {i : Int32} {v : Int64} {α : Type} {K : St → Option α} {rs : α} (hd : dc cc pc .lastore 1 n) (hq : sh[q]? = some (.inr (1, len, rl))) (hf : chk i len (bnd (sL S q i.toNatClampNeg v) K) = some rs) (kk : ∀ S1, K S1 = some rs → WX sh w x S1 n lo st) : WX sh w x S pc lo (.long v :: .int i :: .ref (w.1 q) :: st) := by
  obtain ⟨p, l, e, R, s, m, args, below, meth, c, Q, A, nL⟩ := x
  obtain ⟨⟨hx, hb, hml, hown, hts⟩, rfl, hK, hA, hAk, hSX, hlk, hfr, hlo⟩ := C
  obtain ⟨hd, rfl⟩ := hd
  intro H lc ls hP hD hS hl2
  obtain ⟨hi, hi2, hf⟩ := chk_in hf
  refine va_last hx hb hK hP hD hS q 1 (mkW0 hq) rfl hi hd (fun H1 lc1 hP1 hD1 hS1 => ?_)
  have e9 : (mkW w S 0 sh).set q (w.1 q, Sum.inl (w.2.1 1, len, Sum.inr (Sum.inl (vp_updL (S.2 q) i.toNatClampNeg v)))) = mkW w (sL S q i.toNatClampNeg v) 0 sh := mkW_set0 hq (fun a ha => ⟨rfl, by show (if a = q then _ else _) = _; rw [if_neg ha]⟩) (by
    show (Sum.inl (w.2.1 1, len, Sum.inr (Sum.inl (if q = q then vp_updL (S.2 q) i.toNatClampNeg v else S.2 q))) : va_E) = _
    rw [if_pos rfl])
  exact kk _ hf H1 lc1 ls (by rw [← e9]; exact hP1) (by rw [← e9]; exact hD1) hS1 hl2
theorem x_alen (C : XC sh w own cc l0 d0 x) {q kd len : Nat} {rl : List Nat} {ty : FieldType} (v : Int32) (hd : dc cc pc .arraylength 1 n) (hq : sh[q]? = some (.inr (kd, len, rl))) (hk : (tysW w)[kd]? = some (w.2.1 kd, ty)) (hv : Int32.ofNat len = v) (kk : WX sh w x S n lo (.int v :: st)) : WX sh w x S pc lo (.ref (w.1 q) :: st) := by
  obtain ⟨p, l, e, R, s, m, args, below, meth, c, Q, A, nL⟩ := x
  obtain ⟨⟨hx, hb, hml, hown, hts⟩, rfl, hK, hA, hAk, hSX, hlk, hfr, hlo⟩ := C
  obtain ⟨hd, rfl⟩ := hd
  intro H lc ls hP hD hS hl2
  exact va_alen hx hb hK hP q kd (mkW0 hq) hk hv hd (kk H lc ls hP hD hS hl2)
theorem x_mmax (C : XC sh w own cc l0 d0 x) {a b : Int32} {idx : Nat} (hd : dc cc pc (.invokestatic idx) 3 n) (hl : Cond.methodLink own idx Lib.Math.max.name ∈ tw) (h1 : Cond.static Lib.Math.max.name ∈ tw ∧ Cond.initialized "java/lang/Math" ∈ tw ∧ Cond.code Lib.Math.max.name Lib.Math.max.code 2 (some .int) ∈ tw) (hr : 1 ≤ d0) (hcat : (st.map fun v => v.category).sum ≤ 8) (kk : WX sh w x S n lo (.int (jmax a b) :: st)) : WX sh w x S pc lo (.int b :: .int a :: st) := by
  obtain ⟨p, l, e, R, s, m, args, below, meth, c, Q, A, nL⟩ := x
  obtain ⟨⟨hx, hb, hml, hown, hts⟩, rfl, hK, hA, hAk, hSX, hlk, hfr, hlo⟩ := C
  obtain ⟨hd, rfl⟩ := hd
  intro H lc ls hP hD hS hl2
  exact va_mmax hx hb (by rw [hml, hl2.1]) hown (hts _ hl) (hts _ h1.1) (hts _ h1.2.1) (hts _ h1.2.2) (Nat.le_trans hr hfr) (by omega) (Nat.zero_le _) (Nat.zero_le _) hd (kk H lc ls hP hD hS hl2)
theorem x_mmin (C : XC sh w own cc l0 d0 x) {a b : Int32} {idx : Nat} (hd : dc cc pc (.invokestatic idx) 3 n) (hl : Cond.methodLink own idx Lib.Math.min.name ∈ tw) (h1 : Cond.static Lib.Math.min.name ∈ tw ∧ Cond.initialized "java/lang/Math" ∈ tw ∧ Cond.code Lib.Math.min.name Lib.Math.min.code 2 (some .int) ∈ tw) (hr : 1 ≤ d0) (hcat : (st.map fun v => v.category).sum ≤ 8) (kk : WX sh w x S n lo (.int (jmin a b) :: st)) : WX sh w x S pc lo (.int b :: .int a :: st) := by
  obtain ⟨p, l, e, R, s, m, args, below, meth, c, Q, A, nL⟩ := x
  obtain ⟨⟨hx, hb, hml, hown, hts⟩, rfl, hK, hA, hAk, hSX, hlk, hfr, hlo⟩ := C
  obtain ⟨hd, rfl⟩ := hd
  intro H lc ls hP hD hS hl2
  exact va_mmin hx hb (by rw [hml, hl2.1]) hown (hts _ hl) (hts _ h1.1) (hts _ h1.2.1) (hts _ h1.2.2) (Nat.le_trans hr hfr) (by omega) (Nat.zero_le _) (Nat.zero_le _) hd (kk H lc ls hP hD hS hl2)
theorem x_copyi (C : XC sh w own cc l0 d0 x) {q0 q1 len0 len idx : Nat} {rl0 rl : List Nat} {cnt : Int32} {α : Type} {K : St → Option α} {rs : α} (hd : dc cc pc (.invokestatic idx) 3 n) (hl : Cond.methodLink own idx arraycopyName ∈ tw) (h1 : Cond.native arraycopyName ∈ tw ∧ Cond.static arraycopyName ∈ tw ∧ Cond.initialized "java/lang/System" ∈ tw) (hq0 : sh[q0]? = some (.inr (0, len0, rl0))) (hq1 : sh[q1]? = some (.inr (0, len, rl))) (hc : ¬ cnt < 0 ∧ cnt.toNatClampNeg ≤ len0 ∧ cnt.toNatClampNeg ≤ len) (hr : 1 ≤ d0) (hcat : (st.map fun v => v.category).sum ≤ 8) (hf : bnd (sA S q1 (va_cpy (S.1 q0) (S.1 q1) 0 0 cnt.toNatClampNeg)) K = some rs) (kk : ∀ S1, K S1 = some rs → WX sh w x S1 n lo st) : WX sh w x S pc lo (.int cnt :: .int 0 :: .ref (w.1 q1) :: .int 0 :: .ref (w.1 q0) :: st) := by
  obtain ⟨p, l, e, R, s, m, args, below, meth, c, Q, A, nL⟩ := x
  obtain ⟨⟨hx, hb, hml, hown, hts⟩, rfl, hK, hA, hAk, hSX, hlk, hfr, hlo⟩ := C
  obtain ⟨hd, rfl⟩ := hd
  intro H lc ls hP hD hS hl2
  have h9 : nativeFrameWords "java/lang/System" "arraycopy" 5 ≤ 40 := by decide +kernel
  have z0 : (0 : Int32).toNatClampNeg = 0 := by decide
  refine va_copyi (sp := 0) (dp := 0) hx hb (by rw [hml, hl2.1]) hown (hts _ hl) (hts _ h1.1) (hts _ h1.2.1) (hts _ h1.2.2) hK hP hD hS q0 q1 0 0 (ty := .int) (mkW0 hq0) (mkW0 hq1) rfl rfl rfl (by decide) (by decide) hc.1 (by rw [z0, Nat.zero_add]; exact hc.2.1) (by rw [z0, Nat.zero_add]; exact hc.2.2) (fun _ _ => rfl) (Nat.le_trans hr hfr) (by omega) hd (fun H1 lc1 hP1 hD1 hS1 => ?_)
  have e9 : (mkW w S 0 sh).set q1 (w.1 q1, Sum.inl (w.2.1 0, len, Sum.inl (va_cpy (S.1 q0) (S.1 q1) 0 0 cnt.toNatClampNeg))) = mkW w (sA S q1 (va_cpy (S.1 q0) (S.1 q1) 0 0 cnt.toNatClampNeg)) 0 sh := mkW_set0 hq1 (fun a ha => ⟨by show (if a = q1 then _ else _) = _; rw [if_neg ha], rfl⟩) (by
    show (Sum.inl (w.2.1 0, len, Sum.inl (if q1 = q1 then va_cpy (S.1 q0) (S.1 q1) 0 0 cnt.toNatClampNeg else S.1 q1)) : va_E) = _
    rw [if_pos rfl])
  exact kk _ hf H1 lc1 ls (by rw [← e9]; exact hP1) (by rw [← e9]; exact hD1) hS1 hl2
theorem x_copyl (C : XC sh w own cc l0 d0 x) {q0 q1 len0 len idx : Nat} {rl0 rl : List Nat} {cnt : Int32} {α : Type} {K : St → Option α} {rs : α} (hd : dc cc pc (.invokestatic idx) 3 n) (hl : Cond.methodLink own idx arraycopyName ∈ tw) (h1 : Cond.native arraycopyName ∈ tw ∧ Cond.static arraycopyName ∈ tw ∧ Cond.initialized "java/lang/System" ∈ tw) (hq0 : sh[q0]? = some (.inr (1, len0, rl0))) (hq1 : sh[q1]? = some (.inr (1, len, rl))) (hc : ¬ cnt < 0 ∧ cnt.toNatClampNeg ≤ len0 ∧ cnt.toNatClampNeg ≤ len) (hr : 1 ≤ d0) (hcat : (st.map fun v => v.category).sum ≤ 8) (hf : bnd (sB S q1 (va_cpy (S.2 q0) (S.2 q1) 0 0 cnt.toNatClampNeg)) K = some rs) (kk : ∀ S1, K S1 = some rs → WX sh w x S1 n lo st) : WX sh w x S pc lo (.int cnt :: .int 0 :: .ref (w.1 q1) :: .int 0 :: .ref (w.1 q0) :: st) := by
  obtain ⟨p, l, e, R, s, m, args, below, meth, c, Q, A, nL⟩ := x
  obtain ⟨⟨hx, hb, hml, hown, hts⟩, rfl, hK, hA, hAk, hSX, hlk, hfr, hlo⟩ := C
  obtain ⟨hd, rfl⟩ := hd
  intro H lc ls hP hD hS hl2
  have h9 : nativeFrameWords "java/lang/System" "arraycopy" 5 ≤ 40 := by decide +kernel
  have z0 : (0 : Int32).toNatClampNeg = 0 := by decide
  refine va_copyl (sp := 0) (dp := 0) hx hb (by rw [hml, hl2.1]) hown (hts _ hl) (hts _ h1.1) (hts _ h1.2.1) (hts _ h1.2.2) hK hP hD hS q0 q1 1 1 (ty := .long) (mkW0 hq0) (mkW0 hq1) rfl rfl rfl (by decide) (by decide) hc.1 (by rw [z0, Nat.zero_add]; exact hc.2.1) (by rw [z0, Nat.zero_add]; exact hc.2.2) (fun _ _ => rfl) (Nat.le_trans hr hfr) (by omega) hd (fun H1 lc1 hP1 hD1 hS1 => ?_)
  have e9 : (mkW w S 0 sh).set q1 (w.1 q1, Sum.inl (w.2.1 1, len, Sum.inr (Sum.inl (va_cpy (S.2 q0) (S.2 q1) 0 0 cnt.toNatClampNeg)))) = mkW w (sB S q1 (va_cpy (S.2 q0) (S.2 q1) 0 0 cnt.toNatClampNeg)) 0 sh := mkW_set0 hq1 (fun a ha => ⟨rfl, by show (if a = q1 then _ else _) = _; rw [if_neg ha]⟩) (by
    show (Sum.inl (w.2.1 1, len, Sum.inr (Sum.inl (if q1 = q1 then va_cpy (S.2 q0) (S.2 q1) 0 0 cnt.toNatClampNeg else S.2 q1))) : va_E) = _
    rw [if_pos rfl])
  exact kk _ hf H1 lc1 ls (by rw [← e9]; exact hP1) (by rw [← e9]; exact hD1) hS1 hl2
theorem x_tin (C : XC sh w own cc l0 d0 x) {a k : Int32} {t len : Nat} {df lo1 hi off : Int} {offs : Array Int} (hd : dc cc pc (.tableswitch df lo1 hi offs) len n) (hk : a = k) (h1 : ¬ k.toInt < lo1) (h2 : ¬ hi < k.toInt) (ho : offs[(k.toInt - lo1).toNat]? = some off) (ht : (pc : Int) + off = (t : Int)) (kk : WX sh w x S t lo st) : WX sh w x S pc lo (.int a :: st) := by
  obtain ⟨p, l, e, R, s, m, args, below, meth, c, Q, A, nL⟩ := x
  obtain ⟨⟨hx, hb, hml, hown, hts⟩, rfl, hK, hA, hAk, hSX, hlk, hfr, hlo⟩ := C
  obtain ⟨hd, rfl⟩ := hd
  intro H lc ls hP hD hS hl2
  subst hk
  exact lv_tableIn hx hb hd h1 h2 ho ht (kk H lc ls hP hD hS hl2)
theorem x_tout (C : XC sh w own cc l0 d0 x) {a : Int32} {t len : Nat} {df lo1 hi : Int} {offs : Array Int} (hd : dc cc pc (.tableswitch df lo1 hi offs) len n) (h1 : a.toInt < lo1 ∨ hi < a.toInt) (ht : (pc : Int) + df = (t : Int)) (kk : WX sh w x S t lo st) : WX sh w x S pc lo (.int a :: st) := by
  obtain ⟨p, l, e, R, s, m, args, below, meth, c, Q, A, nL⟩ := x
  obtain ⟨⟨hx, hb, hml, hown, hts⟩, rfl, hK, hA, hAk, hSX, hlk, hfr, hlo⟩ := C
  obtain ⟨hd, rfl⟩ := hd
  intro H lc ls hP hD hS hl2
  exact lv_tableOut hx hb hd h1 ht (kk H lc ls hP hD hS hl2)
theorem x_look (C : XC sh w own cc l0 d0 x) {a : Int32} {t len : Nat} {df off : Int} {ps : Array (Int × Int)} (hd : dc cc pc (.lookupswitch df ps) len n) (hp : (ps.toList.zip (ps.toList.drop 1)).all (fun (a, next) => a.1 < next.1) = true) (ho : Op.lookupswitch.offset ps.toList df a.toInt = off) (ht : (pc : Int) + off = (t : Int)) (kk : WX sh w x S t lo st) : WX sh w x S pc lo (.int a :: st) := by
  obtain ⟨p, l, e, R, s, m, args, below, meth, c, Q, A, nL⟩ := x
  obtain ⟨⟨hx, hb, hml, hown, hts⟩, rfl, hK, hA, hAk, hSX, hlk, hfr, hlo⟩ := C
  obtain ⟨hd, rfl⟩ := hd
  intro H lc ls hP hD hS hl2
  exact lv_lookup hx hb hd hp ho ht (kk H lc ls hP hD hS hl2)
def cmV (y : MethodName) (Cn : String) (b : ByteArray) (nL : Nat) (ret : Option FieldType) (na : Nat) : Prop := (Cond.instanceMethod y ∈ tw ∧ Cond.selects Cn y y ∈ tw ∧ Cond.initialized Cn ∈ tw ∧ Cond.code y b nL ret ∈ tw) ∧ y.cls = Cn ∧ y.cls ≠ "java/lang/invoke/MethodHandle" ∧ y.cls ≠ "java/lang/invoke/VarHandle" ∧ (parseMethodDescriptor y.desc).map (fun d => d.parameters.length) = some na
def cmS (y : MethodName) (b : ByteArray) (nL : Nat) (ret : Option FieldType) (na : Nat) : Prop := (Cond.static y ∈ tw ∧ Cond.initialized y.cls ∈ tw ∧ Cond.code y b nL ret ∈ tw) ∧ y.cls ≠ "java/lang/invoke/MethodHandle" ∧ y.cls ≠ "java/lang/invoke/VarHandle" ∧ (parseMethodDescriptor y.desc).map (fun d => d.parameters.length) = some na
theorem giC {y : MethodName} {b : ByteArray} {nL : Nat} {ret : Option FieldType} (h : Cond.code y b nL ret ∈ tw) : GoodIn tw (Cond.code y b nL ret :: tw) := by
  intro c hc
  rcases List.mem_cons.mp hc with rfl | hc
  · exact ⟨h, good_of_word (tw_good h)⟩
  · exact ⟨hc, good_of_word (tw_good hc)⟩
theorem giV {y : MethodName} {own Cn : String} {idx : Nat} {b : ByteArray} {nL na : Nat} {ret : Option FieldType} (h : cmV y Cn b nL ret na) (hl : Cond.methodLink own idx y ∈ tw) : GoodIn tw (wsV own idx Cn y (Cond.code y b nL ret :: tw)) := by
  intro c hc
  unfold wsV at hc
  rcases List.mem_append.mp hc with hc | hc
  · simp only [List.mem_cons, List.not_mem_nil, or_false] at hc
    rcases hc with rfl | rfl | rfl | rfl
    · exact ⟨hl, good_of_word (tw_good hl)⟩
    · exact ⟨h.1.1, good_of_word (tw_good h.1.1)⟩
    · exact ⟨h.1.2.1, good_of_word (tw_good h.1.2.1)⟩
    · exact ⟨h.1.2.2.1, good_of_word (tw_good h.1.2.2.1)⟩
  · exact giC h.1.2.2.2 c hc
theorem giS {y : MethodName} {own : String} {idx : Nat} {b : ByteArray} {nL na : Nat} {ret : Option FieldType} (h : cmS y b nL ret na) (hl : Cond.methodLink own idx y ∈ tw) : GoodIn tw (va_wsS own idx y (Cond.code y b nL ret :: tw)) := by
  intro c hc
  unfold va_wsS at hc
  rcases List.mem_append.mp hc with hc | hc
  · simp only [List.mem_cons, List.not_mem_nil, or_false] at hc
    rcases hc with rfl | rfl | rfl
    · exact ⟨hl, good_of_word (tw_good hl)⟩
    · exact ⟨h.1.1, good_of_word (tw_good h.1.1)⟩
    · exact ⟨h.1.2.1, good_of_word (tw_good h.1.2.1)⟩
  · exact giC h.1.2.2 c hc
theorem preM_blind {sh : List Sh} {w : Ww} {S : St} {sz : Nat} {av : List Value} : FrameBlind (va_Pc av (preM sh w S sz)) := by
  intro a U g mk q
  obtain ⟨h1, h2, h3, h4, h5, h6⟩ := q
  exact ⟨h1, h2, h3, va_K.moved (u := U) (U := U.calling g mk a) (Vm.Alike.refl U.vm) h4, h5, vk_S.moved (u := U) (U := U.calling g mk a) (Vm.Alike.refl U.vm) h6.1, fun i hi => vk_R.same (u := U) (U := U.calling g mk a) rfl (h6.2.1 i hi), va_Z.moved (u := U) (U := U.calling g mk a) (Vm.Alike.refl U.vm) h6.2.2.1, va_Zq.moved (u := U) (U := U.calling g mk a) (Vm.Alike.refl U.vm) h6.2.2.2⟩
theorem SX.call {w : Ww} {A B : Nat → Prop} {s U : State} {H : Heap} {lc : List Loc} (h : SX w A s s.heap) (hS : va_S A s.heap H lc) (hU : U.heap = H) (hW : s.WarmedH U.vm) (hAB : ∀ q, B q → A q) : SX w B U U.heap := by
  rw [hU]
  exact ⟨vk_S.moved hW.alike (vk_S.narrow (vk_S.kept h.1 hS.2.1) hAB), fun i hi => vk_R.warm hW (h.2.1 i hi), va_Z.moved hW.alike (va_Z.narrow (va_Z.kept h.2.2.1 hS.2.1) hAB), va_Zq.moved hW.alike (va_Zq.narrow (va_Zq.kept h.2.2.2 hS.2.1) hAB)⟩
theorem preM_of {sh : List Sh} {w : Ww} {S : St} {A : Nat → Prop} {s U : State} {H : Heap} {lc : List Loc} (hP : va_P w.2.2.1 cls (mkW w S 0 sh) H) (hK : va_K w.2.2.1 cls (tysW w) s) (hD : va_D A (mkW w S 0 sh)) (hSX : SX w A s s.heap) (hS : va_S A s.heap H lc) (hU : U.heap = H) (hW : s.WarmedH U.vm) (hAB : ∀ q, AW sh w H.size q → A q) : preM sh w S H.size U :=
  ⟨by rw [hU], by rw [hU]; exact hP, va_K.moved hW.alike hK, hD.weaken (fun _ _ _ _ => trivial), hSX.call hS hU hW hAB⟩
theorem x_cvi (C : XC sh w own cc l0 d0 x) {y : MethodName} {b2 : ByteArray} {nL2 d na idx : Nat} {rt : FieldType} {bz : Int32 → Prop} {st0 : List Value} {α : Type} {rs : α} {q ci N : Nat} {T : u_T} {fl : List (Option Nat)} {Cn : String} {f : Option (Int32 × St)} {K : Int32 → St → Option α} (hd : dc cc pc (.invokevirtual idx) 3 n) (hl : Cond.methodLink own idx y ∈ tw) (cm : cmV y Cn b2 nL2 (some rt) na) (hc : cls[ci]? = some (Cn, T, N)) (hq : sh[q]? = some (.inl (ci, fl))) (As : List Value) (hn : As.length = na) (hst : st0 = As.reverse ++ .ref (w.1 q) :: st) (hro : d + 1 ≤ d0 ∧ nL2 ≤ 41) (hcat : (st.map fun v => v.category).sum ≤ 8) (hf : cal f K = some rs) (hm : ∀ r S1, f = some (r, S1) → MI sh w l0 y b2 nL2 rt d (.ref (w.1 q) :: As) S r S1 bz) (kk : ∀ r S1, K r S1 = some rs → bz r → WX sh w x S1 n lo (.int r :: st)) : WX sh w x S pc lo st0 := by
  obtain ⟨p, l, e, R, s, m, args, below, meth, c, Q, A, nL⟩ := x
  obtain ⟨⟨hx, hb, hml, hown, hts⟩, rfl, hK, hA, hAk, hSX, hlk, hfr, hlo⟩ := C
  obtain ⟨hd, rfl⟩ := hd
  intro H lc ls hP hD hS hl2
  subst hst
  have hAB : ∀ q, AW sh w H.size q → A q := by
    rintro q (⟨k, hk, rfl⟩ | h)
    · exact hAk k hk
    · exact hA q (Nat.le_trans hS.1 h)
  have hroom : (rmD d).frames + 1 ≤ R.frames ∧ 8 + (nL2 + 11) + (rmD d).locals ≤ R.locals := by
    unfold rmD
    dsimp only
    omega
  obtain ⟨r0, S0, hf0, hf⟩ := cal_in hf
  refine va_calli (va_runV (As := As) (rest := st) ⟨hx, hb, hml, hown, hts⟩ (hm r0 S0 hf0 H.size) (cwV na hts (giV cm hl) rfl rfl rfl cm.2 hroom) ⟨preM_blind, va_recv hK hP hc (mkW0 hq), fun U hU hW => ⟨rfl, preM_of hP hK hD hSX hS hU hW hAB⟩⟩ rfl hn hl2.1 rfl (lv_room hcat) hd ⟨Nat.zero_le _, Nat.zero_le _⟩) hS (fun q _ h => hAB q h) hAB (fun r1 u t H1 locs1 ht hvm hw hB hz hk hS1 => ?_)
  obtain ⟨rfl, rfl, hbz⟩ := hw
  obtain ⟨hP1, hD1⟩ := hB
  rw [ht] at hP1
  exact kk _ _ hf hbz H1 locs1 ls hP1 (hD1.weaken (fun _ q _ h => hAB _ h)) hS1 hl2
theorem x_cvl (C : XC sh w own cc l0 d0 x) {y : MethodName} {b2 : ByteArray} {nL2 d na idx : Nat} {st0 : List Value} {α : Type} {rs : α} {q ci N : Nat} {T : u_T} {fl : List (Option Nat)} {Cn : String} {f : Option (Int64 × St)} {K : Int64 → St → Option α} (hd : dc cc pc (.invokevirtual idx) 3 n) (hl : Cond.methodLink own idx y ∈ tw) (cm : cmV y Cn b2 nL2 (some .long) na) (hc : cls[ci]? = some (Cn, T, N)) (hq : sh[q]? = some (.inl (ci, fl))) (As : List Value) (hn : As.length = na) (hst : st0 = As.reverse ++ .ref (w.1 q) :: st) (hro : d + 1 ≤ d0 ∧ nL2 ≤ 41) (hcat : (st.map fun v => v.category).sum ≤ 8) (hf : cal f K = some rs) (hm : ∀ r S1, f = some (r, S1) → ML sh w l0 y b2 nL2 d (.ref (w.1 q) :: As) S r S1) (kk : ∀ r S1, K r S1 = some rs → WX sh w x S1 n lo (.long r :: st)) : WX sh w x S pc lo st0 := by
  obtain ⟨p, l, e, R, s, m, args, below, meth, c, Q, A, nL⟩ := x
  obtain ⟨⟨hx, hb, hml, hown, hts⟩, rfl, hK, hA, hAk, hSX, hlk, hfr, hlo⟩ := C
  obtain ⟨hd, rfl⟩ := hd
  intro H lc ls hP hD hS hl2
  subst hst
  have hAB : ∀ q, AW sh w H.size q → A q := by
    rintro q (⟨k, hk, rfl⟩ | h)
    · exact hAk k hk
    · exact hA q (Nat.le_trans hS.1 h)
  have hroom : (rmD d).frames + 1 ≤ R.frames ∧ 8 + (nL2 + 11) + (rmD d).locals ≤ R.locals := by
    unfold rmD
    dsimp only
    omega
  obtain ⟨r0, S0, hf0, hf⟩ := cal_in hf
  refine va_calll (va_runV (As := As) (rest := st) ⟨hx, hb, hml, hown, hts⟩ (hm r0 S0 hf0 H.size) (cwV na hts (giV cm hl) rfl rfl rfl cm.2 hroom) ⟨preM_blind, va_recv hK hP hc (mkW0 hq), fun U hU hW => ⟨rfl, preM_of hP hK hD hSX hS hU hW hAB⟩⟩ rfl hn hl2.1 rfl (lv_room hcat) hd ⟨Nat.zero_le _, Nat.zero_le _⟩) hS (fun q _ h => hAB q h) hAB (fun r1 u t H1 locs1 ht hvm hw hB hz hk hS1 => ?_)
  obtain ⟨rfl, rfl⟩ := hw
  obtain ⟨hP1, hD1⟩ := hB
  rw [ht] at hP1
  exact kk _ _ hf H1 locs1 ls hP1 (hD1.weaken (fun _ q _ h => hAB _ h)) hS1 hl2
theorem x_cvv (C : XC sh w own cc l0 d0 x) {y : MethodName} {b2 : ByteArray} {nL2 d na idx : Nat} {st0 : List Value} {α : Type} {rs : α} {q ci N : Nat} {T : u_T} {fl : List (Option Nat)} {Cn : String} {f : Option St} {K : St → Option α} (hd : dc cc pc (.invokevirtual idx) 3 n) (hl : Cond.methodLink own idx y ∈ tw) (cm : cmV y Cn b2 nL2 none na) (hc : cls[ci]? = some (Cn, T, N)) (hq : sh[q]? = some (.inl (ci, fl))) (As : List Value) (hn : As.length = na) (hst : st0 = As.reverse ++ .ref (w.1 q) :: st) (hro : d + 1 ≤ d0 ∧ nL2 ≤ 41) (hcat : (st.map fun v => v.category).sum ≤ 8) (hf : cav f K = some rs) (hm : ∀ S1, f = some S1 → MV sh w l0 y b2 nL2 d (.ref (w.1 q) :: As) S S1) (kk : ∀ S1, K S1 = some rs → WX sh w x S1 n lo st) : WX sh w x S pc lo st0 := by
  obtain ⟨p, l, e, R, s, m, args, below, meth, c, Q, A, nL⟩ := x
  obtain ⟨⟨hx, hb, hml, hown, hts⟩, rfl, hK, hA, hAk, hSX, hlk, hfr, hlo⟩ := C
  obtain ⟨hd, rfl⟩ := hd
  intro H lc ls hP hD hS hl2
  subst hst
  have hAB : ∀ q, AW sh w H.size q → A q := by
    rintro q (⟨k, hk, rfl⟩ | h)
    · exact hAk k hk
    · exact hA q (Nat.le_trans hS.1 h)
  have hroom : (rmD d).frames + 1 ≤ R.frames ∧ 8 + (nL2 + 11) + (rmD d).locals ≤ R.locals := by
    unfold rmD
    dsimp only
    omega
  obtain ⟨S0, hf0, hf⟩ := cav_in hf
  refine va_callv (va_runV (As := As) (rest := st) ⟨hx, hb, hml, hown, hts⟩ (hm S0 hf0 H.size) (cwV na hts (giV cm hl) rfl rfl rfl cm.2 hroom) ⟨preM_blind, va_recv hK hP hc (mkW0 hq), fun U hU hW => ⟨rfl, preM_of hP hK hD hSX hS hU hW hAB⟩⟩ rfl hn hl2.1 rfl (lv_room hcat) hd ⟨Nat.zero_le _, Nat.zero_le _⟩) hS (fun q _ h => hAB q h) hAB (fun u t H1 locs1 ht hvm hw hB hz hk hS1 => ?_)
  subst hw
  obtain ⟨hP1, hD1⟩ := hB
  rw [ht] at hP1
  exact kk _ hf H1 locs1 ls hP1 (hD1.weaken (fun _ q _ h => hAB _ h)) hS1 hl2
theorem x_cvr (C : XC sh w own cc l0 d0 x) {y : MethodName} {b2 : ByteArray} {nL2 d na idx : Nat} {rt : FieldType} {bz : Int32 → Prop} {st0 : List Value} {α : Type} {rs : α} {q ci N : Nat} {T : u_T} {fl : List (Option Nat)} {Cn : String} {f : Option Int32} {K : Int32 → Option α} (hd : dc cc pc (.invokevirtual idx) 3 n) (hl : Cond.methodLink own idx y ∈ tw) (cm : cmV y Cn b2 nL2 (some rt) na) (hc : cls[ci]? = some (Cn, T, N)) (hq : sh[q]? = some (.inl (ci, fl))) (As : List Value) (hn : As.length = na) (hst : st0 = As.reverse ++ .ref (w.1 q) :: st) (hro : d + 1 ≤ d0 ∧ nL2 ≤ 41) (hcat : (st.map fun v => v.category).sum ≤ 8) (hf : crd f K = some rs) (hm : ∀ r, f = some r → MI sh w l0 y b2 nL2 rt d (.ref (w.1 q) :: As) S r S bz) (kk : ∀ r, K r = some rs → bz r → WX sh w x S n lo (.int r :: st)) : WX sh w x S pc lo st0 := by
  obtain ⟨p, l, e, R, s, m, args, below, meth, c, Q, A, nL⟩ := x
  obtain ⟨⟨hx, hb, hml, hown, hts⟩, rfl, hK, hA, hAk, hSX, hlk, hfr, hlo⟩ := C
  obtain ⟨hd, rfl⟩ := hd
  intro H lc ls hP hD hS hl2
  subst hst
  have hAB : ∀ q, AW sh w H.size q → A q := by
    rintro q (⟨k, hk, rfl⟩ | h)
    · exact hAk k hk
    · exact hA q (Nat.le_trans hS.1 h)
  have hroom : (rmD d).frames + 1 ≤ R.frames ∧ 8 + (nL2 + 11) + (rmD d).locals ≤ R.locals := by
    unfold rmD
    dsimp only
    omega
  obtain ⟨r0, hf0, hf⟩ := crd_in hf
  refine va_calli (va_runV (As := As) (rest := st) ⟨hx, hb, hml, hown, hts⟩ (hm r0 hf0 H.size) (cwV na hts (giV cm hl) rfl rfl rfl cm.2 hroom) ⟨preM_blind, va_recv hK hP hc (mkW0 hq), fun U hU hW => ⟨rfl, preM_of hP hK hD hSX hS hU hW hAB⟩⟩ rfl hn hl2.1 rfl (lv_room hcat) hd ⟨Nat.zero_le _, Nat.zero_le _⟩) hS (fun q _ h => hAB q h) hAB (fun r1 u t H1 locs1 ht hvm hw hB hz hk hS1 => ?_)
  obtain ⟨rfl, rfl, hbz⟩ := hw
  obtain ⟨hP1, hD1⟩ := hB
  rw [ht] at hP1
  exact kk _ hf hbz H1 locs1 ls hP1 (hD1.weaken (fun _ q _ h => hAB _ h)) hS1 hl2
theorem x_cvq (C : XC sh w own cc l0 d0 x) {y : MethodName} {b2 : ByteArray} {nL2 d na idx : Nat} {st0 : List Value} {α : Type} {rs : α} {q ci N : Nat} {T : u_T} {fl : List (Option Nat)} {Cn : String} {f : Option Int64} {K : Int64 → Option α} (hd : dc cc pc (.invokevirtual idx) 3 n) (hl : Cond.methodLink own idx y ∈ tw) (cm : cmV y Cn b2 nL2 (some .long) na) (hc : cls[ci]? = some (Cn, T, N)) (hq : sh[q]? = some (.inl (ci, fl))) (As : List Value) (hn : As.length = na) (hst : st0 = As.reverse ++ .ref (w.1 q) :: st) (hro : d + 1 ≤ d0 ∧ nL2 ≤ 41) (hcat : (st.map fun v => v.category).sum ≤ 8) (hf : crd f K = some rs) (hm : ∀ r, f = some r → ML sh w l0 y b2 nL2 d (.ref (w.1 q) :: As) S r S) (kk : ∀ r, K r = some rs → WX sh w x S n lo (.long r :: st)) : WX sh w x S pc lo st0 := by
  obtain ⟨p, l, e, R, s, m, args, below, meth, c, Q, A, nL⟩ := x
  obtain ⟨⟨hx, hb, hml, hown, hts⟩, rfl, hK, hA, hAk, hSX, hlk, hfr, hlo⟩ := C
  obtain ⟨hd, rfl⟩ := hd
  intro H lc ls hP hD hS hl2
  subst hst
  have hAB : ∀ q, AW sh w H.size q → A q := by
    rintro q (⟨k, hk, rfl⟩ | h)
    · exact hAk k hk
    · exact hA q (Nat.le_trans hS.1 h)
  have hroom : (rmD d).frames + 1 ≤ R.frames ∧ 8 + (nL2 + 11) + (rmD d).locals ≤ R.locals := by
    unfold rmD
    dsimp only
    omega
  obtain ⟨r0, hf0, hf⟩ := crd_in hf
  refine va_calll (va_runV (As := As) (rest := st) ⟨hx, hb, hml, hown, hts⟩ (hm r0 hf0 H.size) (cwV na hts (giV cm hl) rfl rfl rfl cm.2 hroom) ⟨preM_blind, va_recv hK hP hc (mkW0 hq), fun U hU hW => ⟨rfl, preM_of hP hK hD hSX hS hU hW hAB⟩⟩ rfl hn hl2.1 rfl (lv_room hcat) hd ⟨Nat.zero_le _, Nat.zero_le _⟩) hS (fun q _ h => hAB q h) hAB (fun r1 u t H1 locs1 ht hvm hw hB hz hk hS1 => ?_)
  obtain ⟨rfl, rfl⟩ := hw
  obtain ⟨hP1, hD1⟩ := hB
  rw [ht] at hP1
  exact kk _ hf H1 locs1 ls hP1 (hD1.weaken (fun _ q _ h => hAB _ h)) hS1 hl2
theorem x_csi (C : XC sh w own cc l0 d0 x) {y : MethodName} {b2 : ByteArray} {nL2 d na idx : Nat} {rt : FieldType} {bz : Int32 → Prop} {st0 : List Value} {α : Type} {rs : α} {f : Option (Int32 × St)} {K : Int32 → St → Option α} (hd : dc cc pc (.invokestatic idx) 3 n) (hl : Cond.methodLink own idx y ∈ tw) (cm : cmS y b2 nL2 (some rt) na) (As : List Value) (hn : As.length = na) (hst : st0 = As.reverse ++ st) (hro : d + 1 ≤ d0 ∧ nL2 ≤ 41) (hcat : (st.map fun v => v.category).sum ≤ 8) (hf : cal f K = some rs) (hm : ∀ r S1, f = some (r, S1) → MI sh w l0 y b2 nL2 rt d (As) S r S1 bz) (kk : ∀ r S1, K r S1 = some rs → bz r → WX sh w x S1 n lo (.int r :: st)) : WX sh w x S pc lo st0 := by
  obtain ⟨p, l, e, R, s, m, args, below, meth, c, Q, A, nL⟩ := x
  obtain ⟨⟨hx, hb, hml, hown, hts⟩, rfl, hK, hA, hAk, hSX, hlk, hfr, hlo⟩ := C
  obtain ⟨hd, rfl⟩ := hd
  intro H lc ls hP hD hS hl2
  subst hst
  have hAB : ∀ q, AW sh w H.size q → A q := by
    rintro q (⟨k, hk, rfl⟩ | h)
    · exact hAk k hk
    · exact hA q (Nat.le_trans hS.1 h)
  have hroom : (rmD d).frames + 1 ≤ R.frames ∧ 8 + (nL2 + 11) + (rmD d).locals ≤ R.locals := by
    unfold rmD
    dsimp only
    omega
  obtain ⟨r0, S0, hf0, hf⟩ := cal_in hf
  refine va_calli (va_runS (As := As) (rest := st) ⟨hx, hb, hml, hown, hts⟩ (hm r0 S0 hf0 H.size) (va_cwS na hts (giS cm hl) rfl rfl rfl cm.2 hroom) ⟨preM_blind, fun U hU hW => ⟨rfl, preM_of hP hK hD hSX hS hU hW hAB⟩⟩ rfl hn hl2.1 rfl (lv_room hcat) hd ⟨Nat.zero_le _, Nat.zero_le _⟩) hS (fun q _ h => hAB q h) hAB (fun r1 u t H1 locs1 ht hvm hw hB hz hk hS1 => ?_)
  obtain ⟨rfl, rfl, hbz⟩ := hw
  obtain ⟨hP1, hD1⟩ := hB
  rw [ht] at hP1
  exact kk _ _ hf hbz H1 locs1 ls hP1 (hD1.weaken (fun _ q _ h => hAB _ h)) hS1 hl2
theorem x_csl (C : XC sh w own cc l0 d0 x) {y : MethodName} {b2 : ByteArray} {nL2 d na idx : Nat} {st0 : List Value} {α : Type} {rs : α} {f : Option (Int64 × St)} {K : Int64 → St → Option α} (hd : dc cc pc (.invokestatic idx) 3 n) (hl : Cond.methodLink own idx y ∈ tw) (cm : cmS y b2 nL2 (some .long) na) (As : List Value) (hn : As.length = na) (hst : st0 = As.reverse ++ st) (hro : d + 1 ≤ d0 ∧ nL2 ≤ 41) (hcat : (st.map fun v => v.category).sum ≤ 8) (hf : cal f K = some rs) (hm : ∀ r S1, f = some (r, S1) → ML sh w l0 y b2 nL2 d (As) S r S1) (kk : ∀ r S1, K r S1 = some rs → WX sh w x S1 n lo (.long r :: st)) : WX sh w x S pc lo st0 := by
  obtain ⟨p, l, e, R, s, m, args, below, meth, c, Q, A, nL⟩ := x
  obtain ⟨⟨hx, hb, hml, hown, hts⟩, rfl, hK, hA, hAk, hSX, hlk, hfr, hlo⟩ := C
  obtain ⟨hd, rfl⟩ := hd
  intro H lc ls hP hD hS hl2
  subst hst
  have hAB : ∀ q, AW sh w H.size q → A q := by
    rintro q (⟨k, hk, rfl⟩ | h)
    · exact hAk k hk
    · exact hA q (Nat.le_trans hS.1 h)
  have hroom : (rmD d).frames + 1 ≤ R.frames ∧ 8 + (nL2 + 11) + (rmD d).locals ≤ R.locals := by
    unfold rmD
    dsimp only
    omega
  obtain ⟨r0, S0, hf0, hf⟩ := cal_in hf
  refine va_calll (va_runS (As := As) (rest := st) ⟨hx, hb, hml, hown, hts⟩ (hm r0 S0 hf0 H.size) (va_cwS na hts (giS cm hl) rfl rfl rfl cm.2 hroom) ⟨preM_blind, fun U hU hW => ⟨rfl, preM_of hP hK hD hSX hS hU hW hAB⟩⟩ rfl hn hl2.1 rfl (lv_room hcat) hd ⟨Nat.zero_le _, Nat.zero_le _⟩) hS (fun q _ h => hAB q h) hAB (fun r1 u t H1 locs1 ht hvm hw hB hz hk hS1 => ?_)
  obtain ⟨rfl, rfl⟩ := hw
  obtain ⟨hP1, hD1⟩ := hB
  rw [ht] at hP1
  exact kk _ _ hf H1 locs1 ls hP1 (hD1.weaken (fun _ q _ h => hAB _ h)) hS1 hl2
theorem x_csv (C : XC sh w own cc l0 d0 x) {y : MethodName} {b2 : ByteArray} {nL2 d na idx : Nat} {st0 : List Value} {α : Type} {rs : α} {f : Option St} {K : St → Option α} (hd : dc cc pc (.invokestatic idx) 3 n) (hl : Cond.methodLink own idx y ∈ tw) (cm : cmS y b2 nL2 none na) (As : List Value) (hn : As.length = na) (hst : st0 = As.reverse ++ st) (hro : d + 1 ≤ d0 ∧ nL2 ≤ 41) (hcat : (st.map fun v => v.category).sum ≤ 8) (hf : cav f K = some rs) (hm : ∀ S1, f = some S1 → MV sh w l0 y b2 nL2 d (As) S S1) (kk : ∀ S1, K S1 = some rs → WX sh w x S1 n lo st) : WX sh w x S pc lo st0 := by
  obtain ⟨p, l, e, R, s, m, args, below, meth, c, Q, A, nL⟩ := x
  obtain ⟨⟨hx, hb, hml, hown, hts⟩, rfl, hK, hA, hAk, hSX, hlk, hfr, hlo⟩ := C
  obtain ⟨hd, rfl⟩ := hd
  intro H lc ls hP hD hS hl2
  subst hst
  have hAB : ∀ q, AW sh w H.size q → A q := by
    rintro q (⟨k, hk, rfl⟩ | h)
    · exact hAk k hk
    · exact hA q (Nat.le_trans hS.1 h)
  have hroom : (rmD d).frames + 1 ≤ R.frames ∧ 8 + (nL2 + 11) + (rmD d).locals ≤ R.locals := by
    unfold rmD
    dsimp only
    omega
  obtain ⟨S0, hf0, hf⟩ := cav_in hf
  refine va_callv (va_runS (As := As) (rest := st) ⟨hx, hb, hml, hown, hts⟩ (hm S0 hf0 H.size) (va_cwS na hts (giS cm hl) rfl rfl rfl cm.2 hroom) ⟨preM_blind, fun U hU hW => ⟨rfl, preM_of hP hK hD hSX hS hU hW hAB⟩⟩ rfl hn hl2.1 rfl (lv_room hcat) hd ⟨Nat.zero_le _, Nat.zero_le _⟩) hS (fun q _ h => hAB q h) hAB (fun u t H1 locs1 ht hvm hw hB hz hk hS1 => ?_)
  subst hw
  obtain ⟨hP1, hD1⟩ := hB
  rw [ht] at hP1
  exact kk _ hf H1 locs1 ls hP1 (hD1.weaken (fun _ q _ h => hAB _ h)) hS1 hl2
theorem x_csr (C : XC sh w own cc l0 d0 x) {y : MethodName} {b2 : ByteArray} {nL2 d na idx : Nat} {rt : FieldType} {bz : Int32 → Prop} {st0 : List Value} {α : Type} {rs : α} {f : Option Int32} {K : Int32 → Option α} (hd : dc cc pc (.invokestatic idx) 3 n) (hl : Cond.methodLink own idx y ∈ tw) (cm : cmS y b2 nL2 (some rt) na) (As : List Value) (hn : As.length = na) (hst : st0 = As.reverse ++ st) (hro : d + 1 ≤ d0 ∧ nL2 ≤ 41) (hcat : (st.map fun v => v.category).sum ≤ 8) (hf : crd f K = some rs) (hm : ∀ r, f = some r → MI sh w l0 y b2 nL2 rt d (As) S r S bz) (kk : ∀ r, K r = some rs → bz r → WX sh w x S n lo (.int r :: st)) : WX sh w x S pc lo st0 := by
  obtain ⟨p, l, e, R, s, m, args, below, meth, c, Q, A, nL⟩ := x
  obtain ⟨⟨hx, hb, hml, hown, hts⟩, rfl, hK, hA, hAk, hSX, hlk, hfr, hlo⟩ := C
  obtain ⟨hd, rfl⟩ := hd
  intro H lc ls hP hD hS hl2
  subst hst
  have hAB : ∀ q, AW sh w H.size q → A q := by
    rintro q (⟨k, hk, rfl⟩ | h)
    · exact hAk k hk
    · exact hA q (Nat.le_trans hS.1 h)
  have hroom : (rmD d).frames + 1 ≤ R.frames ∧ 8 + (nL2 + 11) + (rmD d).locals ≤ R.locals := by
    unfold rmD
    dsimp only
    omega
  obtain ⟨r0, hf0, hf⟩ := crd_in hf
  refine va_calli (va_runS (As := As) (rest := st) ⟨hx, hb, hml, hown, hts⟩ (hm r0 hf0 H.size) (va_cwS na hts (giS cm hl) rfl rfl rfl cm.2 hroom) ⟨preM_blind, fun U hU hW => ⟨rfl, preM_of hP hK hD hSX hS hU hW hAB⟩⟩ rfl hn hl2.1 rfl (lv_room hcat) hd ⟨Nat.zero_le _, Nat.zero_le _⟩) hS (fun q _ h => hAB q h) hAB (fun r1 u t H1 locs1 ht hvm hw hB hz hk hS1 => ?_)
  obtain ⟨rfl, rfl, hbz⟩ := hw
  obtain ⟨hP1, hD1⟩ := hB
  rw [ht] at hP1
  exact kk _ hf hbz H1 locs1 ls hP1 (hD1.weaken (fun _ q _ h => hAB _ h)) hS1 hl2
theorem x_csq (C : XC sh w own cc l0 d0 x) {y : MethodName} {b2 : ByteArray} {nL2 d na idx : Nat} {st0 : List Value} {α : Type} {rs : α} {f : Option Int64} {K : Int64 → Option α} (hd : dc cc pc (.invokestatic idx) 3 n) (hl : Cond.methodLink own idx y ∈ tw) (cm : cmS y b2 nL2 (some .long) na) (As : List Value) (hn : As.length = na) (hst : st0 = As.reverse ++ st) (hro : d + 1 ≤ d0 ∧ nL2 ≤ 41) (hcat : (st.map fun v => v.category).sum ≤ 8) (hf : crd f K = some rs) (hm : ∀ r, f = some r → ML sh w l0 y b2 nL2 d (As) S r S) (kk : ∀ r, K r = some rs → WX sh w x S n lo (.long r :: st)) : WX sh w x S pc lo st0 := by
  obtain ⟨p, l, e, R, s, m, args, below, meth, c, Q, A, nL⟩ := x
  obtain ⟨⟨hx, hb, hml, hown, hts⟩, rfl, hK, hA, hAk, hSX, hlk, hfr, hlo⟩ := C
  obtain ⟨hd, rfl⟩ := hd
  intro H lc ls hP hD hS hl2
  subst hst
  have hAB : ∀ q, AW sh w H.size q → A q := by
    rintro q (⟨k, hk, rfl⟩ | h)
    · exact hAk k hk
    · exact hA q (Nat.le_trans hS.1 h)
  have hroom : (rmD d).frames + 1 ≤ R.frames ∧ 8 + (nL2 + 11) + (rmD d).locals ≤ R.locals := by
    unfold rmD
    dsimp only
    omega
  obtain ⟨r0, hf0, hf⟩ := crd_in hf
  refine va_calll (va_runS (As := As) (rest := st) ⟨hx, hb, hml, hown, hts⟩ (hm r0 hf0 H.size) (va_cwS na hts (giS cm hl) rfl rfl rfl cm.2 hroom) ⟨preM_blind, fun U hU hW => ⟨rfl, preM_of hP hK hD hSX hS hU hW hAB⟩⟩ rfl hn hl2.1 rfl (lv_room hcat) hd ⟨Nat.zero_le _, Nat.zero_le _⟩) hS (fun q _ h => hAB q h) hAB (fun r1 u t H1 locs1 ht hvm hw hB hz hk hS1 => ?_)
  obtain ⟨rfl, rfl⟩ := hw
  obtain ⟨hP1, hD1⟩ := hB
  rw [ht] at hP1
  exact kk _ hf H1 locs1 ls hP1 (hD1.weaken (fun _ q _ h => hAB _ h)) hS1 hl2
theorem x_cxr (C : XC sh w own cc l0 d0 x) {y : MethodName} {b2 : ByteArray} {nL2 d na idx : Nat} {rt : FieldType} {bz : Int32 → Prop} {st0 : List Value} {α : Type} {rs : α} {j : Nat} {f : Option Int32} {K : Int32 → Option α} (hd : dc cc pc (.invokevirtual idx) 3 n) (hl : Cond.methodLink own idx y ∈ tw) (cm : cmV y "java/lang/String" b2 nL2 (some rt) na) (hj : j < 6) (As : List Value) (hn : As.length = na) (hst : st0 = As.reverse ++ .ref (w.2.2.2.1 j) :: st) (hro : d + 1 ≤ d0 ∧ nL2 ≤ 41) (hcat : (st.map fun v => v.category).sum ≤ 8) (hf : crd f K = some rs) (hm : ∀ r, f = some r → MI sh w l0 y b2 nL2 rt d (.ref (w.2.2.2.1 j) :: As) S r S bz) (kk : ∀ r, K r = some rs → bz r → WX sh w x S n lo (.int r :: st)) : WX sh w x S pc lo st0 := by
  obtain ⟨p, l, e, R, s, m, args, below, meth, c, Q, A, nL⟩ := x
  obtain ⟨⟨hx, hb, hml, hown, hts⟩, rfl, hK, hA, hAk, hSX, hlk, hfr, hlo⟩ := C
  obtain ⟨hd, rfl⟩ := hd
  intro H lc ls hP hD hS hl2
  subst hst
  have hAB : ∀ q, AW sh w H.size q → A q := by
    rintro q (⟨k, hk, rfl⟩ | h)
    · exact hAk k hk
    · exact hA q (Nat.le_trans hS.1 h)
  have hroom : (rmD d).frames + 1 ≤ R.frames ∧ 8 + (nL2 + 11) + (rmD d).locals ≤ R.locals := by
    unfold rmD
    dsimp only
    omega
  obtain ⟨r0, hf0, hf⟩ := crd_in hf
  refine va_calli (va_runV (As := As) (rest := st) ⟨hx, hb, hml, hown, hts⟩ (hm r0 hf0 H.size) (cwV na hts (giV cm hl) rfl rfl rfl cm.2 hroom) ⟨preM_blind, vk_recv hSX.1 hj hS, fun U hU hW => ⟨rfl, preM_of hP hK hD hSX hS hU hW hAB⟩⟩ rfl hn hl2.1 rfl (lv_room hcat) hd ⟨Nat.zero_le _, Nat.zero_le _⟩) hS (fun q _ h => hAB q h) hAB (fun r1 u t H1 locs1 ht hvm hw hB hz hk hS1 => ?_)
  obtain ⟨rfl, rfl, hbz⟩ := hw
  obtain ⟨hP1, hD1⟩ := hB
  rw [ht] at hP1
  exact kk _ hf hbz H1 locs1 ls hP1 (hD1.weaken (fun _ q _ h => hAB _ h)) hS1 hl2
theorem mkW_D {sh : List Sh} {w : Ww} {S : St} {sz : Nat} (h : va_D (fun _ => True) (mkW w S 0 sh)) : va_D (AW sh w sz) (mkW w S 0 sh) := by
  refine ⟨h.1, fun k q hk => ?_⟩
  obtain ⟨h1, h2⟩ := mkW_ex hk
  exact Or.inl ⟨k, h1, by rw [h2, Nat.zero_add]⟩
end ROWS
theorem MI.of {sh : List Sh} {w : Ww} {l : Launch} {y : MethodName} {cc : ByteArray} {nL d : Nat} {av : List Value} {S S' : St} {ret : FieldType} {r : Int32} {bz : Int32 → Prop} {lo0 : List (Nat × Value)} (hy : plainName y.cls = true) (hlen : (lg_sl av).length ≤ nL) (hlo : lv_args 0 av = lo0) (hrt : ∀ v, bz v → narrow ret (.int v) = .int v) (body : ∀ x : Cx, x.2.2.2.2.2.2.2.2.2.2.2.2 = nL → XC sh w y.cls cc l d x → RI sh w cc bz (r, S') x → WX sh w x S 0 lo0 []) : MI sh w l y cc nL ret d av S r S' bz := by
  intro sz
  refine Met.ofW (cc := cc) (maxL := nL) (ret := (some ret)) hy rfl ?_
  intro p e s m args below meth c s₁ B hml hv
  obtain ⟨rfl, hsz, hP, hK, hD0, hSX⟩ := hv
  have hts := atoms_spec (ws := .code y cc nL (some ret) :: tw) B.pre
  have hown : s.vm.findClass y.cls = some m.cls := findClass_of_methodNamed B.named
  have hx := B.exec
  have hb := B.bytes
  have hr := B.returns
  have hlocks := B.notSynchronized
  subst hsz
  rw [lg_entry_eq]
  have hl := lv_entry av (n := nL) hlen
  rw [hlo] at hl
  refine body (p, l, e, _, s, m, _, below, meth, c, _, AW sh w s.heap.size, nL) rfl ⟨⟨B.exec, B.bytes, hml, hown, fun w hw => hts w (List.mem_cons_of_mem _ hw)⟩, rfl, hK, fun q h => Or.inr h, fun k hk => Or.inl ⟨k, hk, rfl⟩, hSX, hlocks, Nat.le_refl _, Nat.le_refl _⟩ ?_ s.heap [] _ hP (mkW_D hD0) va_S.rf hl
  intro pc lo v S1 hd hrs hbz H lc ls hP hD hS hl
  cases hrs
  exact W.zret hx hb hr (hrt r hbz) (fun t ht hW => ⟨⟨r, S', rfl, ⟨rfl, rfl, hbz⟩, by rw [ht]; exact hP, hD⟩, hS.F ht⟩) hS.2.2 hd hlocks
theorem ML.of {sh : List Sh} {w : Ww} {l : Launch} {y : MethodName} {cc : ByteArray} {nL d : Nat} {av : List Value} {S S' : St} {r : Int64} {lo0 : List (Nat × Value)} (hy : plainName y.cls = true) (hlen : (lg_sl av).length ≤ nL) (hlo : lv_args 0 av = lo0) (body : ∀ x : Cx, x.2.2.2.2.2.2.2.2.2.2.2.2 = nL → XC sh w y.cls cc l d x → RL' sh w cc (r, S') x → WX sh w x S 0 lo0 []) : ML sh w l y cc nL d av S r S' := by
  intro sz
  refine Met.ofW (cc := cc) (maxL := nL) (ret := (some .long)) hy rfl ?_
  intro p e s m args below meth c s₁ B hml hv
  obtain ⟨rfl, hsz, hP, hK, hD0, hSX⟩ := hv
  have hts := atoms_spec (ws := .code y cc nL (some .long) :: tw) B.pre
  have hown : s.vm.findClass y.cls = some m.cls := findClass_of_methodNamed B.named
  have hx := B.exec
  have hb := B.bytes
  have hr := B.returns
  have hlocks := B.notSynchronized
  subst hsz
  rw [lg_entry_eq]
  have hl := lv_entry av (n := nL) hlen
  rw [hlo] at hl
  refine body (p, l, e, _, s, m, _, below, meth, c, _, AW sh w s.heap.size, nL) rfl ⟨⟨B.exec, B.bytes, hml, hown, fun w hw => hts w (List.mem_cons_of_mem _ hw)⟩, rfl, hK, fun q h => Or.inr h, fun k hk => Or.inl ⟨k, hk, rfl⟩, hSX, hlocks, Nat.le_refl _, Nat.le_refl _⟩ ?_ s.heap [] _ hP (mkW_D hD0) va_S.rf hl
  intro pc lo v S1 hd hrs H lc ls hP hD hS hl
  cases hrs
  exact W.lret hx hb hr (fun t ht hW => ⟨⟨r, S', rfl, ⟨rfl, rfl⟩, by rw [ht]; exact hP, hD⟩, hS.F ht⟩) hS.2.2 hd hlocks
theorem MV.of {sh : List Sh} {w : Ww} {l : Launch} {y : MethodName} {cc : ByteArray} {nL d : Nat} {av : List Value} {S S' : St}  {lo0 : List (Nat × Value)} (hy : plainName y.cls = true) (hlen : (lg_sl av).length ≤ nL) (hlo : lv_args 0 av = lo0) (body : ∀ x : Cx, x.2.2.2.2.2.2.2.2.2.2.2.2 = nL → XC sh w y.cls cc l d x → RV sh w cc S' x → WX sh w x S 0 lo0 []) : MV sh w l y cc nL d av S S' := by
  intro sz
  refine Met.ofW (cc := cc) (maxL := nL) (ret := none) hy rfl ?_
  intro p e s m args below meth c s₁ B hml hv
  obtain ⟨rfl, hsz, hP, hK, hD0, hSX⟩ := hv
  have hts := atoms_spec (ws := .code y cc nL none :: tw) B.pre
  have hown : s.vm.findClass y.cls = some m.cls := findClass_of_methodNamed B.named
  have hx := B.exec
  have hb := B.bytes
  have hr := B.returns
  have hlocks := B.notSynchronized
  subst hsz
  rw [lg_entry_eq]
  have hl := lv_entry av (n := nL) hlen
  rw [hlo] at hl
  refine body (p, l, e, _, s, m, _, below, meth, c, _, AW sh w s.heap.size, nL) rfl ⟨⟨B.exec, B.bytes, hml, hown, fun w hw => hts w (List.mem_cons_of_mem _ hw)⟩, rfl, hK, fun q h => Or.inr h, fun k hk => Or.inl ⟨k, hk, rfl⟩, hSX, hlocks, Nat.le_refl _, Nat.le_refl _⟩ ?_ s.heap [] _ hP (mkW_D hD0) va_S.rf hl
  intro pc lo S1 hd hrs H lc ls hP hD hS hl
  cases hrs
  exact W.vret hx hb hr (fun t ht hW => ⟨⟨S', rfl, rfl, by rw [ht]; exact hP, hD⟩, hS.F ht⟩) hS.2.2 hd hlocks
