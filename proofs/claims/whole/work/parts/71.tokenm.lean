/-! B: text: tokens on the reference's side -/
theorem spl_0 (B : Nat → Nat) (s e : Nat) : spl B s e 0 ↔ e - s = 5 ∧ B (s + 0) = 119 ∧ B (s + 1) = 105 ∧ B (s + 2) = 114 ∧ B (s + 3) = 101 ∧ B (s + 4) = 115 := by
  constructor
  · intro h
    exact ⟨h.1, h.2 0 (by decide), h.2 1 (by decide), h.2 2 (by decide), h.2 3 (by decide), h.2 4 (by decide)⟩
  · rintro ⟨h, h0, h1, h2, h3, h4⟩
    refine ⟨h, fun i hi => ?_⟩
    have hi' : i < 5 := hi
    rcases (show i = 0 ∨ i = 1 ∨ i = 2 ∨ i = 3 ∨ i = 4 by omega) with rfl | rfl | rfl | rfl | rfl
    · exact h0
    · exact h1
    · exact h2
    · exact h3
    · exact h4
theorem spl_1 (B : Nat → Nat) (s e : Nat) : spl B s e 1 ↔ e - s = 3 ∧ B (s + 0) = 111 ∧ B (s + 1) = 119 ∧ B (s + 2) = 110 := by
  constructor
  · intro h
    exact ⟨h.1, h.2 0 (by decide), h.2 1 (by decide), h.2 2 (by decide)⟩
  · rintro ⟨h, h0, h1, h2⟩
    refine ⟨h, fun i hi => ?_⟩
    have hi' : i < 3 := hi
    rcases (show i = 0 ∨ i = 1 ∨ i = 2 by omega) with rfl | rfl | rfl
    · exact h0
    · exact h1
    · exact h2
theorem spl_2 (B : Nat → Nat) (s e : Nat) : spl B s e 2 ↔ e - s = 4 ∧ B (s + 0) = 115 ∧ B (s + 1) = 105 ∧ B (s + 2) = 100 ∧ B (s + 3) = 101 := by
  constructor
  · intro h
    exact ⟨h.1, h.2 0 (by decide), h.2 1 (by decide), h.2 2 (by decide), h.2 3 (by decide)⟩
  · rintro ⟨h, h0, h1, h2, h3⟩
    refine ⟨h, fun i hi => ?_⟩
    have hi' : i < 4 := hi
    rcases (show i = 0 ∨ i = 1 ∨ i = 2 ∨ i = 3 by omega) with rfl | rfl | rfl | rfl
    · exact h0
    · exact h1
    · exact h2
    · exact h3
theorem spl_3 (B : Nat → Nat) (s e : Nat) : spl B s e 3 ↔ e - s = 6 ∧ B (s + 0) = 115 ∧ B (s + 1) = 104 ∧ B (s + 2) = 105 ∧ B (s + 3) = 101 ∧ B (s + 4) = 108 ∧ B (s + 5) = 100 := by
  constructor
  · intro h
    exact ⟨h.1, h.2 0 (by decide), h.2 1 (by decide), h.2 2 (by decide), h.2 3 (by decide), h.2 4 (by decide), h.2 5 (by decide)⟩
  · rintro ⟨h, h0, h1, h2, h3, h4, h5⟩
    refine ⟨h, fun i hi => ?_⟩
    have hi' : i < 6 := hi
    rcases (show i = 0 ∨ i = 1 ∨ i = 2 ∨ i = 3 ∨ i = 4 ∨ i = 5 by omega) with rfl | rfl | rfl | rfl | rfl | rfl
    · exact h0
    · exact h1
    · exact h2
    · exact h3
    · exact h4
    · exact h5
theorem spl_4 (B : Nat → Nat) (s e : Nat) : spl B s e 4 ↔ e - s = 4 ∧ B (s + 0) = 115 ∧ B (s + 1) = 101 ∧ B (s + 2) = 110 ∧ B (s + 3) = 100 := by
  constructor
  · intro h
    exact ⟨h.1, h.2 0 (by decide), h.2 1 (by decide), h.2 2 (by decide), h.2 3 (by decide)⟩
  · rintro ⟨h, h0, h1, h2, h3⟩
    refine ⟨h, fun i hi => ?_⟩
    have hi' : i < 4 := hi
    rcases (show i = 0 ∨ i = 1 ∨ i = 2 ∨ i = 3 by omega) with rfl | rfl | rfl | rfl
    · exact h0
    · exact h1
    · exact h2
    · exact h3
theorem spl_5 (B : Nat → Nat) (s e : Nat) : spl B s e 5 ↔ e - s = 4 ∧ B (s + 0) = 115 ∧ B (s + 1) = 116 ∧ B (s + 2) = 101 ∧ B (s + 3) = 112 := by
  constructor
  · intro h
    exact ⟨h.1, h.2 0 (by decide), h.2 1 (by decide), h.2 2 (by decide), h.2 3 (by decide)⟩
  · rintro ⟨h, h0, h1, h2, h3⟩
    refine ⟨h, fun i hi => ?_⟩
    have hi' : i < 4 := hi
    rcases (show i = 0 ∨ i = 1 ∨ i = 2 ∨ i = 3 by omega) with rfl | rfl | rfl | rfl
    · exact h0
    · exact h1
    · exact h2
    · exact h3
def BM (M : St) (B : Nat → Nat) (t : Nat) : Prop := M.1 0 15 = nI t ∧ t ≤ 240 ∧ ∀ k, k < t → B k < 256 ∧ M.1 5 k = nI (B k)
def FrR (M M' : St) : Prop := (∀ a, a ≠ 0 → M'.1 a = M.1 a) ∧ ∀ k, (k < 16 ∨ 21 < k) → M'.1 0 k = M.1 0 k
theorem FrR.rf {S : St} : FrR S S := ⟨fun _ _ => rfl, fun _ _ => rfl⟩
theorem FrR.tr {S T U : St} (h : FrR S T) (g : FrR T U) : FrR S U := ⟨fun a ha => (g.1 a ha).trans (h.1 a ha), fun k hk => (g.2 k hk).trans (h.2 k hk)⟩
theorem FrR.sI {M : St} {k : Nat} {v : Int32} (h : 16 ≤ k ∧ k ≤ 21) : FrR M (sI M 0 k v) := ⟨fun a ha => sI_row _ _ _ _ _ ha, fun j hj => by rw [sI_at, if_neg (by omega)]⟩
theorem BM.fr {M M' : St} {B : Nat → Nat} {t : Nat} (h : BM M B t) (f : FrR M M') : BM M' B t := by
  unfold BM at *
  rw [f.2 15 (by omega), f.1 5 (by decide)]
  exact h
theorem look_p {F t p : Nat} {M : St} {B : Nat → Nat} (h : BM M B t) (hp : p ≤ 240) : M_look F M (nI p) = some (if p < t then nI (B p) else -1) := by
  have h1 := h.2.1
  unfold M_look
  rw [h.1]
  have lt := nI_ltI (a := p) (b := t) (by omega) (by omega)
  by_cases g : p < t
  · rw [if_pos (lt.mpr g), if_pos g, chk_n _ (by omega) (by decide), nI_clamp (by omega), (h.2.2 p g).2]
  · rw [if_neg (fun z => g (lt.mp z)), if_neg g]
theorem in_c {F v : Nat} {M : St} {a b : Int32} {lo hi : Nat} (hv : v < 256) (ha : a.toInt = lo) (hb : b.toInt = hi) : M_in F M (nI v).toInt64 a.toInt64 b.toInt64 = some (if lo ≤ v ∧ v ≤ hi then 1 else 0) := by
  rw [M_in_e, nI_toInt (by omega), ha, hb]
  congr 1
  by_cases g : lo ≤ v ∧ v ≤ hi
  · rw [if_pos g, if_pos (by omega)]
  · rw [if_neg g, if_neg (by omega)]
theorem k48 : (48 : Int64) = (48 : Int32).toInt64 := by decide
theorem k57 : (57 : Int64) = (57 : Int32).toInt64 := by decide
theorem k97 : (97 : Int64) = (97 : Int32).toInt64 := by decide
theorem k122 : (122 : Int64) = (122 : Int32).toInt64 := by decide
theorem in97 {F v : Nat} {M : St} (hv : v < 256) : M_in F M (nI v).toInt64 97 122 = some (if isLt v then 1 else 0) := by
  rw [k97, k122]
  exact in_c hv (by decide) (by decide)
theorem in48 {F v : Nat} {M : St} (hv : v < 256) : M_in F M (nI v).toInt64 48 57 = some (if isDg v then 1 else 0) := by
  rw [k48, k57]
  exact in_c hv (by decide) (by decide)
theorem in97m {F : Nat} {M : St} : M_in F M (-1 : Int32).toInt64 97 122 = some 0 := by
  rw [k97, k122, M_in_e]; rfl
theorem in48m {F : Nat} {M : St} : M_in F M (-1 : Int32).toInt64 48 57 = some 0 := by
  rw [k48, k57, M_in_e]; rfl
theorem skipM {t : Nat} {B : Nat → Nat} {k1 : St → Option St} : ∀ (k p f : Nat) (M : St), p + k = t → k < f → BM M B t → M.1 0 16 = nI p → ∃ M', M_next_L8 F9 k1 f M = k1 M' ∧ FrR M M' ∧ M'.1 0 16 = nI (rn B 32 32 k p) ∧ ∀ j, j ≠ 16 → M'.1 0 j = M.1 0 j
  | 0, p, f + 1, M, hp, hf, h, h16 => by
    have h1 := h.2.1
    refine ⟨M, ?_, FrR.rf, h16, fun _ _ => rfl⟩
    rw [M_next_L8, h16, look_p h (by omega), crd_s, if_neg (show ¬ p < t by omega), if_neg (by decide)]
  | k + 1, p, f + 1, M, hp, hf, h, h16 => by
    have h1 := h.2.1
    have bl := (h.2.2 p (by omega)).1
    have e32 : nI (B p) = 32 ↔ B p = 32 := nI_eq (b := 32) (by omega) (by omega)
    rw [M_next_L8, h16, look_p h (by omega), crd_s, if_pos (show p < t by omega), rn]
    by_cases g : B p = 32
    · obtain ⟨M', a1, a2, a3, a4⟩ := skipM (k1 := k1) k (p + 1) f (sI M 0 16 (nI (p + 1))) (by omega) (by omega) (h.fr (FrR.sI (by omega))) (by rw [sI_at, if_pos ⟨rfl, rfl⟩])
      rw [if_pos (e32.mpr g), if_pos (by omega), bnd_e, nI_1]
      exact ⟨M', a1, (FrR.sI (by omega)).tr a2, a3, fun j hj => by rw [a4 j hj, sI_at, if_neg (by omega)]⟩
    · rw [if_neg (fun z => g (e32.mp z)), if_neg (by omega)]
      exact ⟨M, rfl, FrR.rf, h16, fun _ _ => rfl⟩
theorem lettersM {t : Nat} {B : Nat → Nat} {k29 : St → Option St} : ∀ (k p f : Nat) (M : St), p + k = t → k < f → BM M B t → M.1 0 16 = nI p → ∃ M', M_next_L82 F9 k29 f M = k29 M' ∧ FrR M M' ∧ M'.1 0 16 = nI (rn B 97 122 k p) ∧ ∀ j, j ≠ 16 → M'.1 0 j = M.1 0 j
  | 0, p, f + 1, M, hp, hf, h, h16 => by
    have h1 := h.2.1
    refine ⟨M, ?_, FrR.rf, h16, fun _ _ => rfl⟩
    rw [M_next_L82, h16, look_p h (by omega), crd_s, if_neg (show ¬ p < t by omega), in97m, crd_s, if_pos rfl]
  | k + 1, p, f + 1, M, hp, hf, h, h16 => by
    have h1 := h.2.1
    have bl := (h.2.2 p (by omega)).1
    rw [M_next_L82, h16, look_p h (by omega), crd_s, if_pos (show p < t by omega), in97 bl, crd_s, i10, rn]
    by_cases g : isLt (B p)
    · obtain ⟨M', a1, a2, a3, a4⟩ := lettersM (k29 := k29) k (p + 1) f (sI M 0 16 (nI (p + 1))) (by omega) (by omega) (h.fr (FrR.sI (by omega))) (by rw [sI_at, if_pos ⟨rfl, rfl⟩])
      rw [if_pos g, if_pos g, bnd_e, nI_1]
      exact ⟨M', a1, (FrR.sI (by omega)).tr a2, a3, fun j hj => by rw [a4 j hj, sI_at, if_neg (by omega)]⟩
    · rw [if_neg g, if_neg g]
      exact ⟨M, rfl, FrR.rf, h16, fun _ _ => rfl⟩
theorem digitsM {t s : Nat} {B : Nat → Nat} {k15 : St → Option St} : ∀ (k i f : Nat) (M : St), s + i + k = t → k < f → BM M B t → M.1 0 16 = nI (s + i) → M.1 0 17 = nI s → (i ≤ 3 → M.1 0 19 = nI (dvF B s i)) → ∃ M', M_next_L170 F9 k15 f M = k15 M' ∧ FrR M M' ∧ M'.1 0 16 = nI (rn B 48 57 k (s + i)) ∧ (rn B 48 57 k (s + i) - s ≤ 3 → M'.1 0 19 = nI (dvF B s (rn B 48 57 k (s + i) - s))) ∧ ∀ j, j ≠ 16 → j ≠ 19 → M'.1 0 j = M.1 0 j
  | 0, i, f + 1, M, hp, hf, h, h16, h17, h19 => by
    have h1 := h.2.1
    refine ⟨M, ?_, FrR.rf, h16, fun z => ?_, fun _ _ _ => rfl⟩
    · rw [M_next_L170, h16, look_p h (by omega), crd_s, if_neg (show ¬ s + i < t by omega), in48m, crd_s, if_pos rfl]
    · rw [rn] at z ⊢
      rw [show s + i - s = i by omega] at z ⊢
      exact h19 z
  | k + 1, i, f + 1, M, hp, hf, h, h16, h17, h19 => by
    have h1 := h.2.1
    have bl := (h.2.2 (s + i) (by omega)).1
    rw [M_next_L170, h16, look_p h (by omega), crd_s, if_pos (show s + i < t by omega), in48 bl, crd_s, i10, rn]
    by_cases g : isDg (B (s + i))
    · rw [if_pos g, if_pos g, h17, jn_e, show nI (s + i) - nI s = nI i by rw [pk_sub (Nat.le_add_right s i), Nat.add_sub_cancel_left]]
      have lt3 : nI i < 3 ↔ i < 3 := nI_ltI (b := 3) (by omega) (by omega)
      have go : ∀ v : Int32, (i + 1 ≤ 3 → v = nI (dvF B s (i + 1))) → ∃ M', (bnd (sI M 0 19 v) fun S25 => bnd (sI S25 0 16 ((S25.1 0 16) + 1)) fun S26 => M_next_L170 F9 k15 f S26) = k15 M' ∧ FrR M M' ∧ M'.1 0 16 = nI (rn B 48 57 k (s + i + 1)) ∧ (rn B 48 57 k (s + i + 1) - s ≤ 3 → M'.1 0 19 = nI (dvF B s (rn B 48 57 k (s + i + 1) - s))) ∧ ∀ j, j ≠ 16 → j ≠ 19 → M'.1 0 j = M.1 0 j := by
        intro v hv
        have fr : FrR M (sI (sI M 0 19 v) 0 16 (nI (s + i + 1))) := (FrR.sI (by omega)).tr (FrR.sI (by omega))
        obtain ⟨M', a1, a2, a3, a4, a5⟩ := digitsM (t := t) (s := s) (k15 := k15) k (i + 1) f (sI (sI M 0 19 v) 0 16 (nI (s + i + 1))) (by omega) (by omega) (h.fr fr) (by rw [sI_at, if_pos ⟨rfl, rfl⟩]; rfl) (by rw [sI_at, if_neg (by decide), sI_at, if_neg (by decide), h17]) (fun z => by rw [sI_at, if_neg (by decide), sI_at, if_pos ⟨rfl, rfl⟩]; exact hv z)
        refine ⟨M', ?_, fr.tr a2, a3, a4, fun j j1 j2 => by rw [a5 j j1 j2, sI_at, if_neg (by omega), sI_at, if_neg (by omega)]⟩
        rw [bnd_e, bnd_e, show (sI M 0 19 v).1 0 16 = nI (s + i) by rw [sI_at, if_neg (by decide), h16], nI_1]
        exact a1
      by_cases g3 : i < 3
      · rw [if_pos (lt3.mpr g3), crd_s, h19 (by omega)]
        refine go _ fun _ => ?_
        have gd := g
        rw [show (10 : Int32) = nI 10 from rfl, pk_mul, nI_add, show (48 : Int32) = nI 48 from rfl, pk_sub (by omega), dvF]
        congr 1
        omega
      · rw [if_neg (fun z => g3 (lt3.mp z))]
        exact go _ fun z => by omega
    · rw [if_neg g, if_neg g]
      refine ⟨M, rfl, FrR.rf, h16, fun z => ?_, fun _ _ _ => rfl⟩
      rw [show s + i - s = i by omega] at z ⊢
      exact h19 z
theorem is_e {t s e n a b c d : Nat} {M : St} {B : Nat → Nat} (h : BM M B t) (hs : s ≤ e) (he : e ≤ t) (h16 : M.1 0 16 = nI e) (h17 : M.1 0 17 = nI s) (n3 : 3 ≤ n) (n9 : n ≤ 9) (ha : a < 256) (hb : b < 256) (hc : c < 256) (hd : d < 256) : M_is F9 M (nI n) (nI a) (nI b) (nI c) (nI d) = some (if e - s = n ∧ B (s + 0) = a ∧ B (s + 1) = b ∧ B (s + 2) = c ∧ (n < 4 ∨ B (s + 3) = d) then 1 else 0) := by
  have h1 := h.2.1
  unfold M_is
  rw [jn_e, h16, h17, pk_sub hs]
  have eq := nI_eq (a := e - s) (b := n) (by omega) (by omega)
  by_cases g : e - s = n
  · have bl := fun i (hi : s + i < t) => (h.2.2 (s + i) hi).1
    have lk : ∀ i, i < n → M_look F9 M (nI (s + i)) = some (nI (B (s + i))) := fun i hi => by rw [look_p h (by omega), if_pos (by omega)]
    have l0 := lk 0 (by omega)
    rw [Nat.add_zero] at l0
    rw [if_pos (eq.mpr g), l0, crd_s, nI_1, lk 1 (by omega), show nI s + 2 = nI (s + 2) from nI_add s 2, lk 2 (by omega)]
    simp only [crd_s, jn_e]
    have b0 := bl 0 (by omega)
    rw [Nat.add_zero] at b0
    have ea := nI_eq (a := B s) (b := a) (by omega) (by omega)
    have b1 := bl 1 (by omega)
    have b2 := bl 2 (by omega)
    have eb := nI_eq (a := B (s + 1)) (b := b) (by omega) (by omega)
    have ec := nI_eq (a := B (s + 2)) (b := c) (by omega) (by omega)
    by_cases ga : B s = a
    · rw [if_pos (ea.mpr ga)]
      by_cases gb : B (s + 1) = b
      · rw [if_pos (eb.mpr gb)]
        by_cases gc : B (s + 2) = c
        · rw [if_pos (ec.mpr gc)]
          have l4 : nI n < 4 ↔ n < 4 := nI_ltI (b := 4) (by omega) (by omega)
          by_cases g4 : n < 4
          · rw [if_pos (l4.mpr g4), if_pos ⟨g, ga, gb, gc, Or.inl g4⟩]
          · have b3 := bl 3 (by omega)
            have ed := nI_eq (a := B (s + 3)) (b := d) (by omega) (by omega)
            rw [if_neg (fun z => g4 (l4.mp z)), show nI s + 3 = nI (s + 3) from nI_add s 3, lk 3 (by omega), crd_s]
            by_cases gd : B (s + 3) = d
            · rw [if_pos (ed.mpr gd), if_pos ⟨g, ga, gb, gc, Or.inr gd⟩]
            · rw [if_neg (fun z => gd (ed.mp z)), if_neg (fun z => z.2.2.2.2.elim g4 gd)]
        · rw [if_neg (fun z => gc (ec.mp z)), if_neg (fun z => gc z.2.2.2.1)]
      · rw [if_neg (fun z => gb (eb.mp z)), if_neg (fun z => gb z.2.2.1)]
    · rw [if_neg (fun z => ga (ea.mp z)), if_neg (fun z => ga z.2.1)]
  · rw [if_neg (fun z => g (eq.mp z)), if_neg (fun z => g z.1)]
theorem nameNow_e {t s e : Nat} {M : St} {B : Nat → Nat} (h : BM M B t) (hs : s ≤ e) (he : e ≤ t) (h16 : M.1 0 16 = nI e) (h17 : M.1 0 17 = nI s) : M_nameNow F9 M = some (if nmF B s e = 0 then -4 else nI (nmF B s e - 1)) := by
  have h1 := h.2.1
  have is := fun n a b c d => is_e (n := n) (a := a) (b := b) (c := c) (d := d) h hs he h16 h17
  have lk4 : ∀ i, i < e - s → M_look F9 M (nI s + nI i) = some (nI (B (s + i))) := fun i hi => by rw [nI_add, look_p h (by omega), if_pos (by omega)]
  have bl := fun i (hi : i < e - s) => (h.2.2 (s + i) (by omega)).1
  have i0 : M_is F9 M 5 119 105 114 101 = _ := is 5 119 105 114 101 (by decide) (by decide) (by decide) (by decide) (by decide) (by decide)
  have i1 : M_is F9 M 3 111 119 110 0 = _ := is 3 111 119 110 0 (by decide) (by decide) (by decide) (by decide) (by decide) (by decide)
  have i2 : M_is F9 M 4 115 105 100 101 = _ := is 4 115 105 100 101 (by decide) (by decide) (by decide) (by decide) (by decide) (by decide)
  have i3 : M_is F9 M 6 115 104 105 101 = _ := is 6 115 104 105 101 (by decide) (by decide) (by decide) (by decide) (by decide) (by decide)
  have i4 : M_is F9 M 4 115 101 110 100 = _ := is 4 115 101 110 100 (by decide) (by decide) (by decide) (by decide) (by decide) (by decide)
  have i5 : M_is F9 M 4 115 116 101 112 = _ := is 4 115 116 101 112 (by decide) (by decide) (by decide) (by decide) (by decide) (by decide)
  unfold M_nameNow nmF
  rw [i0, i1, i2, i3, i4, i5, h17]
  simp only [crd_s, jn_e, i10, spl_0, spl_1, spl_2, spl_3, spl_4, spl_5]
  generalize hL : e - s = L at *
  have l4 : 4 < L → M_look F9 M (nI s + 4) = some (nI (B (s + 4))) := fun z => lk4 4 z
  have l5 : 5 < L → M_look F9 M (nI s + 5) = some (nI (B (s + 5))) := fun z => lk4 5 z
  have e4 : ∀ c : Nat, c < 256 → 4 < L → (nI (B (s + 4)) = nI c ↔ B (s + 4) = c) := fun c hc z => nI_eq (by have := bl 4 z; omega) (by omega)
  have e5 : ∀ c : Nat, c < 256 → 5 < L → (nI (B (s + 5)) = nI c ↔ B (s + 5) = c) := fun c hc z => nI_eq (by have := bl 5 z; omega) (by omega)
  have n0 : nI 0 = 0 := rfl
  have n1 : nI 1 = 1 := rfl
  have n2 : nI 2 = 2 := rfl
  have n3 : nI 3 = 3 := rfl
  have n4 : nI 4 = 4 := rfl
  have n5 : nI 5 = 5 := rfl
  clear i0 i1 i2 i3 i4 i5 is lk4 bl
  by_cases h5 : L = 5
  · subst h5
    have l := l4 (by omega)
    have ee : nI (B (s + 4)) = (115 : Int32) ↔ B (s + 4) = 115 := e4 115 (by decide) (by omega)
    have e2 : nI (B (s + 4)) = (108 : Int32) ↔ B (s + 4) = 108 := e4 108 (by decide) (by omega)
    clear l4 l5 e4 e5
    simp only [l, crd_s, ee, e2, show ¬ (5 : Nat) = 3 by decide, show ¬ (5 : Nat) = 4 by decide, show ¬ (5 : Nat) = 6 by decide, false_and, if_false, true_and]
    grind
  by_cases h6 : L = 6
  · subst h6
    have l := l4 (by omega)
    have l' := l5 (by omega)
    have e2 : nI (B (s + 4)) = (108 : Int32) ↔ B (s + 4) = 108 := e4 108 (by decide) (by omega)
    have e3 : nI (B (s + 5)) = (100 : Int32) ↔ B (s + 5) = 100 := e5 100 (by decide) (by omega)
    clear l4 l5 e4 e5
    simp only [l, l', crd_s, e2, e3, show ¬ (6 : Nat) = 3 by decide, show ¬ (6 : Nat) = 4 by decide, show ¬ (6 : Nat) = 5 by decide, false_and, if_false, true_and]
    grind
  · clear l4 l5 e4 e5
    simp only [h5, h6, false_and, if_false]
    grind
theorem wants_1 {F : Nat} {M : St} {c : Int32} : M_wants F M 1 c = some M := by unfold M_wants; rw [if_neg (by decide)]
theorem wants_f {F : Nat} {M : St} {x c : Int32} (h : ¬ M.1 0 20 = 0) : M_wants F M x c = some M := by
  unfold M_wants
  by_cases g : x = 0
  · rw [if_pos g, if_neg h]
  · rw [if_neg g]
theorem wants_0 {F : Nat} {M : St} {c : Int32} (h : M.1 0 20 = 0) : M_wants F M 0 c = some (sI (sI M 0 20 c) 0 21 (M.1 0 17)) := by
  unfold M_wants
  rw [if_pos rfl, if_pos h, bnd_e, bnd_e, sI_at, if_neg (by decide)]
/-- the reference's token -/
def TokM (M : St) (B : Nat → Nat) (t p : Nat) : Prop := M.1 0 17 = nI (tkS B t p) ∧ ((tkK B t p = 4 ∧ M.1 0 20 = 1 ∧ M.1 0 21 = nI (tkS B t p)) ∨ (tkK B t p ≠ 4 ∧ M.1 0 20 = 0 ∧ M.1 0 18 = nI (tkK B t p) ∧ (tkK B t p = 1 → M.1 0 19 = nI (tkV B t p - 1)) ∧ (tkK B t p = 2 → M.1 0 19 = nI (tkV B t p)) ∧ M.1 0 16 = nI (tkE B t p)))
theorem M_next_e {t p : Nat} {M : St} {B : Nat → Nat} (h : BM M B t) (hp : p ≤ t) (h20 : M.1 0 20 = 0) (h16 : M.1 0 16 = nI p) : ∃ M', M_next F9 M = some M' ∧ FrR M M' ∧ TokM M' B t p := by
  have h1 := h.2.1
  have hs := tkS_x B hp
  have hE := tkE_x B hp
  unfold M_next
  rw [h20, if_neg (show ¬ (0 : Int32) < 0 by decide)]
  obtain ⟨M1, a1, a2, a3, a4⟩ := skipM (t := t) (B := B) (k1 := fun S2 => bnd (sI S2 0 17 (S2.1 0 16)) fun S3 => crd (M_look F9 S3 (S3.1 0 16)) fun v4 => (if v4 < 0 then bnd (sI S3 0 18 0) fun S5 => some S5 else crd (M_in F9 S3 (Int32.toInt64 v4) 97 122) fun v6 => (if v6 = 0 then crd (M_in F9 S3 (Int32.toInt64 v4) 48 57) fun v7 => (if v7 = 0 then bnd (sI S3 0 18 3) fun S8 => jn (fun (v9 : Int32) => cav (M_wants F9 S8 v9 1) fun S11 => bnd (sI S11 0 16 ((S11.1 0 16) + 1)) fun S12 => some S12) fun (J10 : Int32 → Option St) => (if v4 = 59 then J10 1 else J10 0) else bnd (sI S3 0 18 2) fun S13 => bnd (sI S13 0 19 0) fun S14 => M_next_L170 F9 (fun S16 => jn (fun (v17 : Int32) => cav (M_wants F9 S16 v17 1) fun S19 => some S19) fun (J18 : Int32 → Option St) => (if 3 < ((S16.1 0 16) - (S16.1 0 17)) then J18 0 else J18 1)) F9 S14) else bnd (sI S3 0 18 1) fun S28 => M_next_L82 F9 (fun S30 => crd (M_nameNow F9 S30) fun v31 => bnd (sI S30 0 19 v31) fun S32 => jn (fun (v33 : Int32) => cav (M_wants F9 S32 v33 1) fun S35 => some S35) fun (J34 : Int32 → Option St) => (if (S32.1 0 19) = (-4) then J34 0 else J34 1)) F9 S28))) (t - p) p F9 M (by omega) (by unfold F9; omega) h h16
  rw [a1, a3, show rn B 32 32 (t - p) p = tkS B t p from rfl, bnd_e]
  generalize es : tkS B t p = s at *
  generalize hS3 : sI M1 0 17 (nI s) = M3
  have f3 : FrR M M3 := by rw [← hS3]; exact a2.tr (FrR.sI (by omega))
  have q17 : M3.1 0 17 = nI s := by rw [← hS3, sI_at, if_pos ⟨rfl, rfl⟩]
  have q16 : M3.1 0 16 = nI s := by rw [← hS3, sI_at, if_neg (by decide), a3]; rw [show rn B 32 32 (t - p) p = tkS B t p from rfl, es]
  have q20 : M3.1 0 20 = 0 := by rw [← hS3, sI_at, if_neg (by decide), a4 20 (by decide), h20]
  have b3 := h.fr f3
  rw [q16, look_p b3 (by omega), crd_s]
  unfold TokM
  rw [es]
  by_cases g : s < t
  · have bl := (h.2.2 s g).1
    rw [if_pos g, if_neg (nI_pos (by omega)), in97 bl, in48 bl, crd_s, i10]
    have eE : tkE B t p = if isLt (B s) then rn B 97 122 (t - s) s else if isDg (B s) then rn B 48 57 (t - s) s else s + 1 := by
      unfold tkE; rw [es, if_pos g]
    by_cases gl : isLt (B s)
    · rw [if_pos gl] at eE
      have eK : tkK B t p = if nmF B s (tkE B t p) = 0 then 4 else 1 := by
        unfold tkK; rw [es, if_pos g, if_pos gl]
      have eV : tkV B t p = nmF B s (tkE B t p) := by
        unfold tkV; rw [es, if_pos gl]
      rw [if_pos gl, bnd_e]
      have f4 : FrR M3 (sI M3 0 18 1) := FrR.sI (by omega)
      obtain ⟨M5, c1, c2, c3, c4⟩ := lettersM (t := t) (B := B) (k29 := fun S30 => crd (M_nameNow F9 S30) fun v31 => bnd (sI S30 0 19 v31) fun S32 => jn (fun (v33 : Int32) => cav (M_wants F9 S32 v33 1) fun S35 => some S35) fun (J34 : Int32 → Option St) => (if (S32.1 0 19) = (-4) then J34 0 else J34 1)) (t - s) s F9 (sI M3 0 18 1) (by omega) (by unfold F9; omega) (b3.fr f4) (by rw [sI_at, if_neg (by decide), q16])
      rw [← eE] at c3
      have b5 := (b3.fr f4).fr c2
      have r17 : M5.1 0 17 = nI s := by rw [c4 17 (by decide), sI_at, if_neg (by decide), q17]
      rw [c1, nameNow_e b5 hE.1 hE.2.1 c3 r17, crd_s, bnd_e]
      simp only [jn_e]
      have r20 : M5.1 0 20 = 0 := by rw [c4 20 (by decide), sI_at, if_neg (by decide), q20]
      have nle := nmF_le B s (tkE B t p)
      have f5 : FrR M M5 := (f3.tr f4).tr c2
      by_cases g0 : nmF B s (tkE B t p) = 0
      · rw [if_pos g0] at eK ⊢
        rw [show (sI M5 0 19 (-4)).1 0 19 = -4 by rw [sI_at, if_pos ⟨rfl, rfl⟩], if_pos rfl, wants_0 (by rw [sI_at, if_neg (by decide), r20]), cav_s]
        refine ⟨_, rfl, ((f5.tr (FrR.sI (by omega))).tr (FrR.sI (by omega))).tr (FrR.sI (by omega)), ?_, Or.inl ⟨eK, ?_, ?_⟩⟩
        · rw [sI_at, if_neg (by decide), sI_at, if_neg (by decide), sI_at, if_neg (by decide), r17]
        · rw [sI_at, if_neg (by decide), sI_at, if_pos ⟨rfl, rfl⟩]
        · rw [sI_at, if_pos ⟨rfl, rfl⟩, sI_at, if_neg (by decide), r17]
      · rw [if_neg g0] at eK ⊢
        have n4 : ¬ nI (nmF B s (tkE B t p) - 1) = -4 := fun z => by
          have := congrArg Int32.toInt z
          rw [nI_toInt (by omega), show (-4 : Int32).toInt = -4 by decide] at this
          omega
        rw [show (sI M5 0 19 (nI (nmF B s (tkE B t p) - 1))).1 0 19 = nI (nmF B s (tkE B t p) - 1) by rw [sI_at, if_pos ⟨rfl, rfl⟩], if_neg n4, wants_1, cav_s]
        refine ⟨_, rfl, f5.tr (FrR.sI (by omega)), ?_, Or.inr ⟨by omega, ?_, ?_, fun _ => ?_, fun z => by omega, ?_⟩⟩
        · rw [sI_at, if_neg (by decide), r17]
        · rw [sI_at, if_neg (by decide), r20]
        · rw [sI_at, if_neg (by decide), c4 18 (by decide), sI_at, if_pos ⟨rfl, rfl⟩, eK]; rfl
        · rw [sI_at, if_pos ⟨rfl, rfl⟩, eV]
        · rw [sI_at, if_neg (by decide), c3]
    · rw [if_neg gl] at eE
      rw [if_neg gl, crd_s, i10]
      by_cases gd : isDg (B s)
      · rw [if_pos gd] at eE
        have eK : tkK B t p = if 3 < tkE B t p - s then 4 else 2 := by
          unfold tkK; rw [es, if_pos g, if_neg gl, if_pos gd]
        have eV : tkV B t p = dvF B s (tkE B t p - s) := by
          unfold tkV; rw [es, if_neg gl]
        rw [if_pos gd, bnd_e, bnd_e]
        have f4 : FrR M3 (sI (sI M3 0 18 2) 0 19 0) := (FrR.sI (by omega)).tr (FrR.sI (by omega))
        obtain ⟨M5, c1, c2, c3, c5, c4⟩ := digitsM (t := t) (s := s) (B := B) (k15 := fun S16 => jn (fun (v17 : Int32) => cav (M_wants F9 S16 v17 1) fun S19 => some S19) fun (J18 : Int32 → Option St) => (if 3 < ((S16.1 0 16) - (S16.1 0 17)) then J18 0 else J18 1)) (t - s) 0 F9 (sI (sI M3 0 18 2) 0 19 0) (by omega) (by unfold F9; omega) (b3.fr f4) (by rw [sI_at, if_neg (by decide), sI_at, if_neg (by decide), q16]; rfl) (by rw [sI_at, if_neg (by decide), sI_at, if_neg (by decide), q17]) (fun _ => by rw [sI_at, if_pos ⟨rfl, rfl⟩]; rfl)
        rw [Nat.add_zero, ← eE] at c3 c5
        have r17 : M5.1 0 17 = nI s := by rw [c4 17 (by decide) (by decide), sI_at, if_neg (by decide), sI_at, if_neg (by decide), q17]
        have r20 : M5.1 0 20 = 0 := by rw [c4 20 (by decide) (by decide), sI_at, if_neg (by decide), sI_at, if_neg (by decide), q20]
        have f5 : FrR M M5 := (f3.tr f4).tr c2
        rw [c1]
        simp only [jn_e]
        rw [c3, r17, pk_sub hE.1]
        have lt3 : (3 : Int32) < nI (tkE B t p - s) ↔ 3 < tkE B t p - s := nI_ltI (a := 3) (by omega) (by omega)
        by_cases g3 : 3 < tkE B t p - s
        · rw [if_pos (lt3.mpr g3), wants_0 r20, cav_s]
          rw [if_pos g3] at eK
          refine ⟨_, rfl, (f5.tr (FrR.sI (by omega))).tr (FrR.sI (by omega)), ?_, Or.inl ⟨eK, ?_, ?_⟩⟩
          · rw [sI_at, if_neg (by decide), sI_at, if_neg (by decide), r17]
          · rw [sI_at, if_neg (by decide), sI_at, if_pos ⟨rfl, rfl⟩]
          · rw [sI_at, if_pos ⟨rfl, rfl⟩, r17]
        · rw [if_neg (fun z => g3 (lt3.mp z)), wants_1, cav_s]
          rw [if_neg g3] at eK
          refine ⟨_, rfl, f5, r17, Or.inr ⟨by omega, r20, ?_, fun z => by omega, fun _ => ?_, c3⟩⟩
          · rw [c4 18 (by decide) (by decide), sI_at, if_neg (by decide), sI_at, if_pos ⟨rfl, rfl⟩, eK]; rfl
          · rw [c5 (by omega), eV]
      · rw [if_neg gd] at eE
        have eK : tkK B t p = if B s = 59 then 3 else 4 := by
          unfold tkK; rw [es, if_pos g, if_neg gl, if_neg gd]
        rw [if_neg gd]
        simp only [jn_e, bnd_e]
        have e59 : nI (B s) = 59 ↔ B s = 59 := nI_eq (b := 59) (by omega) (by omega)
        have f4 : FrR M (sI M3 0 18 3) := f3.tr (FrR.sI (by omega))
        have r16 : (sI M3 0 18 3).1 0 16 = nI s := by rw [sI_at, if_neg (by decide), q16]
        by_cases g5 : B s = 59
        · rw [if_pos (e59.mpr g5), wants_1, cav_s, r16, nI_1]
          rw [if_pos g5] at eK
          refine ⟨_, rfl, f4.tr (FrR.sI (by omega)), ?_, Or.inr ⟨by omega, ?_, ?_, fun z => by omega, fun z => by omega, ?_⟩⟩
          · rw [sI_at, if_neg (by decide), sI_at, if_neg (by decide), q17]
          · rw [sI_at, if_neg (by decide), sI_at, if_neg (by decide), q20]
          · rw [sI_at, if_neg (by decide), sI_at, if_pos ⟨rfl, rfl⟩, eK]; rfl
          · rw [sI_at, if_pos ⟨rfl, rfl⟩, eE]
        · rw [if_neg (fun z => g5 (e59.mp z)), wants_0 (by rw [sI_at, if_neg (by decide), q20]), cav_s]
          rw [if_neg g5] at eK
          refine ⟨_, rfl, ((f4.tr (FrR.sI (by omega))).tr (FrR.sI (by omega))).tr (FrR.sI (by omega)), ?_, Or.inl ⟨eK, ?_, ?_⟩⟩
          · rw [sI_at, if_neg (by decide), sI_at, if_neg (by decide), sI_at, if_neg (by decide), sI_at, if_neg (by decide), q17]
          · rw [sI_at, if_neg (by decide), sI_at, if_neg (by decide), sI_at, if_pos ⟨rfl, rfl⟩]
          · rw [sI_at, if_neg (by decide), sI_at, if_pos ⟨rfl, rfl⟩, sI_at, if_neg (by decide), q17]
  · rw [if_neg g, if_pos (by decide), bnd_e]
    have eK : tkK B t p = 0 := by unfold tkK; rw [es, if_neg g]
    have eE : tkE B t p = t := by unfold tkE; rw [es, if_neg g]
    refine ⟨_, rfl, f3.tr (FrR.sI (by omega)), ?_, Or.inr ⟨by omega, ?_, ?_, fun z => by omega, fun z => by omega, ?_⟩⟩
    · rw [sI_at, if_neg (by decide), q17]
    · rw [sI_at, if_neg (by decide), q20]
    · rw [sI_at, if_pos ⟨rfl, rfl⟩, eK]; rfl
    · rw [sI_at, if_neg (by decide), q16, eE, show s = t by omega]
theorem M_next_f {M : St} (h : 0 < M.1 0 20) : M_next F9 M = some M := by
  unfold M_next
  rw [if_pos h]
