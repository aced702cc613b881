/-! B: A CHANGE WEIGHED, THE REFERENCE'S SIDE -/
def iz (z : Int) : Int32 := Int32.ofInt z
def Tri (z : Int) : Prop := z = -1 ∨ z = 0 ∨ z = 1
theorem iz_0 {z : Int} (h : Tri z) : iz z = 0 ↔ z = 0 := by
  rcases h with rfl | rfl | rfl <;> decide
theorem iz_sub {F : Nat} {S : St} {x y : Int} (hx : Tri x) (hy : Tri y) : M_plain F S (iz x - iz y) = some (nI (x - y).natAbs) := by
  unfold M_plain
  rcases hx with rfl | rfl | rfl <;> rcases hy with rfl | rfl | rfl <;> decide
theorem iz_add {F : Nat} {S : St} {x y : Int} (hx : Tri x) (hy : Tri y) : M_plain F S (iz x + iz y) = some (nI (x + y).natAbs) := by
  unfold M_plain
  rcases hx with rfl | rfl | rfl <;> rcases hy with rfl | rfl | rfl <;> decide
theorem iz_sq {x y : Int} (hx : Tri x) (hy : Tri y) : (iz x - iz y) * (iz x - iz y) = nI ((x - y) * (x - y)).natAbs := by
  rcases hx with rfl | rfl | rfl <;> rcases hy with rfl | rfl | rfl <;> decide
theorem iz_sg {x y : Int} (hx : Tri x) (hy : Tri y) : iz x * iz x + iz y * iz y = nI (x * x + y * y).natAbs := by
  rcases hx with rfl | rfl | rfl <;> rcases hy with rfl | rfl | rfl <;> decide
theorem iz_bit : ∀ a b : Bool, nI (if b = true then 1 else 0) - nI (if a = true then 1 else 0) = iz (mv4 a b) := by decide
/-- what the moves of a change leave -/
def MoV (M : St) (c g : Nat) (d : Nat → Int) : Prop := M.1 0 24 = nI c ∧ M.1 0 25 = nI g ∧ 1 ≤ c ∧ c ≤ 9 ∧ g < 2 ^ 31 ∧ ∀ p, p < c → M.1 7 p = iz (d p) ∧ Tri (d p)
theorem MoV.t {M : St} {c g : Nat} {d : Nat → Int} (h : MoV M c g d) {p : Nat} (hp : p < c) : Tri (d p) := (h.2.2.2.2.2 p hp).2
theorem MoV.v {M : St} {c g : Nat} {d : Nat → Int} (h : MoV M c g d) {p : Nat} (hp : p < c) : M.1 7 p = iz (d p) := (h.2.2.2.2.2 p hp).1
theorem M_isGuarded_e {F c g q : Nat} {M : St} {d : Nat → Int} (h : MoV M c g d) (hq : q < 32) : M_isGuarded F M (nI q) = some (if g.testBit q = true then 1 else 0) := by
  obtain ⟨h1, h2, h3, h4, h5, h6⟩ := h
  unfold M_isGuarded
  rw [h2, jbit_n h5 hq]
  by_cases e : g.testBit q = true
  · rw [if_pos e, if_pos e, if_pos (show nI 1 = 1 from rfl)]
  · rw [if_neg e, if_neg e, if_neg (by decide)]
theorem mvD_loop {F c g : Nat} {M : St} {d : Nat → Int} (h : MoV M c g d) : ∀ (k i f : Nat), i + k = c → k < f → M_movedNow_L4 F M f (nI (mvD i d)) (nI i) = some (nI (mvD c d))
  | 0, i, f + 1, hi, hf => by
    have hc := h.2.2.2.1
    rw [M_movedNow_L4, h.1, if_neg (by rw [nI_ltI (by omega) (by omega)]; omega), show i = c by omega]
  | k + 1, i, f + 1, hi, hf => by
    have hc := h.2.2.2.1
    have ih := mvD_loop (F := F) h k (i + 1) f (by omega) (by omega)
    have e : mvD (i + 1) d = mvD i d + if decide (d i ≠ 0) = true then 1 else 0 := rfl
    rw [M_movedNow_L4, h.1, if_pos (by rw [nI_ltI (by omega) (by omega)]; omega), chk_n _ (by omega) (by omega), jn_e, nI_clamp (by omega), h.v (by omega)]
    simp only [bnd_e, nI_1]
    have z := iz_0 (h.t (p := i) (by omega))
    by_cases g0 : d i = 0
    · rw [if_pos (z.mpr g0), show nI (mvD i d) + 0 = nI (mvD (i + 1) d) by rw [e, decide_eq_false (fun q => q g0)]; exact nI_add _ 0]
      exact ih
    · rw [e, decide_eq_true g0, if_pos rfl] at ih
      rw [if_neg (fun q => g0 (z.mp q))]
      exact ih
theorem M_movedNow_e {F c g : Nat} {M : St} {d : Nat → Int} (hF : 20 ≤ F) (h : MoV M c g d) : M_movedNow F M = some (nI (mvD c d)) := by
  have hc := h.2.2.2.1
  unfold M_movedNow
  exact mvD_loop h c 0 F (by omega) (by omega)
theorem ctD_loop {F c g : Nat} {M : St} {d : Nat → Int} {k1 : Int32 → Option Int32} (h : MoV M c g d) : ∀ (k i f : Nat), i + k = c - 1 → k < f → M_costNow_L4 F M k1 f (nI (fb_sm (ctD g d) i)) (nI i) = k1 (nI (fb_sm (ctD g d) (c - 1)))
  | 0, i, f + 1, hi, hf => by
    have hc := h.2.2.2.1
    have hc1 := h.2.2.1
    have e1 : nI c - 1 = nI (c - 1) := pk_sub (a := c) (b := 1) hc1
    rw [M_costNow_L4, h.1, e1, if_neg (by rw [nI_ltI (by omega) (by omega)]; omega), show i = c - 1 by omega]
  | k + 1, i, f + 1, hi, hf => by
    have hc := h.2.2.2.1
    have hc1 := h.2.2.1
    have e1 : nI c - 1 = nI (c - 1) := pk_sub (a := c) (b := 1) hc1
    have ih := ctD_loop (F := F) (k1 := k1) h k (i + 1) f (by omega) (by omega)
    rw [fb_sm_succ] at ih
    have t0 := h.t (p := i) (by omega)
    have t1 := h.t (p := i + 1) (by omega)
    rw [M_costNow_L4, h.1, e1, if_pos (by rw [nI_ltI (by omega) (by omega)]; omega)]
    simp only [nI_1]
    simp only [chk_n _ (show i < 9 by omega) (show 9 < 2 ^ 31 by decide), chk_n _ (show i + 1 < 9 by omega) (show 9 < 2 ^ 31 by decide), nI_clamp (show i < 2 ^ 31 by omega), nI_clamp (show i + 1 < 2 ^ 31 by omega), h.v (show i < c by omega), h.v (show i + 1 < c by omega), bnd_e, jn_e, M_isGuarded_e h (show i < 32 by omega), crd_s, iz_sq t0 t1, iz_sg t0 t1, nI_add]
    rw [ctD] at ih
    by_cases e : g.testBit i = true
    · rw [if_pos e] at ih ⊢
      rw [if_neg (by decide)]
      exact ih
    · rw [if_neg e] at ih ⊢
      rw [if_pos rfl]
      exact ih
theorem M_costNow_e {F c g o s : Nat} {M : St} {d : Nat → Int} (hF : 20 ≤ F) (h : MoV M c g d) (ho : M.1 0 1 = nI o) (hs : M.1 0 2 = nI s) : M_costNow F M = some (nI (coD c g o s d)) := by
  have hc := h.2.2.2.1
  unfold M_costNow
  have e := ctD_loop (F := F) (k1 := fun v2 => crd (M_movedNow F M) fun v3 => some (((M.1 0 1) * v3) + ((M.1 0 2) * v2))) h (c - 1) 0 F (by omega) (by omega)
  refine e.trans ?_
  rw [M_movedNow_e hF h, crd_s, ho, hs, pk_mul, pk_mul, nI_add]
  rfl
theorem sdD_le {g : Nat} {d : Nat → Int} {p : Nat} (h0 : Tri (d p)) (h1 : Tri (d (p + 1))) : sdD g d p ≤ 2 := by
  unfold sdD Tri at *
  split <;> omega
theorem slD_le {c g : Nat} {M : St} {d : Nat → Int} (h : MoV M c g d) {p : Nat} (hp : p < c) : slD c g d p ≤ 4 := by
  unfold slD
  by_cases e : d p = 0
  · rw [if_pos e]; omega
  · rw [if_neg e]
    have a1 : (if 0 < p then sdD g d (p - 1) else 0) ≤ 2 := by
      by_cases g1 : 0 < p
      · rw [if_pos g1]
        have := h.t (p := p - 1) (by omega)
        refine sdD_le this ?_
        rw [show p - 1 + 1 = p by omega]
        exact h.t hp
      · rw [if_neg g1]; omega
    have a2 : (if p + 1 < c then sdD g d p else 0) ≤ 2 := by
      by_cases g1 : p + 1 < c
      · rw [if_pos g1]
        exact sdD_le (h.t hp) (h.t g1)
      · rw [if_neg g1]; omega
    omega
theorem M_slowAt_e {F c g p : Nat} {M : St} {d : Nat → Int} (h : MoV M c g d) (hp : p < c) : M_slowAt F M (nI p) = some (nI (slD c g d p)) := by
  have hc := h.2.2.2.1
  have hc1 := h.2.2.1
  have e1 : nI c - 1 = nI (c - 1) := pk_sub (a := c) (b := 1) hc1
  have t0 := h.t hp
  have z := iz_0 t0
  unfold M_slowAt slD
  rw [chk_n _ (by omega) (by omega), nI_clamp (by omega), h.v hp, h.1, e1]
  by_cases g0 : d p = 0
  · rw [if_pos (z.mpr g0), if_pos g0]; rfl
  · rw [if_neg (fun q => g0 (z.mp q)), if_neg g0]
    simp only [jn_e, bnd_e, nI_1]
    have lt1 : nI p < nI (c - 1) ↔ p + 1 < c := by rw [nI_ltI (by omega) (by omega)]; omega
    have lt0 : 0 < nI p ↔ 0 < p := nI_ltI (a := 0) (by omega) (by omega)
    have right : ∀ v : Nat, (if nI p < nI (c - 1) then crd (M_isGuarded F M (nI p)) fun v3 => if v3 = 0 then chk (nI p) 9 (chk (nI (p + 1)) 9 (crd (M_plain F M (iz (d p) - M.1 7 (nI (p + 1)).toNatClampNeg)) fun v7 => some (nI v + v7))) else some (nI v + 1) else some (nI v)) = some (nI (v + if p + 1 < c then sdD g d p else 0)) := by
      intro v
      by_cases g1 : p + 1 < c
      · have t1 := h.t g1
        rw [if_pos (lt1.mpr g1), if_pos g1, M_isGuarded_e h (by omega), crd_s, sdD]
        by_cases g2 : g.testBit p = true
        · rw [if_pos g2, if_pos g2, if_neg (by decide)]
          rw [show (1 : Int32) = nI 1 from rfl, nI_add]
        · rw [if_neg g2, if_neg g2, if_pos rfl, chk_n _ (by omega) (by omega), chk_n _ (by omega) (by omega), nI_clamp (by omega), h.v g1, iz_sub t0 t1, crd_s, nI_add]
      · rw [if_neg (fun q => g1 (lt1.mp q)), if_neg g1, Nat.add_zero]
    by_cases g3 : 0 < p
    · have e2 : nI p - 1 = nI (p - 1) := pk_sub (a := p) (b := 1) g3
      have t1 := h.t (p := p - 1) (by omega)
      rw [if_pos (lt0.mpr g3), if_pos g3, e2, M_isGuarded_e h (by omega), crd_s, sdD]
      by_cases g2 : g.testBit (p - 1) = true
      · rw [if_pos g2, if_pos g2, if_neg (by decide), show (0 : Int32) + 1 = nI 1 by decide]
        exact right 1
      · rw [if_neg g2, if_neg g2, if_pos rfl, chk_n _ (by omega) (by omega), chk_n _ (by omega) (by omega), nI_clamp (by omega), h.v (by omega), iz_sub t0 t1, crd_s, show p - 1 + 1 = p by omega]
        rw [show (0 : Int32) = nI 0 from rfl, nI_add, Nat.zero_add, show (d (p - 1) - d p).natAbs = (d p - d (p - 1)).natAbs by omega]
        exact right _
    · rw [if_neg (fun q => g3 (lt0.mp q)), if_neg g3, show (0 : Int32) = nI 0 from rfl]
      exact right 0
theorem slD_loop {F c g : Nat} {M : St} {d : Nat → Int} (h : MoV M c g d) : ∀ (k i f : Nat), i + k = c → k < f → M_slowNow_L4 F M f (nI (mxz (slD c g d) i)) (nI i) = some (nI (mxz (slD c g d) c))
  | 0, i, f + 1, hi, hf => by
    have hc := h.2.2.2.1
    rw [M_slowNow_L4, h.1, if_neg (by rw [nI_ltI (by omega) (by omega)]; omega), show i = c by omega]
  | k + 1, i, f + 1, hi, hf => by
    have hc := h.2.2.2.1
    have ih := slD_loop (F := F) h k (i + 1) f (by omega) (by omega)
    have b1 := slD_le h (p := i) (by omega)
    have b2 : mxz (slD c g d) i ≤ 4 := (mxz_le _ _ _).mpr fun p hp => slD_le h (by omega)
    rw [M_slowNow_L4, h.1, if_pos (by rw [nI_ltI (by omega) (by omega)]; omega), M_slowAt_e h (by omega), crd_s]
    simp only [jn_e, bnd_e, crd_s, nI_1]
    have lt := nI_ltI (a := mxz (slD c g d) i) (b := slD c g d i) (by omega) (by omega)
    rw [mxz] at ih
    by_cases g1 : mxz (slD c g d) i < slD c g d i
    · rw [if_pos (lt.mpr g1)]
      rw [Nat.max_eq_right (by omega)] at ih
      exact ih
    · rw [if_neg (fun q => g1 (lt.mp q))]
      rw [Nat.max_eq_left (by omega)] at ih
      exact ih
theorem M_slowNow_e {F c g : Nat} {M : St} {d : Nat → Int} (hF : 20 ≤ F) (h : MoV M c g d) : M_slowNow F M = some (nI (mxz (slD c g d) c)) := by
  have hc := h.2.2.2.1
  unfold M_slowNow
  exact slD_loop h c 0 F (by omega) (by omega)
theorem Tri_if {P : Prop} [Decidable P] {x : Int} (h : P → Tri x) : Tri (if P then x else 0) := by
  by_cases g : P
  · rw [if_pos g]; exact h g
  · rw [if_neg g]; exact Or.inr (Or.inl rfl)
theorem nzD_le {c g : Nat} {M : St} {d : Nat → Int} (h : MoV M c g d) {p : Nat} (hp : p < c) : nzD c g d p ≤ 2 := by
  unfold nzD
  have a := Tri_if (P := 0 < p ∧ g.testBit (p - 1) = false) (x := d (p - 1)) fun q => h.t (by omega)
  have b := Tri_if (P := p + 1 < c ∧ g.testBit p = false) (x := d (p + 1)) fun q => h.t q.1
  unfold Tri at a b
  split <;> omega
theorem nzD_loop {F c g : Nat} {M : St} {d : Nat → Int} (h : MoV M c g d) : ∀ (k i f : Nat), i + k = c → k < f → M_noiseNow_L4 F M f (nI (mxz (nzD c g d) i)) (nI i) = some (nI (mxz (nzD c g d) c))
  | 0, i, f + 1, hi, hf => by
    have hc := h.2.2.2.1
    rw [M_noiseNow_L4, h.1, if_neg (by rw [nI_ltI (by omega) (by omega)]; omega), show i = c by omega]
  | k + 1, i, f + 1, hi, hf => by
    have hc := h.2.2.2.1
    have hc1 := h.2.2.1
    have e1 : nI c - 1 = nI (c - 1) := pk_sub (a := c) (b := 1) hc1
    have ih := nzD_loop (F := F) h k (i + 1) f (by omega) (by omega)
    have b1 := nzD_le h (p := i) (by omega)
    have b2 : mxz (nzD c g d) i ≤ 2 := (mxz_le _ _ _).mpr fun p hp => nzD_le h (by omega)
    have z := iz_0 (h.t (p := i) (by omega))
    have a := Tri_if (P := 0 < i ∧ g.testBit (i - 1) = false) (x := d (i - 1)) fun q => h.t (by omega)
    have b := Tri_if (P := i + 1 < c ∧ g.testBit i = false) (x := d (i + 1)) fun q => h.t q.1
    rw [M_noiseNow_L4, h.1, if_pos (by rw [nI_ltI (by omega) (by omega)]; omega), e1]
    simp only [jn_e, bnd_e, nI_1]
    have lt1 : nI i < nI (c - 1) ↔ i + 1 < c := by rw [nI_ltI (by omega) (by omega)]; omega
    have lt0 : 0 < nI i ↔ 0 < i := nI_ltI (a := 0) (by omega) (by omega)
    have fin : ∀ L R : Int, L = (if 0 < i ∧ g.testBit (i - 1) = false then d (i - 1) else 0) → R = (if i + 1 < c ∧ g.testBit i = false then d (i + 1) else 0) → (chk (nI i) 9 (if M.1 7 (nI i).toNatClampNeg = 0 then crd (M_plain F M (iz L + iz R)) fun v12 => if nI (mxz (nzD c g d) i) < v12 then M_noiseNow_L4 F M f v12 (nI (i + 1)) else M_noiseNow_L4 F M f (nI (mxz (nzD c g d) i)) (nI (i + 1)) else if nI (mxz (nzD c g d) i) < 0 then M_noiseNow_L4 F M f 0 (nI (i + 1)) else M_noiseNow_L4 F M f (nI (mxz (nzD c g d) i)) (nI (i + 1)))) = some (nI (mxz (nzD c g d) c)) := by
      intro L R hL hR
      rw [← hL] at a
      rw [← hR] at b
      rw [chk_n _ (by omega) (by omega), nI_clamp (by omega), h.v (by omega)]
      by_cases g0 : d i = 0
      · have en : nzD c g d i = (L + R).natAbs := by unfold nzD; rw [if_pos g0, hL, hR]
        rw [if_pos (z.mpr g0), iz_add a b, crd_s, ← en]
        have lt := nI_ltI (a := mxz (nzD c g d) i) (b := nzD c g d i) (by omega) (by omega)
        rw [mxz] at ih
        by_cases g1 : mxz (nzD c g d) i < nzD c g d i
        · rw [if_pos (lt.mpr g1)]
          rw [Nat.max_eq_right (by omega)] at ih
          exact ih
        · rw [if_neg (fun q => g1 (lt.mp q))]
          rw [Nat.max_eq_left (by omega)] at ih
          exact ih
      · have en : nzD c g d i = 0 := by unfold nzD; rw [if_neg g0]
        rw [if_neg (fun q => g0 (z.mp q)), if_neg (nI_pos (by omega))]
        rw [mxz, en, Nat.max_eq_left (by omega)] at ih
        exact ih
    have right : ∀ L : Int, L = (if 0 < i ∧ g.testBit (i - 1) = false then d (i - 1) else 0) → (if nI i < nI (c - 1) then crd (M_isGuarded F M (nI i)) fun v14 => if v14 = 0 then chk (nI (i + 1)) 9 (chk (nI i) 9 (if M.1 7 (nI i).toNatClampNeg = 0 then crd (M_plain F M (iz L + M.1 7 (nI (i + 1)).toNatClampNeg)) fun v12 => if nI (mxz (nzD c g d) i) < v12 then M_noiseNow_L4 F M f v12 (nI (i + 1)) else M_noiseNow_L4 F M f (nI (mxz (nzD c g d) i)) (nI (i + 1)) else if nI (mxz (nzD c g d) i) < 0 then M_noiseNow_L4 F M f 0 (nI (i + 1)) else M_noiseNow_L4 F M f (nI (mxz (nzD c g d) i)) (nI (i + 1)))) else (chk (nI i) 9 (if M.1 7 (nI i).toNatClampNeg = 0 then crd (M_plain F M (iz L + 0)) fun v12 => if nI (mxz (nzD c g d) i) < v12 then M_noiseNow_L4 F M f v12 (nI (i + 1)) else M_noiseNow_L4 F M f (nI (mxz (nzD c g d) i)) (nI (i + 1)) else if nI (mxz (nzD c g d) i) < 0 then M_noiseNow_L4 F M f 0 (nI (i + 1)) else M_noiseNow_L4 F M f (nI (mxz (nzD c g d) i)) (nI (i + 1)))) else (chk (nI i) 9 (if M.1 7 (nI i).toNatClampNeg = 0 then crd (M_plain F M (iz L + 0)) fun v12 => if nI (mxz (nzD c g d) i) < v12 then M_noiseNow_L4 F M f v12 (nI (i + 1)) else M_noiseNow_L4 F M f (nI (mxz (nzD c g d) i)) (nI (i + 1)) else if nI (mxz (nzD c g d) i) < 0 then M_noiseNow_L4 F M f 0 (nI (i + 1)) else M_noiseNow_L4 F M f (nI (mxz (nzD c g d) i)) (nI (i + 1))))) = some (nI (mxz (nzD c g d) c)) := by
      intro L hL
      have f0 := fin L 0 hL
      rw [show iz 0 = 0 from rfl] at f0
      by_cases g1 : i + 1 < c
      · rw [if_pos (lt1.mpr g1), M_isGuarded_e h (by omega), crd_s]
        by_cases g2 : g.testBit i = true
        · rw [if_pos g2, if_neg (by decide)]
          exact f0 (by rw [if_neg (fun q => by rw [g2] at q; cases q.2)])
        · rw [if_neg g2, if_pos rfl, chk_n _ (by omega) (by omega), nI_clamp (show i + 1 < 2 ^ 31 by omega), h.v g1]
          exact fin L (d (i + 1)) hL (by rw [if_pos ⟨g1, Bool.eq_false_iff.mpr g2⟩])
      · rw [if_neg (fun q => g1 (lt1.mp q))]
        exact f0 (by rw [if_neg (fun q => g1 q.1)])
    have r0 := right 0
    rw [show iz 0 = 0 from rfl] at r0
    by_cases g1 : 0 < i
    · have e2 : nI i - 1 = nI (i - 1) := pk_sub (a := i) (b := 1) g1
      rw [if_pos (lt0.mpr g1), e2, M_isGuarded_e h (by omega), crd_s]
      by_cases g2 : g.testBit (i - 1) = true
      · rw [if_pos g2, if_neg (by decide)]
        exact r0 (by rw [if_neg (fun q => by rw [g2] at q; cases q.2)])
      · rw [if_neg g2, if_pos rfl, chk_n _ (by omega) (by omega), nI_clamp (show i - 1 < 2 ^ 31 by omega), h.v (p := i - 1) (by omega)]
        exact right (d (i - 1)) (by rw [if_pos ⟨g1, Bool.eq_false_iff.mpr g2⟩])
    · rw [if_neg (fun q => g1 (lt0.mp q))]
      exact r0 (by rw [if_neg (fun q => g1 q.1)])
theorem M_noiseNow_e {F c g : Nat} {M : St} {d : Nat → Int} (hF : 20 ≤ F) (h : MoV M c g d) : M_noiseNow F M = some (nI (mxz (nzD c g d) c)) := by
  have hc := h.2.2.2.1
  unfold M_noiseNow
  exact nzD_loop h c 0 F (by omega) (by omega)
def Sq7 (M M' : St) : Prop := (∀ k, k ≠ 24 → k ≠ 25 → M'.1 0 k = M.1 0 k) ∧ (∀ a, a ≠ 0 → a ≠ 7 → M'.1 a = M.1 a) ∧ M'.2 = M.2
theorem Sq7.sq {M M' : St} (h : Sq7 M M') : SqM M M' := ⟨h.1, fun a ha => h.2.1 a (by omega) (by omega)⟩
def mvF (M : St) (a b c g : Nat) (e : Nat → Nat) : Nat → St
  | 0 => sI (sI M 0 24 (nI c)) 0 25 (nI g)
  | i + 1 => sI (mvF M a b c g e i) 7 i (iz (mvz a b (e i)))
theorem mvF_sq (M : St) (a b c g : Nat) (e : Nat → Nat) : ∀ i, Sq7 M (mvF M a b c g e i)
  | 0 => ⟨fun k h1 h2 => by rw [mvF, sI_at, if_neg (by omega), sI_at, if_neg (by omega)], fun q h1 h2 => by rw [mvF, sI_row _ _ _ _ _ h1, sI_row _ _ _ _ _ h1], rfl⟩
  | i + 1 => by
    obtain ⟨h1, h2, h3⟩ := mvF_sq M a b c g e i
    exact ⟨fun k k1 k2 => by rw [mvF, sI_row _ _ _ _ _ (by omega)]; exact h1 k k1 k2, fun q q1 q2 => by rw [mvF, sI_row _ _ _ _ _ q2]; exact h2 q q1 q2, h3⟩
theorem mvF_24 (M : St) (a b c g : Nat) (e : Nat → Nat) : ∀ i, (mvF M a b c g e i).1 0 24 = nI c ∧ (mvF M a b c g e i).1 0 25 = nI g
  | 0 => ⟨by rw [mvF, sI_at, if_neg (by omega), sI_at, if_pos ⟨rfl, rfl⟩], by rw [mvF, sI_at, if_pos ⟨rfl, rfl⟩]⟩
  | i + 1 => by
    rw [mvF, sI_row _ _ _ _ _ (by omega)]
    exact mvF_24 M a b c g e i
theorem mvF_in (M : St) (a b c g : Nat) (e : Nat → Nat) (p : Nat) : ∀ i, p < i → (mvF M a b c g e i).1 7 p = iz (mvz a b (e p))
  | i + 1, h => by
    rw [mvF, sI_at]
    by_cases q : p = i
    · rw [if_pos ⟨rfl, q⟩, q]
    · rw [if_neg (fun z => q z.2)]
      exact mvF_in M a b c g e p i (by omega)
theorem moves_loop {F n a b c g : Nat} {M : St} {e : Nat → Nat} {p4 : Int32} (hc : c ≤ 9) (hn : n ≤ 8) (ha : a < 2 ^ 31) (hb : b < 2 ^ 31) (hs : M.1 0 0 = nI n) (he : ∀ p, p < c → e p < 32 ∧ ((p4 = 0 ∨ ¬ p < n) → e p = p) ∧ (¬ (p4 = 0 ∨ ¬ p < n) → M.1 2 p = nI (e p))) : ∀ (k i f : Nat), i + k = c → k < f → M_moves_L14 F (nI a) (nI b) (nI c) p4 f (mvF M a b c g e i) (nI i) = some (mvF M a b c g e c)
  | 0, i, f + 1, hi, hf => by
    rw [M_moves_L14, if_neg (by rw [nI_ltI (by omega) (by omega)]; omega), show i = c by omega]
  | k + 1, i, f + 1, hi, hf => by
    obtain ⟨e1, e2, e3⟩ := he i (by omega)
    have ih := moves_loop (F := F) (g := g) hc hn ha hb hs he k (i + 1) f (by omega) (by omega)
    have sq := mvF_sq M a b c g e i
    have one : (chk (nI i) 9 (M_moves_L14 F (nI a) (nI b) (nI c) p4 f (sI (mvF M a b c g e i) 7 (nI i).toNatClampNeg ((jshr (nI b) (nI (e i)) &&& 1) - (jshr (nI a) (nI (e i)) &&& 1))) (nI (i + 1)))) = some (mvF M a b c g e c) := by
      rw [chk_n _ (by omega) (by omega), nI_clamp (by omega), jbit_n hb e1, jbit_n ha e1, iz_bit]
      exact ih
    rw [M_moves_L14, if_pos (by rw [nI_ltI (by omega) (by omega)]; omega)]
    simp only [jn_e, bnd_e, nI_1]
    rw [sq.1 0 (by decide) (by decide), hs, sq.2.1 2 (by decide) (by decide)]
    have lt := nI_ltI (a := i) (b := n) (by omega) (by omega)
    by_cases g1 : p4 = 0
    · rw [if_pos g1]
      rw [e2 (Or.inl g1)] at one
      exact one
    · rw [if_neg g1]
      by_cases g2 : i < n
      · rw [if_pos (lt.mpr g2), chk_n _ (by omega) (by omega)]
        rw [nI_clamp (show i < 2 ^ 31 by omega)] at one ⊢
        rw [e3 (by rintro (z | z); exact g1 z; exact z g2)]
        exact one
      · rw [if_neg (fun z => g2 (lt.mp z))]
        rw [e2 (Or.inr g2)] at one
        exact one
theorem M_moves_e {F n a b c g : Nat} {M : St} {e : Nat → Nat} {p4 : Int32} (hF : 20 ≤ F) (c1 : 1 ≤ c) (hc : c ≤ 9) (hn : n ≤ 8) (hg : g < 2 ^ 31) (ha : a < 2 ^ 31) (hb : b < 2 ^ 31) (hs : M.1 0 0 = nI n) (he : ∀ p, p < c → e p < 32 ∧ ((p4 = 0 ∨ ¬ p < n) → e p = p) ∧ (¬ (p4 = 0 ∨ ¬ p < n) → M.1 2 p = nI (e p))) : ∃ M', M_moves F M (nI a) (nI b) (nI c) p4 (nI g) = some M' ∧ Sq7 M M' ∧ MoV M' c g (fun p => mvz a b (e p)) := by
  refine ⟨mvF M a b c g e c, ?_, mvF_sq _ _ _ _ _ _ _, (mvF_24 _ _ _ _ _ _ _).1, (mvF_24 _ _ _ _ _ _ _).2, c1, hc, hg, fun p hp => ⟨mvF_in _ _ _ _ _ _ _ _ hp, ?_⟩⟩
  · unfold M_moves
    rw [bnd_e, bnd_e]
    exact moves_loop hc hn ha hb hs he c 0 F (by omega) (by omega)
  · exact mvz_TD a b (e p + 1) (e p) (by omega)
