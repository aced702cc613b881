/-! B: SETS OF WORDS AS MASKS; the reference's greatest book -/
theorem low_x : ∀ (m z : Nat), z ≤ m → 0 < z → ∃ i k, z = 2 ^ i * (2 * k + 1)
  | 0, z, h1, h2 => by omega
  | m + 1, z, h1, h2 => by
    by_cases g : z % 2 = 1
    · exact ⟨0, z / 2, by rw [Nat.pow_zero]; omega⟩
    · obtain ⟨i, k, e⟩ := low_x m (z / 2) (by omega) (by omega)
      refine ⟨i + 1, k, ?_⟩
      have : z = 2 * (z / 2) := by omega
      rw [this, e, Nat.pow_succ, Nat.mul_comm (2 ^ i) 2, Nat.mul_assoc]
theorem odd_bit (k j : Nat) : (2 * k).testBit j = (decide (0 < j) && (2 * k + 1).testBit j) := by
  cases j with
  | zero => rw [Nat.testBit_zero, show 2 * k % 2 = 0 by omega]; rfl
  | succ j => rw [Nat.testBit_succ, Nat.testBit_succ, show 2 * k / 2 = k by omega, show (2 * k + 1) / 2 = k by omega, decide_eq_true (by omega), Bool.true_and]
/-- the lowest bit of a figure, and the figure less one -/
theorem low_bits {z : Nat} (h : 0 < z) : ∃ i, z.testBit i = true ∧ (∀ j, j < i → z.testBit j = false) ∧ ∀ j, (z.testBit j && !(z - 1).testBit j) = decide (j = i) := by
  obtain ⟨i, k, e⟩ := low_x z z (Nat.le_refl _) h
  have p := Nat.two_pow_pos i
  have b1 : ∀ j, z.testBit j = (decide (i ≤ j) && (2 * k + 1).testBit (j - i)) := fun j => by
    rw [e, Nat.mul_comm, Nat.testBit_mul_two_pow]
  have e2 : z - 1 = 2 ^ i * (2 * k) + (2 ^ i - 1) := by
    rw [e, Nat.mul_add, Nat.mul_one]
    omega
  have b2 : ∀ j, (z - 1).testBit j = if j < i then true else (2 * k).testBit (j - i) := fun j => by
    rw [e2, Nat.testBit_two_pow_mul_add (2 * k) (pw_m1 i) j]
    split
    · rename_i hj
      rw [Nat.testBit_two_pow_sub_one, decide_eq_true hj]
    · rfl
  refine ⟨i, ?_, fun j hj => ?_, fun j => ?_⟩
  · rw [b1, decide_eq_true (Nat.le_refl i), Nat.sub_self, Nat.testBit_zero, show (2 * k + 1) % 2 = 1 by omega]; rfl
  · rw [b1, decide_eq_false (by omega)]; rfl
  · rw [b1, b2, odd_bit]
    by_cases g : j < i
    · rw [if_pos g, decide_eq_false (show ¬ i ≤ j by omega), decide_eq_false (show ¬ j = i by omega)]; rfl
    · rw [if_neg g, decide_eq_true (show i ≤ j by omega)]
      by_cases g2 : j = i
      · subst g2
        rw [Nat.sub_self, decide_eq_false (show ¬ 0 < 0 by omega), decide_eq_true rfl, Nat.testBit_zero, show (2 * k + 1) % 2 = 1 by omega]; rfl
      · rw [decide_eq_true (show 0 < j - i by omega), decide_eq_false g2, Bool.true_and, Bool.and_not_self]
def lexb (x y : Nat) : Prop := ∃ i, x.testBit i = true ∧ y.testBit i = false ∧ ∀ j, j < i → x.testBit j = y.testBit j
theorem lexb_tr {x y z : Nat} (h : lexb x y) (g : lexb y z) : lexb x z := by
  obtain ⟨i, h1, h2, h3⟩ := h
  obtain ⟨k, g1, g2, g3⟩ := g
  rcases Nat.lt_trichotomy i k with c | c | c
  · exact ⟨i, h1, by rw [← g3 i c, h2], fun j hj => by rw [h3 j hj, g3 j (by omega)]⟩
  · subst c
    rw [h2] at g1; cases g1
  · exact ⟨k, by rw [h3 k c, g1], g2, fun j hj => by rw [h3 j (by omega), g3 j hj]⟩
theorem lexb_no {x y : Nat} (h : lexb x y) (g : lexb y x) : False := by
  obtain ⟨i, h1, h2, h3⟩ := lexb_tr h g
  rw [h1] at h2; cases h2
/-- the reference's test which of two sets comes first -/
theorem lex_test {x y : Nat} (hx : x < 2 ^ 16) (hy : y < 2 ^ 16) (hne : x ≠ y) : ((nI x &&& nI (x ^^^ y)) &&& (-nI (x ^^^ y)) = 0 ∧ lexb y x) ∨ (¬ (nI x &&& nI (x ^^^ y)) &&& (-nI (x ^^^ y)) = 0 ∧ lexb x y) := by
  have hz : x ^^^ y < 2 ^ 16 := Nat.xor_lt_two_pow hx hy
  have h0 : 0 < x ^^^ y := by
    refine Nat.pos_of_ne_zero fun e => hne (Nat.eq_of_testBit_eq fun i => ?_)
    have := congrArg (fun t => t.testBit i) e
    rw [Nat.testBit_xor, Nat.zero_testBit] at this
    revert this
    cases x.testBit i <;> cases y.testBit i <;> simp
  obtain ⟨i, z1, z2, z3⟩ := low_bits h0
  have ng : -nI (x ^^^ y) = nI (2 ^ 32 - ((x ^^^ y) - 1 + 1)) := by
    refine Int32.toBitVec_inj.mp ?_
    show -(BitVec.ofNat 32 (x ^^^ y)) = BitVec.ofNat 32 _
    refine BitVec.eq_of_toNat_eq ?_
    rw [BitVec.toNat_neg, BitVec.toNat_ofNat, BitVec.toNat_ofNat, Nat.mod_eq_of_lt (a := x ^^^ y) (by omega), Nat.sub_add_cancel h0]
  have i16 : i < 16 := by
    refine Nat.lt_of_not_le fun h => ?_
    rw [bit_hi hz h] at z1; cases z1
  rw [ng, ni_and, ni_and]
  have bt : ∀ j, ((x &&& (x ^^^ y)) &&& (2 ^ 32 - ((x ^^^ y) - 1 + 1))).testBit j = (x.testBit j && decide (j = i)) := fun j => by
    rw [Nat.testBit_and, Nat.testBit_and, Nat.testBit_two_pow_sub_succ (show (x ^^^ y) - 1 < 2 ^ 32 by omega), ← z3]
    by_cases g : j < 32
    · rw [decide_eq_true g, Bool.true_and, Bool.and_assoc]
    · rw [bit_hi hx (by omega)]; rfl
  have zb := z_bits (v := (x &&& (x ^^^ y)) &&& (2 ^ 32 - ((x ^^^ y) - 1 + 1))) (n := 16) (Nat.lt_of_le_of_lt Nat.and_le_left (Nat.lt_of_le_of_lt Nat.and_le_left hx)) (by omega)
  have lows : ∀ j, j < i → x.testBit j = y.testBit j := fun j hj => by
    have := z2 j hj
    rw [Nat.testBit_xor] at this
    revert this
    cases x.testBit j <;> cases y.testBit j <;> simp
  rw [Nat.testBit_xor] at z1
  cases g : x.testBit i
  · refine Or.inl ⟨zb.mpr fun j _ => ?_, i, ?_, g, fun j hj => (lows j hj).symm⟩
    · rw [bt]
      by_cases e : j = i
      · rw [e, g]; rfl
      · rw [decide_eq_false e, Bool.and_false]
    · rw [g] at z1
      simpa using z1
  · refine Or.inr ⟨fun z => ?_, i, g, ?_, lows⟩
    · have := zb.mp z i i16
      rw [bt, g, decide_eq_true rfl] at this
      cases this
    · rw [g] at z1
      simpa using z1
theorem pw_16 : ∀ i, i < 17 → jshl 1 (nI i) = nI (2 ^ i) := by decide +kernel
theorem pc_32 {x : Nat} (hx : x < 2 ^ 16) : pc x 32 = pc x 16 := by
  unfold pc
  have e := fb_ct_split (fun i => x.testBit i) 16 16
  have z : fb_ct (fun k => x.testBit (16 + k)) 16 = 0 := fb_ct_zero.mpr fun k _ => bit_hi hx (by omega)
  rw [show 32 = 16 + 16 from rfl, e, z, Nat.add_zero]
theorem Ji_16 {F x : Nat} {S : St} (hx : x < 2 ^ 16) : Ji_bitCount F S (nI x) = some (nI (pc x 16)) := by
  rw [Ji_bits (by omega), pc_32 hx]
def CLq (n q A : Nat) : Prop := ∀ v w, A.testBit v = true → A.testBit w = true → slw n 0 v w ≤ q
/-- V is the first of the greatest cliques among those that D names -/
def BestQ (n q : Nat) (D : Nat → Prop) (V : Nat) : Prop := CLq n q V ∧ ∀ A, D A → CLq n q A → pc A 16 ≤ pc V 16 ∧ (pc A 16 = pc V 16 → A = V ∨ lexb V A)
def nrM (n q : Nat) (M : St) (v : Nat) : Prop := ∃ x, M.1 11 v = nI x ∧ x < 2 ^ 2 ^ n ∧ ∀ w, w < 2 ^ n → x.testBit w = decide (slw n 0 v w ≤ q)
def SqG (M M' : St) : Prop := (∀ k, k ≠ 24 → k ≠ 25 → M'.1 0 k = M.1 0 k) ∧ ∀ a, a ≠ 0 → a ≠ 7 → a ≠ 11 → M'.1 a = M.1 a
theorem SqG.rf {M : St} : SqG M M := ⟨fun _ _ _ => rfl, fun _ _ _ _ => rfl⟩
theorem SqG.tr {S T U : St} (h : SqG S T) (g : SqG T U) : SqG S U := ⟨fun k k1 k2 => (g.1 k k1 k2).trans (h.1 k k1 k2), fun q k1 k2 k3 => (g.2 q k1 k2 k3).trans (h.2 q k1 k2 k3)⟩
theorem pw44 {n : Nat} (h : n ≤ 4) : 2 ^ n ≤ 16 := Nat.pow_le_pow_right (by decide) (show n ≤ 4 from h)
theorem near_in {n q v : Nat} {p2 : Int32} {k32 : St → Option (Int32 × St)} (n1 : 1 ≤ n) (n4 : n ≤ 4) (hq : q < 5) (hv : v < 2 ^ n) : ∀ (j i f : Nat) (M : St) (x : Nat), i + j = 2 ^ n → j < f → M.1 0 0 = nI n → M.1 11 v = nI x → x < 2 ^ i → (∀ w, w < i → x.testBit w = decide (slw n 0 v w ≤ q)) → ∃ M', M_greatest_L62 F9 (nI q) p2 (nI (2 ^ n)) (nI v) k32 f M (nI i) = k32 M' ∧ SqG M M' ∧ nrM n q M' v ∧ ∀ t, t ≠ v → M'.1 11 t = M.1 11 t
  | 0, i, f + 1, M, x, hi, hf, hs, hx, hl, hb => by
    have h16 := pw44 n4
    have ei : i = 2 ^ n := by omega
    subst ei
    refine ⟨M, ?_, SqG.rf, ⟨x, hx, hl, hb⟩, fun _ _ => rfl⟩
    rw [M_greatest_L62, if_neg (by rw [nI_ltI (by omega) (by omega)]; omega)]
  | j + 1, i, f + 1, M, x, hi, hf, hs, hx, hl, hb => by
    have h16 := pw44 n4
    obtain ⟨M1, a1, a2⟩ := near_M (F := F9) (M := M) (a := v) (b := i) F9_20 n1 (by omega) hs hv (by omega)
    have b4 := slw_le4 n 0 v i
    have lt := nI_ltI (a := q) (b := slw n 0 v i) (by omega) (by omega)
    have go : ∀ y, y < 2 ^ (i + 1) → (∀ w, w < i + 1 → y.testBit w = decide (slw n 0 v w ≤ q)) → ∃ M', M_greatest_L62 F9 (nI q) p2 (nI (2 ^ n)) (nI v) k32 f (sI M1 11 v (nI y)) (nI (i + 1)) = k32 M' ∧ SqG M M' ∧ nrM n q M' v ∧ ∀ t, t ≠ v → M'.1 11 t = M.1 11 t := by
      intro y hy hyb
      obtain ⟨M', c1, c2, c3, c4⟩ := near_in (p2 := p2) (k32 := k32) n1 n4 hq hv j (i + 1) f (sI M1 11 v (nI y)) y (by omega) (by omega) (by rw [sI_row _ _ _ _ _ (by decide), a2.1 0 (by decide) (by decide), hs]) (by rw [sI_at, if_pos ⟨rfl, rfl⟩]) hy hyb
      refine ⟨M', c1, SqG.tr ⟨fun k h1 h2 => by rw [sI_row _ _ _ _ _ (by decide)]; exact a2.1 k h1 h2, fun a h1 h2 h3 => by rw [sI_row _ _ _ _ _ h3]; exact a2.2.1 a h1 h2⟩ c2, c3, fun t ht => ?_⟩
      rw [c4 t ht, sI_at, if_neg (fun z => ht z.2), a2.2.1 11 (by decide) (by decide)]
    have pi : 2 ^ (i + 1) = 2 * 2 ^ i := by rw [Nat.pow_succ, Nat.mul_comm]
    rw [M_greatest_L62, if_pos (by rw [nI_ltI (by omega) (by omega)]; omega), chk_n _ (by omega) (by decide), a1, cal_s, jn_e]
    simp only [chk_n _ (show v < 16 by omega) (show 16 < 2 ^ 31 by decide), nI_clamp (show v < 2 ^ 31 by omega), bnd_e, nI_1, hx]
    by_cases g : q < slw n 0 v i
    · rw [if_pos (lt.mpr g), show (0 : Int32) = nI 0 from rfl, ni_or, Nat.or_zero]
      refine go x (by omega) fun w hw => ?_
      by_cases e : w = i
      · rw [e, bit_hi hl (Nat.le_refl _), decide_eq_false (by omega)]
      · exact hb w (by omega)
    · rw [if_neg (fun z => g (lt.mp z)), pw_16 i (by omega), ni_or]
      refine go (x ||| 2 ^ i) (Nat.or_lt_two_pow (by omega) (by omega)) fun w hw => ?_
      rw [fb_bit_set]
      by_cases e : w = i
      · rw [e, decide_eq_true rfl, Bool.or_true, decide_eq_true (by omega)]
      · rw [decide_eq_false e, Bool.or_false]
        exact hb w (by omega)
theorem near_out {n q : Nat} {p2 : Int32} {k4 : St → Option (Int32 × St)} (n1 : 1 ≤ n) (n4 : n ≤ 4) (hq : q < 5) : ∀ (j i f : Nat) (M : St), i + j = 2 ^ n → j < f → M.1 0 0 = nI n → (∀ v, v < i → nrM n q M v) → ∃ M', M_greatest_L45 F9 (nI q) p2 (nI (2 ^ n)) k4 f M (nI i) = k4 M' ∧ SqG M M' ∧ ∀ v, v < 2 ^ n → nrM n q M' v
  | 0, i, f + 1, M, hi, hf, hs, hd => by
    have h16 := pw44 n4
    refine ⟨M, ?_, SqG.rf, fun v hv => hd v (by omega)⟩
    rw [M_greatest_L45, if_neg (by rw [nI_ltI (by omega) (by omega)]; omega)]
  | j + 1, i, f + 1, M, hi, hf, hs, hd => by
    have h16 := pw44 n4
    obtain ⟨M1, a1, a2, a3, a4⟩ := near_in (v := i) (p2 := p2) (k32 := fun S33 => bnd (nI i + 1) fun v34 => M_greatest_L45 F9 (nI q) p2 (nI (2 ^ n)) k4 f S33 v34) n1 n4 hq (by omega) (2 ^ n) 0 F9 (sI M 11 i 0) 0 (by omega) (by unfold F9; omega) (by rw [sI_row _ _ _ _ _ (by decide), hs]) (by rw [sI_at, if_pos ⟨rfl, rfl⟩]; rfl) (by decide) (fun w hw => by omega)
    have s0 : SqG M (sI M 11 i 0) := ⟨fun k _ _ => by rw [sI_row _ _ _ _ _ (by decide)], fun a _ _ h => by rw [sI_row _ _ _ _ _ h]⟩
    obtain ⟨M', c1, c2, c3⟩ := near_out (p2 := p2) (k4 := k4) n1 n4 hq j (i + 1) f M1 (by omega) (by omega) (by rw [a2.1 0 (by decide) (by decide), sI_row _ _ _ _ _ (by decide), hs]) (fun v hv => by
      by_cases e : v = i
      · rw [e]; exact a3
      · have h1 := hd v (by omega)
        unfold nrM at h1 ⊢
        rw [a4 v e, sI_at, if_neg (fun z => e z.2)]
        exact h1)
    refine ⟨M', ?_, (s0.tr a2).tr c2, c3⟩
    rw [nI_0] at a1
    rw [M_greatest_L45, if_pos (by rw [nI_ltI (by omega) (by omega)]; omega), chk_n _ (by omega) (by decide), nI_clamp (by omega), bnd_e, a1, bnd_e, nI_1]
    exact c1
theorem clq_loop {n q A : Nat} {p2 v9 : Int32} {M : St} {k11 : Int32 → Option (Int32 × St)} (n4 : n ≤ 4) (hA : A < 2 ^ 2 ^ n) (hd : ∀ v, v < 2 ^ n → nrM n q M v) : ∀ (j i f : Nat), i + j = 2 ^ n → j + 1 < f → ∃ r, M_greatest_L130 F9 p2 (nI (2 ^ n)) M v9 (nI A) k11 f 1 (nI i) = k11 r ∧ ((r = 1 ∧ ∀ v w, i ≤ v → A.testBit v = true → A.testBit w = true → slw n 0 v w ≤ q) ∨ (r = 0 ∧ ¬ CLq n q A))
  | 0, i, f + 1, hi, hf => by
    have h16 := pw44 n4
    refine ⟨1, ?_, Or.inl ⟨rfl, fun v w h1 h2 _ => ?_⟩⟩
    · rw [M_greatest_L130, if_neg (by rw [nI_ltI (by omega) (by omega)]; omega)]
    · rw [bit_hi hA (by omega)] at h2; cases h2
  | j + 1, i, f + 2, hi, hf => by
    have h16 := pw44 n4
    have hA16 : A < 2 ^ 16 := Nat.lt_of_lt_of_le hA (Nat.pow_le_pow_right (by decide) h16)
    obtain ⟨x, x1, x2, x3⟩ := hd i (by omega)
    obtain ⟨r, c1, c2⟩ := clq_loop (p2 := p2) (v9 := v9) (k11 := k11) n4 hA hd j (i + 1) (f + 1) (by omega) (by omega)
    have stop : M_greatest_L130 F9 p2 (nI (2 ^ n)) M v9 (nI A) k11 (f + 1) 0 (nI (i + 1)) = k11 0 := by
      rw [M_greatest_L130]
      split
      · rw [if_pos rfl]
      · rfl
    rw [M_greatest_L130, if_pos (by rw [nI_ltI (by omega) (by omega)]; omega), if_neg (by decide), jn_e, jn_e, jbit_n (by omega) (by omega)]
    simp only [bnd_e, nI_1, chk_n _ (show i < 16 by omega) (show 16 < 2 ^ 31 by decide), nI_clamp (show i < 2 ^ 31 by omega), x1]
    by_cases g : A.testBit i = true
    · rw [if_pos g, if_neg (show ¬ nI 1 = 0 by decide), nd_e]
      have zb := z_bits (nd_lt (b := x) hA16) (by omega)
      by_cases g2 : nI (nd A x) = 0
      · rw [if_pos g2, c1]
        refine ⟨r, rfl, ?_⟩
        rcases c2 with ⟨c2, c3⟩ | c2
        · refine Or.inl ⟨c2, fun v w h1 h2 h3 => ?_⟩
          by_cases e : v = i
          · subst e
            have hw16 : w < 2 ^ n := by
              refine Nat.lt_of_not_le fun h => ?_
              rw [bit_hi hA h] at h3; cases h3
            have := zb.mp g2 w (by omega)
            rw [nd_bit (by omega), h3, x3 w hw16, Bool.true_and] at this
            simpa using this
          · exact c3 v w (by omega) h2 h3
        · exact Or.inr c2
      · rw [if_neg g2, stop]
        refine ⟨0, rfl, Or.inr ⟨rfl, fun hc => g2 (zb.mpr fun w hw => ?_)⟩⟩
        rw [nd_bit (by omega)]
        cases hw1 : A.testBit w
        · rfl
        · have hw16 : w < 2 ^ n := by
            refine Nat.lt_of_not_le fun h => ?_
            rw [bit_hi hA h] at hw1; cases hw1
          rw [x3 w hw16, decide_eq_true (hc i w g hw1)]; rfl
    · rw [if_neg g, if_pos (show nI 0 = 0 from rfl), c1]
      refine ⟨r, rfl, ?_⟩
      rcases c2 with ⟨c2, c3⟩ | c2
      · refine Or.inl ⟨c2, fun v w h1 h2 h3 => ?_⟩
        by_cases e : v = i
        · rw [e] at h2; exact absurd h2 g
        · exact c3 v w (by omega) h2 h3
      · exact Or.inr c2
theorem great_M {n q : Nat} {p2 : Int32} {M : St} {k6 : Int32 → Option (Int32 × St)} (n4 : n ≤ 4) (hd : ∀ v, v < 2 ^ n → nrM n q M v) : ∀ (j a f V : Nat), a + j = 2 ^ 2 ^ n → j < f → V < a → BestQ n q (fun A => A < a) V → ∃ V', M_greatest_L116 F9 p2 (nI (2 ^ n)) M k6 f (nI V) (nI a) = k6 (nI V') ∧ V' < 2 ^ 2 ^ n ∧ BestQ n q (fun A => A < 2 ^ 2 ^ n) V'
  | 0, a, f + 1, V, ha, hf, hV, hB => by
    have h16 := pw44 n4
    have h65 : 2 ^ 2 ^ n ≤ 2 ^ 16 := Nat.pow_le_pow_right (by decide) h16
    have ea : a = 2 ^ 2 ^ n := by omega
    subst ea
    refine ⟨V, ?_, hV, hB⟩
    rw [M_greatest_L116, pw_16 _ (by omega), if_neg (by rw [nI_ltI (by omega) (by omega)]; omega)]
  | j + 1, a, f + 1, V, ha, hf, hV, hB => by
    have h16 := pw44 n4
    have h65 : 2 ^ 2 ^ n ≤ 2 ^ 16 := Nat.pow_le_pow_right (by decide) h16
    have haa : a < 2 ^ 2 ^ n := by omega
    obtain ⟨r, c1, c2⟩ := clq_loop (p2 := p2) (v9 := nI V) (k11 := fun v12 => jn (fun (v13 : Int32) => bnd (nI a ^^^ nI V) fun v15 => jn (fun (v16 : Int32) => bnd (nI a + 1) fun v18 => M_greatest_L116 F9 p2 (nI (2 ^ n)) M k6 f v16 v18) fun (J17 : Int32 → Option (Int32 × St)) => jn (J17 (nI a)) fun (J19 : Option (Int32 × St)) => (if 0 < v13 then J19 else jn (J17 (nI V)) fun (J20 : Option (Int32 × St)) => (if v13 = 0 then (if ((nI a &&& v15) &&& (-v15)) = 0 then J20 else J19) else J20))) fun (J14 : Int32 → Option (Int32 × St)) => (if v12 = 0 then J14 (-1) else crd (M_countOf F9 M (nI a)) fun v21 => crd (M_countOf F9 M (nI V)) fun v22 => J14 (v21 - v22))) n4 haa hd (2 ^ n) 0 F9 (by omega) (by unfold F9; omega)
    rw [nI_0] at c1
    rw [M_greatest_L116, pw_16 _ (by omega), if_pos (by rw [nI_ltI (by omega) (by omega)]; omega), c1, M_countOf_e F9_20 (by omega), M_countOf_e F9_20 (by omega)]
    simp only [jn_e, bnd_e, crd_s, nI_1, ni_xor]
    have ih := great_M (p2 := p2) (k6 := k6) n4 hd j (a + 1) f
    have keep : (CLq n q a → pc a 16 ≤ pc V 16 ∧ (pc a 16 = pc V 16 → a = V ∨ lexb V a)) → ∃ V', M_greatest_L116 F9 p2 (nI (2 ^ n)) M k6 f (nI V) (nI (a + 1)) = k6 (nI V') ∧ V' < 2 ^ 2 ^ n ∧ BestQ n q (fun A => A < 2 ^ 2 ^ n) V' := fun hk => ih V (by omega) (by omega) (by omega) ⟨hB.1, fun A hA hc => by
      by_cases e : A = a
      · rw [e] at hc ⊢; exact hk hc
      · exact hB.2 A (show A < a by have : A < a + 1 := hA; omega) hc⟩
    have take : CLq n q a → (∀ A, A < a → CLq n q A → pc A 16 ≤ pc a 16 ∧ (pc A 16 = pc a 16 → A = a ∨ lexb a A)) → ∃ V', M_greatest_L116 F9 p2 (nI (2 ^ n)) M k6 f (nI a) (nI (a + 1)) = k6 (nI V') ∧ V' < 2 ^ 2 ^ n ∧ BestQ n q (fun A => A < 2 ^ 2 ^ n) V' := fun ha hk => ih a (by omega) (by omega) (by omega) ⟨ha, fun A hA hc => by
      by_cases e : A = a
      · rw [e]; exact ⟨Nat.le_refl _, fun _ => Or.inl rfl⟩
      · exact hk A (by have : A < a + 1 := hA; omega) hc⟩
    rcases c2 with ⟨rfl, c3⟩ | ⟨rfl, c3⟩
    · have hca : CLq n q a := fun v w h1 h2 => c3 v w (Nat.zero_le _) h1 h2
      rw [if_neg (show ¬ (1 : Int32) = 0 by decide)]
      have l1 := pc_le a 16
      have l2 := pc_le V 16
      have ts : (nI (pc a 16) - nI (pc V 16)).toInt = (pc a 16 : Int) - pc V 16 := pk_sub_toInt (by omega) (by omega)
      have lt : 0 < nI (pc a 16) - nI (pc V 16) ↔ pc V 16 < pc a 16 := by rw [ilt, ts, c0]; omega
      have eq : nI (pc a 16) - nI (pc V 16) = 0 ↔ pc a 16 = pc V 16 := by rw [ieq, ts, c0]; omega
      by_cases g1 : pc V 16 < pc a 16
      · rw [if_pos (lt.mpr g1)]
        exact take hca fun A hA hc => by
          have := (hB.2 A hA hc).1
          exact ⟨by omega, fun z => by omega⟩
      · rw [if_neg (fun z => g1 (lt.mp z))]
        by_cases g2 : pc a 16 = pc V 16
        · rw [if_pos (eq.mpr g2)]
          rcases lex_test (x := a) (y := V) (by omega) (by omega) (by omega) with ⟨t1, t2⟩ | ⟨t1, t2⟩
          · rw [if_pos t1]
            exact keep fun _ => ⟨by omega, fun _ => Or.inr t2⟩
          · rw [if_neg t1]
            refine take hca fun A hA hc => ?_
            have h1 := hB.2 A hA hc
            refine ⟨by omega, fun z => Or.inr ?_⟩
            rcases h1.2 (by omega) with e | e
            · rw [e]; exact t2
            · exact lexb_tr t2 e
        · rw [if_neg (fun z => g2 (eq.mp z))]
          exact keep fun _ => ⟨by omega, fun z => absurd z g2⟩
    · rw [if_pos (show (0 : Int32) = 0 from rfl), if_neg (show ¬ (0 : Int32) < -1 by decide), if_neg (show ¬ (-1 : Int32) = 0 by decide)]
      exact keep fun hc => absurd hc c3
