/-! B: A CHANGE WEIGHED, THE CLASS'S SIDE -/
def TD (d : Nat → Int) (c : Nat) : Prop := ∀ p, p < c → d p = -1 ∨ d p = 0 ∨ d p = 1
def sdD (g : Nat) (d : Nat → Int) (p : Nat) : Nat := if g.testBit p then 1 else (d p - d (p + 1)).natAbs
def slD (c g : Nat) (d : Nat → Int) (p : Nat) : Nat := if d p = 0 then 0 else (if 0 < p then sdD g d (p - 1) else 0) + (if p + 1 < c then sdD g d p else 0)
def mvD (c : Nat) (d : Nat → Int) : Nat := fb_ct (fun p => decide (d p ≠ 0)) c
def ctD (g : Nat) (d : Nat → Int) (p : Nat) : Nat := if g.testBit p then (d p * d p + d (p + 1) * d (p + 1)).natAbs else ((d p - d (p + 1)) * (d p - d (p + 1))).natAbs
def nzD (c g : Nat) (d : Nat → Int) (p : Nat) : Nat := if d p = 0 then ((if 0 < p ∧ g.testBit (p - 1) = false then d (p - 1) else 0) + (if p + 1 < c ∧ g.testBit p = false then d (p + 1) else 0)).natAbs else 0
def coD (c g o s : Nat) (d : Nat → Int) : Nat := o * mvD c d + s * fb_sm (ctD g d) (c - 1)
theorem slw_D (n g a b : Nat) : slw n g a b = mxz (slD n g (mvz a b)) n := rfl
theorem mvz_TD (a b c : Nat) : TD (mvz a b) c := by
  intro p _
  rw [mvz_4]
  cases a.testBit p <;> cases b.testBit p <;> decide
theorem mxz_le (f : Nat → Nat) (t : Nat) : ∀ n, mxz f n ≤ t ↔ ∀ p, p < n → f p ≤ t
  | 0 => ⟨fun _ p hp => absurd hp (Nat.not_lt_zero _), fun _ => Nat.zero_le _⟩
  | k + 1 => by
    rw [mxz, Nat.max_le, mxz_le f t k]
    constructor
    · intro h p hp
      by_cases e : p = k
      · rw [e]; exact h.2
      · exact h.1 p (by omega)
    · intro h
      exact ⟨fun p hp => h p (by omega), h k (by omega)⟩
theorem mxz_cong {f g : Nat → Nat} : ∀ {n : Nat}, (∀ p, p < n → f p = g p) → mxz f n = mxz g n
  | 0, _ => rfl
  | k + 1, h => by rw [mxz, mxz, mxz_cong (fun p hp => h p (by omega)), h k (by omega)]
theorem pc_cut {v k : Nat} (hk : k ≤ 16) (h : ∀ i, k ≤ i → v.testBit i = false) : pc v 16 = fb_ct (fun i => v.testBit i) k := by
  unfold pc
  have e := fb_ct_split (fun i => v.testBit i) k (16 - k)
  rw [show k + (16 - k) = 16 by omega] at e
  rw [e, fb_ct_zero.mpr (fun j _ => h (k + j) (by omega)), Nat.add_zero]
theorem bx0 : ∀ a0 b0 : Bool, (b0 && !a0 || a0 && !b0) = decide (mv4 a0 b0 ≠ 0) := by decide
theorem bx3 : ∀ a0 b0 a1 b1 s : Bool, (if (!s && decide ((mv4 a0 b0 - mv4 a1 b1).natAbs = 1)) = true then 1 else 0) + 4 * (if (!s && decide ((mv4 a0 b0 - mv4 a1 b1).natAbs = 2)) = true then 1 else 0) + ((if ((b0 && !a0 || a0 && !b0) && s) = true then 1 else 0) + (if ((b1 && !a1 || a1 && !b1) && s) = true then 1 else 0)) = if s = true then (mv4 a0 b0 * mv4 a0 b0 + mv4 a1 b1 * mv4 a1 b1).natAbs else ((mv4 a0 b0 - mv4 a1 b1) * (mv4 a0 b0 - mv4 a1 b1)).natAbs := by decide
theorem bx4 : ∀ a0 b0 a1 b1 s : Bool, ((!s && decide ((mv4 a0 b0 - mv4 a1 b1).natAbs = 1)) || (!s && decide ((mv4 a0 b0 - mv4 a1 b1).natAbs = 2)) || s) = decide (1 ≤ (if s = true then 1 else (mv4 a0 b0 - mv4 a1 b1).natAbs)) := by decide
theorem bx5 : ∀ a0 b0 a1 b1 s : Bool, (!s && decide ((mv4 a0 b0 - mv4 a1 b1).natAbs = 2)) = decide ((if s = true then 1 else (mv4 a0 b0 - mv4 a1 b1).natAbs) = 2) := by decide
theorem bx6 : ∀ a0 b0 a1 b1 s : Bool, (if s = true then 1 else (mv4 a0 b0 - mv4 a1 b1).natAbs) < 3 := by decide
theorem C_moves_e {F n sh a b u w x y : Nat} {S : St} (n8 : n ≤ 8) (h : CV S n sh a b u w x y) : C_moves F S = some (nI (mvD n (mvz a b))) := by
  obtain ⟨h0, h1, h2, h3, h4, h5, h6, lu, lw, lx, ly, ls, bu, bw, bx, by'⟩ := h
  have hp := pw_hi n8
  have hm : u ||| w < 2 ^ n := Nat.or_lt_two_pow lu lw
  unfold C_moves
  rw [h3, Ji_small (by omega), crd_s, pc_cut (k := n) (by omega) (fun i hi => bit_hi hm hi)]
  congr 2
  refine fb_ct_cong fun p _ => ?_
  rw [Nat.testBit_or, bu, bw, mvz_4, bx0]
theorem cost_sum {n sh a b u w x y : Nat} {S : St} (h : CV S n sh a b u w x y) : ∀ j, j ≤ n - 1 → fb_ct (fun i => x.testBit i) j + 4 * fb_ct (fun i => y.testBit i) j + (fb_ct (fun i => ((u ||| w) &&& sh).testBit i) j + fb_ct (fun i => ((u ||| w) / 2 &&& sh).testBit i) j) = fb_sm (ctD sh (mvz a b)) j
  | 0, _ => rfl
  | j + 1, hj => by
    obtain ⟨h0, h1, h2, h3, h4, h5, h6, lu, lw, lx, ly, ls, bu, bw, bx, by'⟩ := id h
    have ih := cost_sum h j (by omega)
    rw [fb_ct_succ, fb_ct_succ, fb_ct_succ, fb_ct_succ, fb_sm_succ, ← ih]
    have e : _ = ctD sh (mvz a b) j := bx3 (a.testBit j) (b.testBit j) (a.testBit (j + 1)) (b.testBit (j + 1)) (sh.testBit j)
    rw [← e, bx, by', Nat.testBit_and, Nat.testBit_and, Nat.testBit_div_two, Nat.testBit_or, Nat.testBit_or, bu, bw, bu, bw, decide_eq_true (show j + 1 < n by omega), Bool.true_and]
    unfold dz
    rw [mvz_4, mvz_4]
    omega
theorem C_cost_e {F n sh a b u w x y o s : Nat} {S : St} (n8 : n ≤ 8) (h : CV S n sh a b u w x y) : C_cost F S (nI o) (nI s) = some (nI (coD n sh o s (mvz a b))) := by
  have cs := cost_sum h (n - 1) (Nat.le_refl _)
  have cm := C_moves_e (F := F) n8 h
  obtain ⟨h0, h1, h2, h3, h4, h5, h6, lu, lw, lx, ly, ls, bu, bw, bx, by'⟩ := id h
  have hp := pw_hi n8
  have hp2 : 2 ^ (n - 1) ≤ 2 ^ n := Nat.pow_le_pow_right (by decide) (by omega)
  have hm : u ||| w < 2 ^ n := Nat.or_lt_two_pow lu lw
  have l1 : (u ||| w) &&& sh < 2 ^ (n - 1) := Nat.lt_of_le_of_lt Nat.and_le_right ls
  have l2 : (u ||| w) / 2 &&& sh < 2 ^ (n - 1) := Nat.lt_of_le_of_lt Nat.and_le_right ls
  have f4 : (4 : Int32) = nI 4 := rfl
  unfold C_cost
  rw [h3, h4, h5, h6, ni_and, jshr1 (by omega), ni_and, Ji_small (by omega), Ji_small (by omega), Ji_small (by omega), Ji_small (by omega), cm]
  simp only [crd_s, bnd_e]
  simp only [f4, pk_mul, nI_add]
  rw [pc_cut (k := n - 1) (by omega) (fun i hi => bit_hi l1 hi), pc_cut (k := n - 1) (by omega) (fun i hi => bit_hi l2 hi), pc_cut (v := x) (k := n - 1) (by omega) (fun i hi => by rw [bx, decide_eq_false (by omega)]; rfl), pc_cut (v := y) (k := n - 1) (by omega) (fun i hi => by rw [by', decide_eq_false (by omega)]; rfl), cs]
  rfl
def gpz (n sh a b p : Nat) : Nat := if p + 1 < n then sdz sh a b p else 0
theorem gpz_lt (n sh a b p : Nat) : gpz n sh a b p < 3 := by
  unfold gpz
  by_cases h : p + 1 < n
  · rw [if_pos h]
    exact bx6 (a.testBit p) (b.testBit p) (a.testBit (p + 1)) (b.testBit (p + 1)) (sh.testBit p)
  · rw [if_neg h]; decide
theorem gpz_1 {n sh a b u w x y : Nat} {S : St} (h : CV S n sh a b u w x y) (p : Nat) : ((x ||| y) ||| sh).testBit p = decide (1 ≤ gpz n sh a b p) := by
  obtain ⟨h0, h1, h2, h3, h4, h5, h6, lu, lw, lx, ly, ls, bu, bw, bx, by'⟩ := h
  rw [Nat.testBit_or, Nat.testBit_or, bx, by', gpz]
  by_cases g : p + 1 < n
  · rw [if_pos g, decide_eq_true g, Bool.true_and]
    exact bx4 (a.testBit p) (b.testBit p) (a.testBit (p + 1)) (b.testBit (p + 1)) (sh.testBit p)
  · rw [if_neg g, decide_eq_false g, bit_hi ls (show n - 1 ≤ p by omega)]
    rfl
theorem gpz_2 {n sh a b u w x y : Nat} {S : St} (h : CV S n sh a b u w x y) (p : Nat) : y.testBit p = decide (gpz n sh a b p = 2) := by
  obtain ⟨h0, h1, h2, h3, h4, h5, h6, lu, lw, lx, ly, ls, bu, bw, bx, by'⟩ := h
  rw [by', gpz]
  by_cases g : p + 1 < n
  · rw [if_pos g, decide_eq_true g, Bool.true_and]
    exact bx5 (a.testBit p) (b.testBit p) (a.testBit (p + 1)) (b.testBit (p + 1)) (sh.testBit p)
  · rw [if_neg g, decide_eq_false g]
    rfl
def gpb (n sh a b p : Nat) : Nat := if 1 ≤ p then gpz n sh a b (p - 1) else 0
theorem gpb_lt (n sh a b p : Nat) : gpb n sh a b p < 3 := by
  unfold gpb
  by_cases h : 1 ≤ p
  · rw [if_pos h]; exact gpz_lt _ _ _ _ _
  · rw [if_neg h]; decide
theorem gpb_1 {n sh a b u w x y : Nat} {S : St} (h : CV S n sh a b u w x y) (p : Nat) : (((x ||| y) ||| sh) * 2 ^ 1).testBit p = decide (1 ≤ gpb n sh a b p) := by
  rw [Nat.testBit_mul_two_pow, gpz_1 h, gpb]
  by_cases g : 1 ≤ p
  · rw [if_pos g, decide_eq_true g, Bool.true_and]
  · rw [if_neg g, decide_eq_false g]; rfl
theorem gpb_2 {n sh a b u w x y : Nat} {S : St} (h : CV S n sh a b u w x y) (p : Nat) : (y * 2 ^ 1).testBit p = decide (gpb n sh a b p = 2) := by
  rw [Nat.testBit_mul_two_pow, gpz_2 h, gpb]
  by_cases g : 1 ≤ p
  · rw [if_pos g, decide_eq_true g, Bool.true_and]
  · rw [if_neg g, decide_eq_false g]; rfl
theorem slz_g {n sh a b p : Nat} (h : p < n) : slz n sh a b p = if (decide (mvz a b p ≠ 0)) = true then gpz n sh a b p + gpb n sh a b p else 0 := by
  unfold slz gpb gpz
  by_cases g : mvz a b p = 0
  · rw [if_pos g, decide_eq_false (fun z => z g)]; rfl
  · rw [if_neg g, decide_eq_true g, if_pos rfl, Nat.add_comm]
    congr 1
    by_cases g1 : 0 < p
    · rw [if_pos g1, if_pos (show 1 ≤ p by omega), if_pos (by omega)]
    · rw [if_neg g1, if_neg (show ¬ 1 ≤ p by omega)]
theorem gs4 : ∀ A, A < 3 → ∀ B, B < 3 → ∀ M : Bool, ((M && decide (A = 2)) && (M && decide (B = 2))) = false ↔ (if M = true then A + B else 0) ≤ 3 := by decide
theorem gs3 : ∀ A, A < 3 → ∀ B, B < 3 → ∀ M : Bool, ((M && decide (A = 2)) && (M && decide (1 ≤ B)) || (M && decide (1 ≤ A)) && (M && decide (B = 2))) = false ↔ (if M = true then A + B else 0) ≤ 2 := by decide
theorem gs2 : ∀ A, A < 3 → ∀ B, B < 3 → ∀ M : Bool, (((M && decide (A = 2)) || (M && decide (B = 2))) || (M && decide (1 ≤ A)) && (M && decide (1 ≤ B))) = false ↔ (if M = true then A + B else 0) ≤ 1 := by decide
theorem gs1 : ∀ A, A < 3 → ∀ B, B < 3 → ∀ M : Bool, ((M && decide (1 ≤ A)) || (M && decide (1 ≤ B))) = false ↔ (if M = true then A + B else 0) ≤ 0 := by decide
theorem slz_le4 {n sh a b p : Nat} (h : p < n) : slz n sh a b p ≤ 4 := by
  have h1 := gpz_lt n sh a b p
  have h2 := gpb_lt n sh a b p
  rw [slz_g h]
  split <;> omega
theorem slw_le4 (n sh a b : Nat) : slw n sh a b ≤ 4 := (mxz_le _ 4 n).mpr fun _ hp => slz_le4 hp
theorem C_greatestSlow_e {F n sh a b u w x y : Nat} {S : St} (n8 : n ≤ 8) (h : CV S n sh a b u w x y) : C_greatestSlow F S = some (nI (slw n sh a b)) := by
  obtain ⟨h0, h1, h2, h3, h4, h5, h6, lu, lw, lx, ly, ls, bu, bw, bx, by'⟩ := id h
  have hp := pw_hi n8
  have hp2 : 2 ^ (n - 1) ≤ 2 ^ n := Nat.pow_le_pow_right (by decide) (by omega)
  have hm : u ||| w < 2 ^ n := Nat.or_lt_two_pow lu lw
  have hv : (x ||| y) ||| sh < 2 ^ n := Nat.or_lt_two_pow (Nat.or_lt_two_pow lx ly) (by omega)
  have bm : ∀ p, (u ||| w).testBit p = decide (mvz a b p ≠ 0) := fun p => by rw [Nat.testBit_or, bu, bw, mvz_4, bx0]
  have ml : ∀ z, (u ||| w) &&& z < 2 ^ n := fun z => Nat.lt_of_le_of_lt Nat.and_le_left hm
  have al : ∀ {z r : Nat}, z < 2 ^ n → z &&& r < 2 ^ n := fun hz => Nat.lt_of_le_of_lt Nat.and_le_left hz
  unfold C_greatestSlow
  rw [h3, h4, h5, h6, ni_or, ni_or]
  simp only [bnd_e]
  rw [jshl1 (by omega), jshl1 (by omega), ni_and, ni_and, ni_and, ni_and, ni_and, ni_and, ni_and, ni_and, ni_or, ni_or, ni_or, ni_or]
  have c4 : nI (((u ||| w) &&& y) &&& ((u ||| w) &&& (y * 2 ^ 1))) = 0 ↔ slw n sh a b ≤ 3 := by
    rw [z_bits (al (ml _)) (by omega), slw, mxz_le]
    refine forall_congr' fun p => forall_congr' fun hp => ?_
    rw [Nat.testBit_and, Nat.testBit_and, Nat.testBit_and, bm, gpz_2 h, gpb_2 h, slz_g hp]
    exact gs4 _ (gpz_lt _ _ _ _ _) _ (gpb_lt _ _ _ _ _) _
  have c3 : nI (((u ||| w) &&& y) &&& ((u ||| w) &&& (((x ||| y) ||| sh) * 2 ^ 1)) ||| ((u ||| w) &&& ((x ||| y) ||| sh)) &&& ((u ||| w) &&& (y * 2 ^ 1))) = 0 ↔ slw n sh a b ≤ 2 := by
    rw [z_bits (Nat.or_lt_two_pow (al (ml _)) (al (ml _))) (by omega), slw, mxz_le]
    refine forall_congr' fun p => forall_congr' fun hp => ?_
    rw [Nat.testBit_or, Nat.testBit_and, Nat.testBit_and, Nat.testBit_and, Nat.testBit_and, Nat.testBit_and, Nat.testBit_and, bm, gpz_2 h, gpb_2 h, gpz_1 h, gpb_1 h, slz_g hp]
    exact gs3 _ (gpz_lt _ _ _ _ _) _ (gpb_lt _ _ _ _ _) _
  have c2 : nI (((u ||| w) &&& y ||| (u ||| w) &&& (y * 2 ^ 1)) ||| ((u ||| w) &&& ((x ||| y) ||| sh)) &&& ((u ||| w) &&& (((x ||| y) ||| sh) * 2 ^ 1))) = 0 ↔ slw n sh a b ≤ 1 := by
    rw [z_bits (Nat.or_lt_two_pow (Nat.or_lt_two_pow (ml _) (ml _)) (al (ml _))) (by omega), slw, mxz_le]
    refine forall_congr' fun p => forall_congr' fun hp => ?_
    rw [Nat.testBit_or, Nat.testBit_or, Nat.testBit_and, Nat.testBit_and, Nat.testBit_and, Nat.testBit_and, Nat.testBit_and, bm, gpz_2 h, gpb_2 h, gpz_1 h, gpb_1 h, slz_g hp]
    exact gs2 _ (gpz_lt _ _ _ _ _) _ (gpb_lt _ _ _ _ _) _
  have c1 : nI ((u ||| w) &&& ((x ||| y) ||| sh) ||| (u ||| w) &&& (((x ||| y) ||| sh) * 2 ^ 1)) = 0 ↔ slw n sh a b ≤ 0 := by
    rw [z_bits (Nat.or_lt_two_pow (ml _) (ml _)) (by omega), slw, mxz_le]
    refine forall_congr' fun p => forall_congr' fun hp => ?_
    rw [Nat.testBit_or, Nat.testBit_and, Nat.testBit_and, bm, gpz_1 h, gpb_1 h, slz_g hp]
    exact gs1 _ (gpz_lt _ _ _ _ _) _ (gpb_lt _ _ _ _ _) _
  simp only [c4, c3, c2, c1]
  have := slw_le4 n sh a b
  rcases (show slw n sh a b = 0 ∨ slw n sh a b = 1 ∨ slw n sh a b = 2 ∨ slw n sh a b = 3 ∨ slw n sh a b = 4 by omega) with e | e | e | e | e <;> rw [e] <;> rfl
theorem nz1 : ∀ gl a0 b0 gr a1 b1 a2 b2 : Bool, (!(decide (mv4 a2 b2 ≠ 0)) && ((gl && (b0 && !a0)) && ((b1 && !a1) && !gr) || (gl && (a0 && !b0)) && ((a1 && !b1) && !gr))) = false ↔ (if mv4 a2 b2 = 0 then ((if gl = true then mv4 a0 b0 else 0) + (if gr = false then mv4 a1 b1 else 0)).natAbs else 0) ≤ 1 := by decide
theorem nz0 : ∀ gl a0 b0 gr a1 b1 a2 b2 : Bool, (if mv4 a2 b2 = 0 then ((if gl = true then mv4 a0 b0 else 0) + (if gr = false then mv4 a1 b1 else 0)).natAbs else 0) ≤ 1 → ((!(decide (mv4 a2 b2 ≠ 0)) && (((gl && (b0 && !a0)) || (gl && (a0 && !b0))) ^^ (((b1 && !a1) && !gr) || ((a1 && !b1) && !gr)))) = false ↔ (if mv4 a2 b2 = 0 then ((if gl = true then mv4 a0 b0 else 0) + (if gr = false then mv4 a1 b1 else 0)).natAbs else 0) ≤ 0) := by decide
theorem nz2 : ∀ gl a0 b0 gr a1 b1 a2 b2 : Bool, (if mv4 a2 b2 = 0 then ((if gl = true then mv4 a0 b0 else 0) + (if gr = false then mv4 a1 b1 else 0)).natAbs else 0) ≤ 2 := by decide
theorem nz_form {n sh a b p : Nat} (ha : a < 2 ^ n) (hb : b < 2 ^ n) : nzD n sh (mvz a b) p = if mv4 (a.testBit p) (b.testBit p) = 0 then ((if (decide (1 ≤ p) && !sh.testBit (p - 1)) = true then mv4 (a.testBit (p - 1)) (b.testBit (p - 1)) else 0) + (if sh.testBit p = false then mv4 (a.testBit (p + 1)) (b.testBit (p + 1)) else 0)).natAbs else 0 := by
  unfold nzD
  rw [mvz_4, mvz_4, mvz_4]
  have e1 : (if 0 < p ∧ sh.testBit (p - 1) = false then mv4 (a.testBit (p - 1)) (b.testBit (p - 1)) else 0) = if (decide (1 ≤ p) && !sh.testBit (p - 1)) = true then mv4 (a.testBit (p - 1)) (b.testBit (p - 1)) else 0 := by
    by_cases g : 0 < p
    · rw [decide_eq_true (show 1 ≤ p by omega)]
      cases sh.testBit (p - 1)
      · rw [if_pos ⟨g, rfl⟩]; rfl
      · rw [if_neg (fun z => by cases z.2)]; rfl
    · rw [if_neg (fun z => g z.1), decide_eq_false (show ¬ 1 ≤ p by omega)]; rfl
  have e2 : (if p + 1 < n ∧ sh.testBit p = false then mv4 (a.testBit (p + 1)) (b.testBit (p + 1)) else 0) = if sh.testBit p = false then mv4 (a.testBit (p + 1)) (b.testBit (p + 1)) else 0 := by
    by_cases g : p + 1 < n
    · by_cases g2 : sh.testBit p = false
      · rw [if_pos ⟨g, g2⟩, if_pos g2]
      · rw [if_neg (fun z => g2 z.2), if_neg g2]
    · rw [if_neg (fun z => g z.1), bit_hi ha (by omega), bit_hi hb (by omega)]
      split <;> rfl
  rw [e1, e2]
theorem C_noise_e {F n sh a b u w x y : Nat} {S : St} (n8 : n ≤ 8) (ha : a < 2 ^ n) (hb : b < 2 ^ n) (h : CV S n sh a b u w x y) : C_noise F S = some (nI (mxz (nzD n sh (mvz a b)) n)) := by
  obtain ⟨h0, h1, h2, h3, h4, h5, h6, lu, lw, lx, ly, ls, bu, bw, bx, by'⟩ := id h
  have hp := pw_hi n8
  have hm : u ||| w < 2 ^ n := Nat.or_lt_two_pow lu lw
  have hun : nd u sh < 2 ^ n := nd_lt lu
  have hwn : nd w sh < 2 ^ n := nd_lt lw
  have hst : nd (2 ^ n - 1) (u ||| w) < 2 ^ n := nd_lt (by have := Nat.two_pow_pos n; omega)
  have bm : ∀ p, (u ||| w).testBit p = decide (mvz a b p ≠ 0) := fun p => by rw [Nat.testBit_or, bu, bw, mvz_4, bx0]
  have al : ∀ {z r : Nat}, z < 2 ^ n → z &&& r < 2 ^ n := fun hz => Nat.lt_of_le_of_lt Nat.and_le_left hz
  unfold C_noise
  rw [h0, h1, h2, h3, h4]
  simp only [bnd_e]
  rw [jshr1 (by omega), jshr1 (by omega), nd_e, nd_e, nd_e, nd_e, nd_e, jshl1 (by omega), jshl1 (by omega), ni_and, ni_and, ni_or, ni_and, ni_or, ni_or, ni_xor, ni_and]
  have b1 : ∀ p, p < n → (nd (2 ^ n - 1) (u ||| w)).testBit p = !decide (mv4 (a.testBit p) (b.testBit p) ≠ 0) := fun p hp => by
    rw [nd_bit (by omega), Nat.testBit_two_pow_sub_one, decide_eq_true hp, bm, mvz_4, Bool.true_and]
  have b2 : ∀ p, (nd u sh * 2 ^ 1).testBit p = ((decide (1 ≤ p) && !sh.testBit (p - 1)) && (b.testBit (p - 1) && !a.testBit (p - 1))) := fun p => by
    rw [Nat.testBit_mul_two_pow, nd_bit (by omega), bu]
    cases decide (1 ≤ p) <;> cases sh.testBit (p - 1) <;> cases a.testBit (p - 1) <;> cases b.testBit (p - 1) <;> rfl
  have b4 : ∀ p, (nd w sh * 2 ^ 1).testBit p = ((decide (1 ≤ p) && !sh.testBit (p - 1)) && (a.testBit (p - 1) && !b.testBit (p - 1))) := fun p => by
    rw [Nat.testBit_mul_two_pow, nd_bit (by omega), bw]
    cases decide (1 ≤ p) <;> cases sh.testBit (p - 1) <;> cases a.testBit (p - 1) <;> cases b.testBit (p - 1) <;> rfl
  have b3 : ∀ p, (nd (u / 2) sh).testBit p = ((b.testBit (p + 1) && !a.testBit (p + 1)) && !sh.testBit p) := fun p => by
    rw [nd_bit (by omega), Nat.testBit_div_two, bu]
  have b5 : ∀ p, (nd (w / 2) sh).testBit p = ((a.testBit (p + 1) && !b.testBit (p + 1)) && !sh.testBit p) := fun p => by
    rw [nd_bit (by omega), Nat.testBit_div_two, bw]
  have k1 : nI (nd (2 ^ n - 1) (u ||| w) &&& (nd u sh * 2 ^ 1 &&& nd (u / 2) sh ||| nd w sh * 2 ^ 1 &&& nd (w / 2) sh)) = 0 ↔ mxz (nzD n sh (mvz a b)) n ≤ 1 := by
    rw [z_bits (al hst) (by omega), mxz_le]
    refine forall_congr' fun p => forall_congr' fun hp => ?_
    rw [Nat.testBit_and, Nat.testBit_or, Nat.testBit_and, Nat.testBit_and, b1 p hp, b2, b3, b4, b5, nz_form ha hb]
    exact nz1 _ _ _ _ _ _ _ _
  by_cases g : mxz (nzD n sh (mvz a b)) n ≤ 1
  · rw [if_pos (k1.mpr g)]
    have k0 : nI (nd (2 ^ n - 1) (u ||| w) &&& ((nd u sh * 2 ^ 1 ||| nd w sh * 2 ^ 1) ^^^ (nd (u / 2) sh ||| nd (w / 2) sh))) = 0 ↔ mxz (nzD n sh (mvz a b)) n ≤ 0 := by
      rw [z_bits (al hst) (by omega), mxz_le]
      refine forall_congr' fun p => forall_congr' fun hp => ?_
      have g1 := (mxz_le _ _ _).mp g p hp
      rw [nz_form ha hb] at g1
      rw [Nat.testBit_and, Nat.testBit_xor, Nat.testBit_or, Nat.testBit_or, b1 p hp, b2, b3, b4, b5, nz_form ha hb]
      exact nz0 _ _ _ _ _ _ _ _ g1
    by_cases g0 : mxz (nzD n sh (mvz a b)) n ≤ 0
    · rw [if_pos (k0.mpr g0), show mxz (nzD n sh (mvz a b)) n = 0 by omega]
      rfl
    · rw [if_neg (fun z => g0 (k0.mp z)), show mxz (nzD n sh (mvz a b)) n = 1 by omega]
      rfl
  · rw [if_neg (fun z => g (k1.mp z))]
    have : mxz (nzD n sh (mvz a b)) n ≤ 2 := (mxz_le _ _ _).mpr fun p _ => by
      rw [nz_form ha hb]
      exact nz2 _ _ _ _ _ _ _ _
    rw [show mxz (nzD n sh (mvz a b)) n = 2 by omega]
    rfl
theorem C_againstOver_e {F n sh a b u w x y p : Nat} {S : St} (n8 : n ≤ 8) (h : CV S n sh a b u w x y) (hp : p < n) : C_againstOver F S (nI p) = some (nI (gpz n sh a b p)) := by
  obtain ⟨h0, h1, h2, h3, h4, h5, h6, lu, lw, lx, ly, ls, bu, bw, bx, by'⟩ := id h
  have hw := pw_hi n8
  have hp2 : 2 ^ (n - 1) ≤ 2 ^ n := Nat.pow_le_pow_right (by decide) (by omega)
  have lxs : x ||| sh < 2 ^ n := Nat.or_lt_two_pow lx (by omega)
  have e1 := gpz_1 h p
  have e2 := gpz_2 h p
  have e3 := gpz_lt n sh a b p
  unfold C_againstOver
  rw [h4, h5, h6, ni_or, jbit_n (by omega) (by omega), jbit_n (by omega) (by omega)]
  by_cases g : y.testBit p = true
  · rw [if_pos g, if_neg (by decide)]
    rw [g] at e2
    rw [of_decide_eq_true e2.symm]
    rfl
  · have g' : y.testBit p = false := Bool.eq_false_iff.mpr g
    rw [if_neg g, if_pos (by decide)]
    have e4 : (x ||| sh).testBit p = decide (1 ≤ gpz n sh a b p) := by
      rw [← e1, Nat.testBit_or, Nat.testBit_or, Nat.testBit_or, g', Bool.or_false]
    have e5 : ¬ gpz n sh a b p = 2 := fun z => by
      rw [g', z] at e2
      cases e2
    rw [e4]
    by_cases g2 : 1 ≤ gpz n sh a b p
    · rw [decide_eq_true g2, show gpz n sh a b p = 1 by omega]
      rfl
    · rw [decide_eq_false g2, show gpz n sh a b p = 0 by omega]
      rfl
theorem C_slowAt_e {F n sh a b u w x y p : Nat} {S : St} (n8 : n ≤ 8) (h : CV S n sh a b u w x y) (hp : p < n) : C_slowAt F S (nI p) = some (nI (slz n sh a b p)) := by
  obtain ⟨h0, h1, h2, h3, h4, h5, h6, lu, lw, lx, ly, ls, bu, bw, bx, by'⟩ := id h
  have hw := pw_hi n8
  have hm : u ||| w < 2 ^ n := Nat.or_lt_two_pow lu lw
  have bm : (u ||| w).testBit p = decide (mvz a b p ≠ 0) := by rw [Nat.testBit_or, bu, bw, mvz_4, bx0]
  unfold C_slowAt
  rw [h3, jbit_n (by omega) (by omega), bm, slz_g hp]
  by_cases g : mvz a b p ≠ 0
  · rw [decide_eq_true g, if_pos rfl, if_neg (by decide), if_pos rfl, C_againstOver_e n8 h hp, crd_s, jn_e, gpb]
    by_cases g1 : 1 ≤ p
    · have e : nI p - 1 = nI (p - 1) := pk_sub (a := p) (b := 1) g1
      rw [if_pos g1, if_pos (show (0 : Int32) < nI p from (nI_ltI (a := 0) (by omega) (by omega)).mpr (by omega)), e, C_againstOver_e n8 h (by omega), crd_s]
      exact congrArg some (nI_add _ _)
    · have e : p = 0 := by omega
      subst e
      rw [if_neg g1, if_neg (by decide)]
      exact congrArg some (nI_add _ 0)
  · rw [decide_eq_false g]
    rfl
