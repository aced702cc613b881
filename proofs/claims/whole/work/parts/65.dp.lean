/-! B: best: least costs over sets, pure -/
def rmk (n : Nat) (r : Nat → Nat) : Nat → Nat
  | 0 => 2 ^ n - 1
  | i + 1 => nd (rmk n r i) (2 ^ r i)
theorem rmk_lt {n : Nat} {r : Nat → Nat} : ∀ i, rmk n r i < 2 ^ n
  | 0 => pw_m1 n
  | i + 1 => nd_lt (rmk_lt i)
theorem nd1_bit {m a v : Nat} (h : m < 2 ^ 32) : (nd m (2 ^ a)).testBit v = (m.testBit v && !decide (v = a)) := by
  rw [nd_bit h, Nat.testBit_two_pow]
  congr 2
  exact decide_eq_decide.mpr ⟨fun z => z.symm, fun z => z.symm⟩
theorem p32 {n x : Nat} (n8 : n ≤ 8) (h : x < 2 ^ n) : x < 2 ^ 32 := by
  have := pw_hi n8
  omega
theorem rmk_bit {n : Nat} {r : Nat → Nat} (n8 : n ≤ 8) {v : Nat} : ∀ i, (rmk n r i).testBit v = true ↔ v < n ∧ ∀ j, j < i → r j ≠ v
  | 0 => by
    rw [rmk, Nat.testBit_two_pow_sub_one, decide_eq_true_iff]
    exact ⟨fun h => ⟨h, fun j hj => absurd hj (Nat.not_lt_zero j)⟩, fun h => h.1⟩
  | i + 1 => by
    rw [rmk, nd1_bit (p32 n8 (rmk_lt i)), Bool.and_eq_true, rmk_bit n8 i, Bool.not_eq_true', decide_eq_false_iff_not]
    constructor
    · rintro ⟨⟨h1, h2⟩, h3⟩
      refine ⟨h1, fun j hj e => ?_⟩
      by_cases g : j = i
      · rw [g] at e; exact h3 e.symm
      · exact h2 j (by omega) e
    · rintro ⟨h1, h2⟩
      exact ⟨⟨h1, fun j hj => h2 j (by omega)⟩, fun e => h2 i (by omega) e.symm⟩
theorem rmk_cong {n : Nat} {p r : Nat → Nat} : ∀ {i : Nat}, (∀ j, j < i → p j = r j) → rmk n p i = rmk n r i
  | 0, _ => rfl
  | i + 1, h => by rw [rmk, rmk, rmk_cong (fun j hj => h j (by omega)), h i (by omega)]
theorem pc_nd1 {m a : Nat} (h : m < 2 ^ 8) (ha : m.testBit a = true) : pc (nd m (2 ^ a)) 16 + 1 = pc m 16 := by
  have a8 : a < 8 := bit_lt h ha
  have e : pc (nd m (2 ^ a)) 16 = fb_ct (kpD (fun t => m.testBit t) a) 16 := fb_ct_cong fun k _ => by
    rw [nd1_bit (by omega)]
    rfl
  rw [e]
  exact kpD_ct (by omega) ha
theorem pc_full {n : Nat} (n8 : n ≤ 8) : pc (2 ^ n - 1) 16 = n := by
  rw [pc_cut (k := n) (by omega) (fun i hi => bit_hi (pw_m1 n) hi)]
  exact fb_ct_all.mpr fun k hk => by rw [Nat.testBit_two_pow_sub_one]; exact decide_eq_true hk
theorem lt8 {n x : Nat} (n8 : n ≤ 8) (h : x < 2 ^ n) : x < 2 ^ 8 := by
  have := pw_hi n8
  omega
theorem pc_pos {x : Nat} (h : x < 2 ^ 8) : 0 < pc x 16 ↔ x ≠ 0 := by
  constructor
  · intro g e
    rw [e] at g
    exact absurd g (by decide)
  · intro g
    refine Nat.pos_of_ne_zero fun e => g (Nat.eq_of_testBit_eq fun i => ?_)
    rw [Nat.zero_testBit]
    by_cases hi : i < 16
    · exact fb_ct_zero.mp e i hi
    · exact bit_hi h (by omega)
/-- T holds the least costs from each place through each set -/
def dpT (n : Nat) (W T : Nat → Nat → Nat) : Prop := ∀ m a, m < 2 ^ n → m.testBit a = true → (nd m (2 ^ a) = 0 → T m a = 0) ∧ (nd m (2 ^ a) ≠ 0 → (∀ b, (nd m (2 ^ a)).testBit b = true → T m a ≤ W a b + T (nd m (2 ^ a)) b) ∧ ∃ b, (nd m (2 ^ a)).testBit b = true ∧ T m a = W a b + T (nd m (2 ^ a)) b)
/-- the last k steps of an order -/
def scr (n : Nat) (W : Nat → Nat → Nat) (r : Nat → Nat) : Nat → Nat
  | 0 => 0
  | k + 1 => W (r (n - 2 - k)) (r (n - 2 - k + 1)) + scr n W r k
def tot (n : Nat) (W : Nat → Nat → Nat) (r : Nat → Nat) : Nat := fb_sm (fun i => W (r i) (r (i + 1))) (n - 1)
theorem tot_split {n : Nat} {W : Nat → Nat → Nat} {r : Nat → Nat} : ∀ k, k + 1 ≤ n → tot n W r = fb_sm (fun i => W (r i) (r (i + 1))) (n - 1 - k) + scr n W r k
  | 0, _ => by rw [scr]; rfl
  | k + 1, h => by
    rw [tot_split k (by omega), scr, show n - 1 - k = (n - 1 - (k + 1)) + 1 by omega, fb_sm_succ, show n - 1 - (k + 1) = n - 2 - k by omega]
    omega
theorem rmk_last {n : Nat} {r : Nat → Nat} (n8 : n ≤ 8) (hr : Pm n r) : rmk n r n = 0 := by
  refine Nat.eq_of_testBit_eq fun v => ?_
  rw [Nat.zero_testBit]
  cases e : (rmk n r n).testBit v
  · rfl
  · obtain ⟨h1, h2⟩ := (rmk_bit n8 n).mp e
    obtain ⟨i, i1, i2⟩ := Pm_onto hr h1
    exact absurd i2 (h2 i i1)
theorem rmk_in {n i : Nat} {r : Nat → Nat} (n8 : n ≤ 8) (hr : Pm n r) (hi : i < n) : (rmk n r i).testBit (r i) = true := (rmk_bit n8 i).mpr ⟨hr.1 i hi, fun j hj e => by
  have := hr.2 j i (by omega) hi e
  omega⟩
theorem low_bd {n : Nat} {W T : Nat → Nat → Nat} {r : Nat → Nat} (n8 : n ≤ 8) (hT : dpT n W T) (hr : Pm n r) : ∀ k, k + 1 ≤ n → T (rmk n r (n - 1 - k)) (r (n - 1 - k)) ≤ scr n W r k
  | 0, h => by
    have hi := rmk_in n8 hr (show n - 1 < n by omega)
    obtain ⟨a, -⟩ := hT _ _ (rmk_lt (r := r) (n - 1)) hi
    have e : nd (rmk n r (n - 1)) (2 ^ r (n - 1)) = 0 := by
      have := rmk_last n8 hr
      rw [show n = n - 1 + 1 by omega, rmk, show n - 1 + 1 = n by omega] at this
      exact this
    rw [Nat.sub_zero, a e]
    exact Nat.zero_le _
  | k + 1, h => by
    have ih := low_bd n8 hT hr k (by omega)
    have hi := rmk_in n8 hr (show n - 1 - (k + 1) < n by omega)
    have hi1 := rmk_in n8 hr (show n - 1 - k < n by omega)
    have er : rmk n r (n - 1 - k) = nd (rmk n r (n - 1 - (k + 1))) (2 ^ r (n - 1 - (k + 1))) := by
      rw [show n - 1 - k = n - 1 - (k + 1) + 1 by omega, rmk]
    obtain ⟨-, b⟩ := hT _ _ (rmk_lt (r := r) (n - 1 - (k + 1))) hi
    rw [er] at hi1 ih
    have nz : nd (rmk n r (n - 1 - (k + 1))) (2 ^ r (n - 1 - (k + 1))) ≠ 0 := fun z => by
      rw [z, Nat.zero_testBit] at hi1; cases hi1
    have c := (b nz).1 _ hi1
    rw [scr, show n - 2 - k = n - 1 - (k + 1) by omega, show n - 1 - (k + 1) + 1 = n - 1 - k by omega]
    omega
def ccP (n : Nat) (T : Nat → Nat → Nat) (Y : Nat) (P : Nat → Nat) (j : Nat) : Nat := if j = 0 then Y else T (rmk n P (j - 1)) (P (j - 1))
def vvP (n : Nat) (W T : Nat → Nat → Nat) (P : Nat → Nat) (j v : Nat) : Nat := (if j = 0 then 0 else W (P (j - 1)) v) + T (rmk n P j) v
def GG (n : Nat) (W T : Nat → Nat → Nat) (Y : Nat) (P : Nat → Nat) (j : Nat) : Prop := (rmk n P j).testBit (P j) = true ∧ vvP n W T P j (P j) = ccP n T Y P j ∧ ∀ v, (rmk n P j).testBit v = true → ccP n T Y P j ≤ vvP n W T P j v ∧ (v < P j → vvP n W T P j v ≠ ccP n T Y P j)
def HM (n : Nat) (W T : Nat → Nat → Nat) (Y : Nat) (P : Nat → Nat) (j : Nat) : Prop := (∀ v, (rmk n P j).testBit v = true → ccP n T Y P j ≤ vvP n W T P j v) ∧ ∃ v, (rmk n P j).testBit v = true ∧ vvP n W T P j v = ccP n T Y P j
theorem ccP_cong {n Y j : Nat} {T : Nat → Nat → Nat} {P Q : Nat → Nat} (h : ∀ t, t < j → P t = Q t) : ccP n T Y P j = ccP n T Y Q j := by
  unfold ccP
  by_cases g : j = 0
  · rw [if_pos g, if_pos g]
  · rw [if_neg g, if_neg g, rmk_cong (fun t ht => h t (by omega)), h (j - 1) (by omega)]
theorem vvP_cong {n j v : Nat} {W T : Nat → Nat → Nat} {P Q : Nat → Nat} (h : ∀ t, t < j → P t = Q t) : vvP n W T P j v = vvP n W T Q j v := by
  unfold vvP
  rw [rmk_cong h]
  by_cases g : j = 0
  · rw [if_pos g, if_pos g]
  · rw [if_neg g, if_neg g, h (j - 1) (by omega)]
theorem GG_cong {n Y j : Nat} {W T : Nat → Nat → Nat} {P Q : Nat → Nat} (h : ∀ t, t < j + 1 → P t = Q t) (g : GG n W T Y P j) : GG n W T Y Q j := by
  have h' : ∀ t, t < j → P t = Q t := fun t ht => h t (by omega)
  obtain ⟨g1, g2, g3⟩ := g
  unfold GG
  rw [← rmk_cong h', ← h j (by omega), ← ccP_cong h', ← vvP_cong h']
  exact ⟨g1, g2, fun v hv => by rw [← vvP_cong h']; exact g3 v hv⟩
theorem HM_cong {n Y j : Nat} {W T : Nat → Nat → Nat} {P Q : Nat → Nat} (h : ∀ t, t < j → P t = Q t) (g : HM n W T Y P j) : HM n W T Y Q j := by
  obtain ⟨g1, v, g2, g3⟩ := g
  refine ⟨fun v hv => ?_, v, ?_, ?_⟩
  · rw [← rmk_cong h] at hv
    rw [← ccP_cong h, ← vvP_cong h]
    exact g1 v hv
  · rw [← rmk_cong h]; exact g2
  · rw [← ccP_cong h, ← vvP_cong h]; exact g3
theorem pc_rmk {n Y : Nat} {W T : Nat → Nat → Nat} {P : Nat → Nat} (n8 : n ≤ 8) : ∀ i, i ≤ n → (∀ j, j < i → GG n W T Y P j) → pc (rmk n P i) 16 + i = n
  | 0, _, _ => by
    rw [rmk, Nat.add_zero]
    exact pc_full n8
  | i + 1, h, hg => by
    have ih := pc_rmk n8 i (by omega) (fun j hj => hg j (by omega))
    have := pc_nd1 (lt8 n8 (rmk_lt i)) (hg i (by omega)).1
    rw [rmk]
    omega
theorem HM_next {n Y i : Nat} {W T : Nat → Nat → Nat} {P : Nat → Nat} (n8 : n ≤ 8) (hT : dpT n W T) (hi : i + 1 < n) (hg : ∀ j, j < i + 1 → GG n W T Y P j) : HM n W T Y P (i + 1) := by
  have pc1 := pc_rmk n8 (i + 1) (by omega) hg
  have nz : rmk n P (i + 1) ≠ 0 := (pc_pos (lt8 n8 (rmk_lt _))).mp (by omega)
  obtain ⟨-, b⟩ := hT _ _ (rmk_lt (r := P) i) (hg i (by omega)).1
  obtain ⟨b1, v, b2, b3⟩ := b nz
  have ec : ccP n T Y P (i + 1) = T (rmk n P i) (P i) := by
    unfold ccP
    rw [if_neg (by omega)]
    rfl
  have ev : ∀ v, vvP n W T P (i + 1) v = W (P i) v + T (rmk n P (i + 1)) v := fun v => by
    unfold vvP
    rw [if_neg (by omega)]
    rfl
  unfold HM
  rw [ec]
  exact ⟨fun v hv => by rw [ev]; exact b1 v hv, v, b2, by rw [ev]; exact b3.symm⟩
/-- an order made greedily is the first of the cheapest -/
theorem greedy_best {n Y : Nat} {W T : Nat → Nat → Nat} {P : Nat → Nat} (n2 : 2 ≤ n) (n8 : n ≤ 8) (hT : dpT n W T) (hg : ∀ j, j < n → GG n W T Y P j) : Pm n P ∧ tot n W P = Y ∧ ∀ r, Pm n r → Y ≤ tot n W r ∧ (tot n W r = Y → ¬ lxp n r P) := by
  have hP : Pm n P := by
    refine ⟨fun i hi => ((rmk_bit n8 i).mp (hg i hi).1).1, fun i j hi hj e => ?_⟩
    rcases Nat.lt_trichotomy i j with c | c | c
    · exact absurd e (((rmk_bit n8 j).mp (hg j hj).1).2 i c)
    · exact c
    · exact absurd e.symm (((rmk_bit n8 i).mp (hg i hi).1).2 j c)
  -- the cost behind each place of P is what T says
  have eq : ∀ k, k + 1 ≤ n → T (rmk n P (n - 1 - k)) (P (n - 1 - k)) = scr n W P k := by
    intro k
    induction k with
    | zero =>
      intro h
      have := low_bd n8 hT hP 0 h
      rw [scr] at this ⊢
      omega
    | succ k ih =>
      intro h
      have a := (hg (n - 1 - k) (by omega)).2.1
      unfold vvP ccP at a
      rw [if_neg (by omega), if_neg (by omega), ih (by omega), show n - 1 - k - 1 = n - 1 - (k + 1) by omega] at a
      rw [scr, show n - 2 - k = n - 1 - (k + 1) by omega, show n - 1 - (k + 1) + 1 = n - 1 - k by omega]
      omega
  have t0 : ∀ r, tot n W r = scr n W r (n - 1) := fun r => by
    have := tot_split (n := n) (W := W) (r := r) (n - 1) (by omega)
    rw [Nat.sub_self] at this
    rw [this]
    exact Nat.zero_add _
  have g0 := hg 0 (by omega)
  unfold GG ccP vvP at g0
  rw [if_pos rfl, if_pos rfl, Nat.zero_add] at g0
  have e0 := eq (n - 1) (by omega)
  rw [Nat.sub_self] at e0
  have tP : tot n W P = Y := by rw [t0, ← e0, g0.2.1]
  refine ⟨hP, tP, fun r hr => ?_⟩
  have lb := low_bd n8 hT hr
  have l0 := lb (n - 1) (by omega)
  rw [Nat.sub_self] at l0
  have in0 := rmk_in n8 hr (show 0 < n by omega)
  have m0 : rmk n r 0 = rmk n P 0 := rfl
  rw [m0] at in0 l0
  refine ⟨?_, fun htr hlx => ?_⟩
  · have := (g0.2.2 (r 0) in0).1
    rw [if_pos rfl, Nat.zero_add] at this
    rw [t0]
    omega
  · obtain ⟨k, k1, k2, k3⟩ := hlx
    have em : rmk n r k = rmk n P k := rmk_cong k3
    have ink := rmk_in n8 hr k1
    rw [em] at ink
    obtain ⟨q1, q2⟩ := (hg k k1).2.2 (r k) ink
    have q3 := q2 k2
    have lk := lb (n - 1 - k) (by omega)
    rw [show n - 1 - (n - 1 - k) = k by omega, em] at lk
    have sr := tot_split (n := n) (W := W) (r := r) (n - 1 - k) (by omega)
    rw [show n - 1 - (n - 1 - k) = k by omega] at sr
    by_cases g : k = 0
    · subst g
      unfold vvP ccP at q1 q3
      rw [if_pos rfl, if_pos rfl, Nat.zero_add] at q1 q3
      have : fb_sm (fun i => W (r i) (r (i + 1))) 0 = 0 := rfl
      omega
    · obtain ⟨u, rfl⟩ : ∃ u, k = u + 1 := ⟨k - 1, by omega⟩
      unfold vvP ccP at q1 q3
      rw [if_neg (by omega), if_neg (by omega), show u + 1 - 1 = u by omega] at q1 q3
      have sP := tot_split (n := n) (W := W) (r := P) (n - 1 - u) (by omega)
      rw [show n - 1 - (n - 1 - u) = u by omega] at sP
      have eu := eq (n - 1 - u) (by omega)
      rw [show n - 1 - (n - 1 - u) = u by omega] at eu
      have pre : fb_sm (fun i => W (r i) (r (i + 1))) u = fb_sm (fun i => W (P i) (P (i + 1))) u := fb_sm_cong fun i hi => by rw [k3 i (by omega), k3 (i + 1) (by omega)]
      have ss : fb_sm (fun i => W (r i) (r (i + 1))) (u + 1) = fb_sm (fun i => W (r i) (r (i + 1))) u + W (r u) (r (u + 1)) := fb_sm_succ _ _
      rw [k3 u (by omega)] at ss
      omega
