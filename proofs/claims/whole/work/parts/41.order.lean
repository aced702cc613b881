/-! B: order -/
def odg (x p : Nat) : Nat := x / 10 ^ p % 10
def odL (n : Nat) : Nat → Nat → Nat → Option (Nat × Nat)
  | 0, a, x => some (a, x)
  | k + 1, a, x => if x % 10 < n then odL n k (a ||| 2 ^ (x % 10)) (x / 10) else none
theorem odg_0 (x : Nat) : odg x 0 = x % 10 := by unfold odg; rw [Nat.pow_zero, Nat.div_one]
theorem odg_s (x p : Nat) : odg x (p + 1) = odg (x / 10) p := by
  unfold odg
  rw [Nat.div_div_eq_div_mul, Nat.pow_succ, Nat.mul_comm 10]
theorem jr10 {x : Nat} (h : x < 2 ^ 31) : jrem (nI x) 10 = nI (x % 10) := pk_rem (a := x) (d := 10) h (by decide) (by decide)
theorem jd10 {x : Nat} (h : x < 2 ^ 31) : nI x / 10 = nI (x / 10) := pk_div (a := x) (d := 10) h (by decide) (by decide)
theorem P_isOrder_loop {F P n : Nat} {S : St} {k1 : Int32 → Int32 → Option Int32} (hn : n ≤ 8) (hs : S.1 P 0 = nI n) : ∀ (k i m a x : Nat), x < 2 ^ 31 → i + k = n → k < m → P_isOrder_L7 F P S k1 m (nI a) (nI x) (nI i) = match odL n k a x with
    | none => some 0
    | some r => k1 (nI r.1) (nI r.2)
  | 0, i, m + 1, a, x, hx, hi, hm => by
    rw [P_isOrder_L7, hs, if_neg (by rw [nI_ltI (by omega) (by omega)]; omega)]
    rfl
  | k + 1, i, m + 1, a, x, hx, hi, hm => by
    have hx2 : x % 10 < 10 := Nat.mod_lt _ (by decide)
    rw [P_isOrder_L7, hs, if_pos (by rw [nI_ltI (by omega) (by omega)]; omega), bnd_e, bnd_e, jr10 hx, jd10 hx, P_isWire_e P hn hs, crd_s, n_i (by omega), i10, odL]
    by_cases g : x % 10 < n
    · rw [if_pos ⟨by omega, by omega⟩, if_pos g, bnd_e, bnd_e, pw_n _ (by omega), ni_or, nI_1]
      exact P_isOrder_loop hn hs k (i + 1) m _ _ (by omega) (by omega) (by omega)
    · rw [if_neg (by omega), if_neg g]
def odF (S : St) (q : Nat) : Nat → Nat → St
  | 0, _ => S
  | k + 1, x => odF (sI S q k (nI (x % 10))) q k (x / 10)
theorem odF_row (q a : Nat) (h : a ≠ q) : ∀ (k x : Nat) (S : St), (odF S q k x).1 a = S.1 a
  | 0, _, _ => rfl
  | k + 1, x, S => by rw [odF, odF_row q a h k, sI_row _ _ _ _ _ h]
theorem odF_2 (q : Nat) : ∀ (k x : Nat) (S : St), (odF S q k x).2 = S.2
  | 0, _, _ => rfl
  | k + 1, x, S => by rw [odF, odF_2 q k, sI_2]
theorem odF_hi (q j : Nat) : ∀ (k x : Nat) (S : St), k ≤ j → (odF S q k x).1 q j = S.1 q j
  | 0, _, _, _ => rfl
  | k + 1, x, S, h => by rw [odF, odF_hi q j k _ _ (by omega), sI_at, if_neg (by omega)]
theorem odF_in (q j : Nat) : ∀ (k x : Nat) (S : St), j < k → (odF S q k x).1 q j = nI (odg x (k - 1 - j))
  | k + 1, x, S, h => by
    rw [odF]
    by_cases g : j = k
    · subst g
      rw [odF_hi q j j _ _ (Nat.le_refl _), sI_at, if_pos ⟨rfl, rfl⟩, show j + 1 - 1 - j = 0 by omega, odg_0]
    · rw [odF_in q j k _ _ (by omega), show k + 1 - 1 - j = (k - 1 - j) + 1 by omega, odg_s]
theorem lt_8 {k : Nat} (h : k < 8) : nI k < 8 := (nI_ltI (b := 8) (by omega) (by omega)).mpr h
theorem i_m1 (a : Int32) : a + (-1) = a - 1 := (Int32.sub_eq_add_neg a 1).symm
theorem P_reorder_loop {F P : Nat} : ∀ (k m x : Nat) (S : St), x < 2 ^ 31 → k ≤ 8 → k < m → P_reorder_L19 F P m S (nI x) (nI k - 1) = some (1, odF S (P + 1) k x)
  | 0, m + 1, x, S, hx, hk, hm => by
    rw [P_reorder_L19, if_pos (by rw [nI_0]; decide)]
    rfl
  | k + 1, m + 1, x, S, hx, hk, hm => by
    rw [P_reorder_L19, nI_pred, if_neg (nI_pos (by omega)), if_pos (lt_8 (by omega)), chk_n _ (by omega) (by omega), bnd_e, bnd_e, bnd_e, jr10 hx, jd10 hx, nI_clamp (by omega), i_m1]
    exact P_reorder_loop k m _ _ (by omega) (by omega) (by omega)
/-- a negative figure never gives an order -/
theorem P_isOrder_neg {F P n : Nat} {S : St} (hn : 2 ≤ n ∧ n ≤ 8) (hs : S.1 P 0 = nI n) : ∀ (k i m : Nat) (a x : Int32), (a = 0 ∨ a = 1) → x.toInt ≤ 0 → i + k = n → k < m → P_isOrder_L7 F P S (fun v2 v3 => jn (some 0) fun (J4 : Option Int32) => (if v3 = 0 then crd (P_words F P S) fun v5 => (if v2 = (v5 - 1) then some 1 else J4) else J4)) m a x (nI i) = some 0
  | 0, i, m + 1, a, x, ha, hx, hi, hm => by
    rw [P_isOrder_L7, hs, if_neg (by rw [nI_ltI (by omega) (by omega)]; omega), jn_e]
    have q : ∀ n, n < 9 → 2 ≤ n → ¬ (0 : Int32) = nI (2 ^ n) - 1 ∧ ¬ (1 : Int32) = nI (2 ^ n) - 1 := by decide +kernel
    have q2 := q n (by omega) hn.1
    unfold P_words
    rw [crd_s, hs, pw_n n (by omega)]
    by_cases g : x = 0
    · rw [if_pos g, if_neg (by rcases ha with rfl | rfl; exact q2.1; exact q2.2)]
    · rw [if_neg g]
  | k + 1, i, m + 1, a, x, ha, hx, hi, hm => by
    have d1 : (x / 10).toInt = x.toInt.tdiv 10 := by
      rw [Int32.toInt_div_of_ne_right _ _ (by decide)]
      rfl
    have d0 := i_lo x
    have d3 : x.toInt.tdiv 10 = -((-x.toInt) / 10) := by
      obtain ⟨w, hw⟩ : ∃ w : Nat, x.toInt = -(w : Int) := ⟨(-x.toInt).toNat, by omega⟩
      rw [hw, Int.neg_tdiv, Int.neg_neg]
      rw [Int.tdiv_eq_ediv_of_nonneg (by omega)]
    have d2 : (jrem x 10).toInt = x.toInt - x.toInt.tdiv 10 * 10 := by
      unfold jrem
      have m1 : (x / 10 * 10).toInt = x.toInt.tdiv 10 * 10 := by
        rw [imul (by rw [d1, show (10 : Int32).toInt = 10 by decide]; omega) (by rw [d1, show (10 : Int32).toInt = 10 by decide]; omega), d1]
        rfl
      rw [isub (by rw [m1]; omega) (by rw [m1]; omega), m1]
    rw [P_isOrder_L7, hs, if_pos (by rw [nI_ltI (by omega) (by omega)]; omega), bnd_e, bnd_e, P_isWire_e P hn.2 hs, crd_s, i10]
    by_cases g : 0 ≤ (jrem x 10).toInt ∧ (jrem x 10).toInt < (n : Int)
    · rw [if_pos g, bnd_e, bnd_e, nI_1]
      have z : jrem x 10 = 0 := by rw [ieq, c0]; omega
      rw [z]
      refine P_isOrder_neg hn hs k (i + 1) m _ _ ?_ (by omega) (by omega) (by omega)
      rcases ha with rfl | rfl
      · exact Or.inr (by decide)
      · exact Or.inr (by decide)
    · rw [if_neg g]

theorem odL_x (n : Nat) : ∀ (k a x : Nat) (r : Nat × Nat), odL n k a x = some r → (∀ j, j < k → odg x j < n) ∧ r.2 = x / 10 ^ k ∧ ∀ b, r.1.testBit b = true → a.testBit b = true ∨ ∃ j, j < k ∧ odg x j = b
  | 0, a, x, r, h => by
    cases h
    exact ⟨fun j hj => absurd hj (by omega), by simp, fun b hb => Or.inl hb⟩
  | k + 1, a, x, r, h => by
    rw [odL] at h
    by_cases g : x % 10 < n
    · rw [if_pos g] at h
      obtain ⟨h1, h2, h3⟩ := odL_x n k _ _ r h
      refine ⟨fun j hj => ?_, ?_, fun b hb => ?_⟩
      · cases j with
        | zero => rw [odg_0]; exact g
        | succ j => rw [odg_s]; exact h1 j (by omega)
      · rw [h2, Nat.div_div_eq_div_mul, Nat.pow_succ, Nat.mul_comm 10]
      · rcases h3 b hb with h4 | ⟨j, hj, h4⟩
        · rw [fb_bit_set] at h4
          by_cases e : b = x % 10
          · exact Or.inr ⟨0, by omega, by rw [odg_0, e]⟩
          · rw [decide_eq_false e, Bool.or_false] at h4
            exact Or.inl h4
        · exact Or.inr ⟨j + 1, by omega, by rw [odg_s, h4]⟩
    · rw [if_neg g] at h
      cases h
theorem odg_perm {n x : Nat} (h1 : ∀ j, j < n → odg x j < n) (h2 : ∀ b, b < n → ∃ j, j < n ∧ odg x j = b) : ∀ p q, p < n → q < n → odg x p = odg x q → p = q := by
  intro p q hp hq e
  have ex : ∀ b : Nat, ∃ j : Nat, b < n → (j < n ∧ odg x j = b) := fun b => by
    by_cases hb : b < n
    · obtain ⟨j, hj⟩ := h2 b hb
      exact ⟨j, fun _ => hj⟩
    · exact ⟨0, fun z => absurd z hb⟩
  have hg : ∀ b, b < n → (Classical.choose (ex b) < n ∧ odg x (Classical.choose (ex b)) = b) := fun b hb => Classical.choose_spec (ex b) hb
  have on : ∀ j, j < n → ∃ b, b < n ∧ Classical.choose (ex b) = j := fun j hj => fb_onto (f := fun b => Classical.choose (ex b)) (fun b hb => (hg b hb).1) (fun i j hij hj e2 => by
    have a1 := (hg i (by omega)).2
    have a2 := (hg j hj).2
    rw [e2, a2] at a1
    omega) hj
  obtain ⟨u, hu, eu⟩ := on p hp
  obtain ⟨w, hw, ew⟩ := on q hq
  have a1 := (hg u hu).2
  have a2 := (hg w hw).2
  rw [eu] at a1
  rw [ew] at a2
  have : u = w := by omega
  rw [← eu, ← ew, this]
theorem M_order_loop {F n : Nat} {k2 : St → Int32 → Int32 → Option (Int32 × St)} (hn : n ≤ 8) : ∀ (k m a x : Nat) (S : St), S.1 0 0 = nI n → x < 2 ^ 31 → k ≤ n → k < m → ∃ S', SqM S S' ∧ M_order_L18 F k2 m S (nI x) (nI a) (nI k - 1) = (match odL n k a x with
    | none => some (-1, S')
    | some r => k2 S' (nI r.2) (nI r.1)) ∧ (odL n k a x ≠ none → S' = odF S 6 k x)
  | 0, m + 1, a, x, S, hs, hx, hk, hm => by
    refine ⟨S, SqM.rf, ?_, fun _ => rfl⟩
    rw [M_order_L18, if_pos (by rw [nI_0]; decide)]
    rfl
  | k + 1, m + 1, a, x, S, hs, hx, hk, hm => by
    have hx2 : x % 10 < 10 := Nat.mod_lt _ (by decide)
    have hs2 : (sI S 6 k (nI (x % 10))).1 0 0 = nI n := by rw [sI_at, if_neg (by omega), hs]
    have sq : SqM S (sI S 6 k (nI (x % 10))) := ⟨fun j _ _ => by rw [sI_row _ _ _ _ _ (by omega)], fun a ha => sI_row _ _ _ _ _ (by omega)⟩
    have e0 : M_order_L18 F k2 (m + 1) S (nI x) (nI a) (nI (k + 1) - 1) = if x % 10 < n then M_order_L18 F k2 m (sI S 6 k (nI (x % 10))) (nI (x / 10)) (nI (a ||| 2 ^ (x % 10))) (nI k - 1) else some (-1, sI S 6 k (nI (x % 10))) := by
      rw [M_order_L18, nI_pred, if_neg (nI_pos (by omega)), chk_n _ (by omega) (by omega), bnd_e, bnd_e, jr10 hx, jd10 hx, nI_clamp (by omega), chk_n _ (by omega) (by omega), hs2, i_m1]
      rw [show (sI S 6 k (nI (x % 10))).1 6 k = nI (x % 10) by rw [sI_at, if_pos ⟨rfl, rfl⟩]]
      have lt := nI_ltI (a := x % 10) (b := n) (by omega) (by omega)
      by_cases g : x % 10 < n
      · rw [if_pos (lt.mpr g), if_pos g, chk_n _ (by omega) (by omega), bnd_e, bnd_e, pw_n _ (by omega), ni_or]
      · rw [if_neg (fun z => g (lt.mp z)), if_neg g]
    rw [e0, odL]
    by_cases g : x % 10 < n
    · rw [if_pos g, if_pos g]
      obtain ⟨S', h1, h2, h3⟩ := M_order_loop (F := F) (k2 := k2) hn k m (a ||| 2 ^ (x % 10)) (x / 10) _ hs2 (by omega) (by omega) (by omega)
      exact ⟨S', sq.tr h1, h2, h3⟩
    · rw [if_neg g, if_neg g]
      exact ⟨_, sq, rfl, fun z => absurd rfl z⟩
def odC (S : St) (n : Nat) : Nat → St
  | 0 => S
  | i + 1 => sI (odC S n i) 2 i (S.1 6 i)
theorem odC_row (S : St) (n a : Nat) (h : a ≠ 2) : ∀ i, (odC S n i).1 a = S.1 a
  | 0 => rfl
  | i + 1 => by rw [odC, sI_row _ _ _ _ _ h, odC_row S n a h i]
theorem odC_in (S : St) (n j : Nat) : ∀ i, j < i → (odC S n i).1 2 j = S.1 6 j
  | i + 1, h => by
    rw [odC, sI_at]
    by_cases g : j = i
    · rw [if_pos ⟨rfl, g⟩, g]
    · rw [if_neg (fun z => g z.2), odC_in S n j i (by omega)]
theorem M_order_L94_e {F n : Nat} {S : St} (hn : n ≤ 8) (hs : S.1 0 0 = nI n) : ∀ (k i m : Nat), i + k = n → k < m → M_order_L94 F m (odC S n i) (nI i) = some (1, odC S n n)
  | 0, i, m + 1, hi, hm => by
    rw [M_order_L94, odC_row S n 0 (by omega), hs, if_neg (by rw [nI_ltI (by omega) (by omega)]; omega), show i = n by omega]
  | k + 1, i, m + 1, hi, hm => by
    rw [M_order_L94, odC_row S n 0 (by omega), hs, if_pos (by rw [nI_ltI (by omega) (by omega)]; omega), chk_n _ (by omega) (by omega), chk_n _ (by omega) (by omega), bnd_e, bnd_e, nI_clamp (by omega), nI_1, odC_row S n 6 (by omega)]
    exact M_order_L94_e hn hs k (i + 1) m (by omega) (by omega)
/-- what an order of n wires is, as a number of ten figures -/
def odOk (n x : Nat) : Bool := decide (odL n n 0 x = some (2 ^ n - 1, 0))
theorem odOk_i (n x : Nat) : odOk n x = true ↔ odL n n 0 x = some (2 ^ n - 1, 0) := decide_eq_true_iff
theorem odOk_x {n x : Nat} (h : odOk n x = true) : (∀ j, j < n → odg x j < n) ∧ ∀ p q, p < n → q < n → odg x p = odg x q → p = q := by
  obtain ⟨h1, h2, h3⟩ := odL_x n n 0 x _ ((odOk_i n x).mp h)
  refine ⟨h1, odg_perm h1 fun b hb => ?_⟩
  rcases h3 b (by rw [Nat.testBit_two_pow_sub_one]; exact decide_eq_true hb) with g | g
  · rw [Nat.zero_testBit] at g
    cases g
  · exact g
theorem odL_hi (n : Nat) (hn : n ≤ 8) : ∀ (k a x : Nat) (r : Nat × Nat), a < 2 ^ n → odL n k a x = some r → r.1 < 2 ^ n ∧ r.2 ≤ x
  | 0, a, x, r, ha, h => by
    cases h
    exact ⟨ha, Nat.le_refl _⟩
  | k + 1, a, x, r, ha, h => by
    rw [odL] at h
    by_cases g : x % 10 < n
    · rw [if_pos g] at h
      have := odL_hi n hn k _ _ r (Nat.or_lt_two_pow ha (Nat.pow_lt_pow_right (by decide) g)) h
      exact ⟨this.1, by omega⟩
    · rw [if_neg g] at h
      cases h
theorem pw_1 {n : Nat} (hn : n ≤ 8) : nI (2 ^ n) - 1 = nI (2 ^ n - 1) := by
  have := Nat.two_pow_pos n
  rw [show (1 : Int32) = nI 1 from rfl, pk_sub (by omega)]
theorem P_isOrder_e {F P n : Nat} {S : St} {x : Nat} (hF : 20 ≤ F) (hn : 2 ≤ n ∧ n ≤ 8) (hs : S.1 P 0 = nI n) (hx : x < 2 ^ 31) : P_isOrder F P S (nI x) = some (if odOk n x = true then 1 else 0) := by
  have hp := pw_hi hn.2
  unfold P_isOrder
  simp only [odOk_i]
  have e := P_isOrder_loop (F := F) (k1 := fun v2 v3 => jn (some 0) fun (J4 : Option Int32) => (if v3 = 0 then crd (P_words F P S) fun v5 => (if v2 = (v5 - 1) then some 1 else J4) else J4)) hn.2 hs n 0 F 0 x hx (by omega) (by omega)
  rw [nI_0] at e
  rw [e]
  cases g : odL n n 0 x with
  | none => rw [if_neg (by rintro ⟨⟩)]
  | some r =>
    have hr := odL_hi n hn.2 n 0 x r (Nat.two_pow_pos n) g
    obtain ⟨r1, r2⟩ := r
    have h1 := hr.1
    have h2 := hr.2
    dsimp only at h1 h2 ⊢
    unfold P_words
    rw [jn_e, crd_s, hs, pw_n n (by omega), pw_1 hn.2]
    have q1 : nI r2 = 0 ↔ r2 = 0 := nI_eq (b := 0) (by omega) (by omega)
    have q2 := nI_eq (a := r1) (b := 2 ^ n - 1) (by omega) (by omega)
    by_cases g1 : r2 = 0
    · by_cases g2 : r1 = 2 ^ n - 1
      · rw [if_pos (q1.mpr g1), if_pos (q2.mpr g2), if_pos (by rw [g1, g2])]
      · rw [if_pos (q1.mpr g1), if_neg (fun z => g2 (q2.mp z)), if_neg (by intro z; cases z; exact g2 rfl)]
    · rw [if_neg (fun z => g1 (q1.mp z)), if_neg (by intro z; cases z; exact g1 rfl)]
theorem P_reorder_e {F P n : Nat} {S : St} {x : Nat} (hF : 20 ≤ F) (hn : 2 ≤ n ∧ n ≤ 8) (hs : S.1 P 0 = nI n) (hx : x < 2 ^ 31) : P_reorder F P S (nI x) = some (if odOk n x = true then (1, odF S (P + 1) n x) else (0, S)) := by
  unfold P_reorder
  rw [P_isOrder_e hF hn hs hx, crd_s]
  by_cases g : odOk n x = true
  · rw [if_pos g, if_pos g, if_neg (by decide), bnd_e, hs, P_reorder_loop n F x S hx hn.2 (by omega)]
  · rw [if_neg g, if_neg g, if_pos rfl]

theorem ok_order : st_order F9 Rel9 := by
  intro S M h x
  obtain ⟨n, hp⟩ := h.1
  obtain ⟨n2, n8, sn, mn, ho, hs, hsh, hl, hord, hperm⟩ := id hp
  unfold N_order M_order
  by_cases g : x.toInt < 0
  · refine ⟨-1, S, M, ?_, ?_, h⟩
    · unfold P_reorder
      have e := P_isOrder_neg (F := F9) (P := 1) ⟨n2, n8⟩ sn n 0 F9 0 x (Or.inl rfl) (by omega) (by omega) (by unfold F9; omega)
      rw [nI_0] at e
      unfold P_isOrder
      rw [e, crd_s, if_pos rfl, cal_s, if_pos rfl]
    · rw [if_pos (by rw [ilt, c0]; exact g)]
  · obtain ⟨y, hy, rfl, -⟩ := i_nat (x := x) (by omega)
    have hF : 20 ≤ F9 := by decide
    rw [P_reorder_e (F := F9) hF ⟨n2, n8⟩ sn hy, if_neg (c := nI y < 0) (by rw [ilt, c0]; exact g), mn, bnd_e]
    obtain ⟨M', h1, h2, h3⟩ := M_order_loop (F := F9) (k2 := fun S3 v4 v5 => (if 0 < v4 then some ((-1), S3) else (if v5 = ((jshl 1 (S3.1 0 0)) - 1) then M_order_L94 F9 F9 S3 0 else some ((-1), S3)))) n8 n F9 0 y M mn hy (Nat.le_refl _) (by unfold F9; omega)
    rw [nI_0] at h2
    rw [h2]
    have mn2 : M'.1 0 0 = nI n := by rw [h1.1 0 (by omega) (by omega), mn]
    have pw := pw_hi n8
    by_cases o : odOk n y = true
    · rw [(odOk_i n y).mp o, if_pos o, cal_s, if_neg (by decide)]
      dsimp only
      rw [h3 (by rw [(odOk_i n y).mp o]; exact fun z => by cases z)] at mn2 ⊢
      rw [if_neg (by rw [nI_0]; decide), mn2, pw_n n (by omega), pw_1 n8, if_pos rfl]
      have e := M_order_L94_e (F := F9) n8 mn2 n 0 F9 (by omega) (by unfold F9; omega)
      rw [nI_0] at e
      refine ⟨1, _, _, rfl, e, ?_⟩
      obtain ⟨o1, o2⟩ := odOk_x o
      refine rel_plan h (n := n) ?_ (fun a ha => odF_row _ _ (by omega) _ _ _) (by rw [odF_2]) (fun k hk => by rw [odC_row _ _ _ (by omega), odF_row _ _ (by omega)]) (fun a ha => by rw [odC_row _ _ _ (by omega), odF_row _ _ (by omega)])
      unfold RelP
      rw [odC_row _ _ 0 (by omega), odF_row 6 0 (by omega), odC_row _ _ 1 (by omega), odF_row 6 1 (by omega), odF_row (1 + 1) 1 (by omega), odF_row (1 + 1) 3 (by omega)]
      refine ⟨n2, n8, sn, mn, ho, hs, hsh, hl, fun p hp => ⟨odg y (n - 1 - p), o1 _ (by omega), ?_, ?_⟩, fun p q hp hq e2 => ?_⟩
      · exact odF_in (1 + 1) p n y S hp
      · rw [odC_in _ _ _ _ hp]
        exact odF_in 6 p n y M hp
      · have a1 := odF_in (1 + 1) p n y S hp
        have a2 := odF_in (1 + 1) q n y S hq
        have b1 := o1 (n - 1 - p) (by omega)
        have b2 := o1 (n - 1 - q) (by omega)
        have e3 := (a1.symm.trans e2).trans a2
        rw [nI_eq (by omega) (by omega)] at e3
        have := o2 _ _ (by omega) (by omega) e3
        omega
    · rw [if_neg o, cal_s, if_pos rfl]
      refine ⟨-1, S, M', rfl, ?_, rel_sq h SqN.rf h1⟩
      cases e : odL n n 0 y with
      | none => rfl
      | some r =>
        have hr := odL_hi n n8 n 0 y r (Nat.two_pow_pos n) e
        dsimp only
        have q0 : 0 < nI r.2 ↔ 0 < r.2 := nI_ltI (a := 0) (by omega) (by omega)
        by_cases g1 : 0 < r.2
        · rw [if_pos (q0.mpr g1)]
        · rw [if_neg (fun z => g1 (q0.mp z)), mn2, pw_n n (by omega), pw_1 n8]
          have q2 := nI_eq (a := r.1) (b := 2 ^ n - 1) (by omega) (by omega)
          rw [if_neg (fun z => o ?_)]
          rw [odOk_i, e, ← q2.mp z, show (0 : Nat) = r.2 by omega]
