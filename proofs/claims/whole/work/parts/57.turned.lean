/-! B: turned: the costs -/
def inI (o : Nat → Nat) : Nat → Nat → Bool
  | 0, _ => false
  | k + 1, v => inI o k v || decide (o k = v)
theorem inI_no {o : Nat → Nat} {v : Nat} : ∀ k, (∀ p, p < k → o p ≠ v) → inI o k v = false
  | 0, _ => rfl
  | k + 1, h => by rw [inI, inI_no k (fun p hp => h p (by omega)), decide_eq_false (h k (by omega))]; rfl
theorem ct_inI {o : Nat → Nat} {n : Nat} (D : Nat → Bool) (h : ∀ p, p < n → o p < n) (inj : ∀ p q, p < n → q < n → o p = o q → p = q) : ∀ k, k ≤ n → fb_ct (fun p => D (o p)) k = fb_ct (fun v => D v && inI o k v) n
  | 0, _ => by
    have : fb_ct (fun v => D v && inI o 0 v) n = 0 := fb_ct_zero.mpr fun k _ => by
      show (D k && false) = false
      rw [Bool.and_false]
    rw [this]; rfl
  | k + 1, hk => by
    have ih := ct_inI D h inj k (by omega)
    have u := fb_ct_upd (fun v => D v && inI o k v) (D (o k)) (h k (by omega))
    have no : inI o k (o k) = false := inI_no k fun p hp e => by have := inj p k (by omega) (by omega) e; omega
    have e : fb_ct (fun v => if v = o k then D (o k) else (D v && inI o k v)) n = fb_ct (fun v => D v && inI o (k + 1) v) n := fb_ct_cong fun v _ => by
      rw [inI]
      by_cases g : v = o k
      · rw [if_pos g, g, decide_eq_true rfl, Bool.or_true, Bool.and_true]
      · rw [if_neg g, decide_eq_false (fun z => g z.symm), Bool.or_false]
    rw [e] at u
    rw [no, Bool.and_false, if_neg (show ¬ false = true by decide), Nat.add_zero] at u
    rw [fb_ct_succ, ih, u]
theorem ct_perm {o : Nat → Nat} {n : Nat} (D : Nat → Bool) (h : ∀ p, p < n → o p < n) (inj : ∀ p q, p < n → q < n → o p = o q → p = q) : fb_ct (fun p => D (o p)) n = fb_ct D n := by
  have le : ∀ D : Nat → Bool, fb_ct (fun p => D (o p)) n ≤ fb_ct D n := fun D => by
    rw [ct_inI D h inj n (Nat.le_refl _)]
    refine fb_ct_sub fun v _ hv => ?_
    rw [Bool.and_eq_true] at hv
    exact hv.1
  have a1 := le D
  have a2 := le fun v => !D v
  have a3 := fb_ct_not D n
  have a4 := fb_ct_not (fun p => D (o p)) n
  omega
def lyN (S : St) (n i x : Nat) : Nat := if x = 1 then lwN S n i ^^^ (2 ^ (n + 1) - 1) else lwN S n i
theorem pw_le (n : Nat) : 2 ^ n ≤ 2 ^ (n + 1) := Nat.pow_le_pow_right (by decide) (by omega)
theorem pw_m1 (n : Nat) : 2 ^ n - 1 < 2 ^ n := by have := Nat.two_pow_pos n; omega
theorem lyN_lt (S : St) (n i x : Nat) : lyN S n i x < 2 ^ (n + 1) := by
  have h := lwN_lt S n i
  have := pw_le n
  unfold lyN
  split
  · exact Nat.xor_lt_two_pow (by omega) (pw_m1 _)
  · omega
def wyM (n a x : Nat) : Nat := if x = 1 then (a ^^^ (2 ^ n - 1)) ||| 2 ^ n else a
theorem wyM_lt {n a x : Nat} (ha : a < 2 ^ n) : wyM n a x < 2 ^ (n + 1) := by
  have := pw_le n
  unfold wyM
  split
  · exact Nat.or_lt_two_pow (Nat.lt_of_lt_of_le (Nat.xor_lt_two_pow ha (pw_m1 _)) this) (Nat.pow_lt_pow_right (by decide) (by omega))
  · omega
def eT (S : St) (n p : Nat) : Nat := if p < n then odn S 2 p else p
theorem wy_bit {n i x p : Nat} {S M : St} (h : RelP n S M) (ha : pwN S i < 2 ^ n) (hp : p < n + 1) : (wyM n (pwN S i) x).testBit (eT S n p) = (lyN S n i x).testBit p := by
  unfold wyM lyN eT lwN
  by_cases g : p < n
  · have od := odn_S h g
    rw [if_pos g]
    split
    · rw [Nat.testBit_or, Nat.testBit_xor, Nat.testBit_xor, wbp_bit, Nat.testBit_two_pow_sub_one, Nat.testBit_two_pow_sub_one, Nat.testBit_two_pow, decide_eq_true od.2.1, decide_eq_true g, decide_eq_true hp, decide_eq_false (show ¬ n = odn S 2 p by omega), Bool.true_and, Bool.or_false]
    · rw [wbp_bit, decide_eq_true g, Bool.true_and]
  · have e : p = n := by omega
    subst e
    rw [if_neg g]
    split
    · rw [Nat.testBit_or, Nat.testBit_xor, Nat.testBit_xor, wbp_bit, Nat.testBit_two_pow, decide_eq_true rfl, Bool.or_true, decide_eq_false g, Bool.false_and, Nat.testBit_two_pow_sub_one, decide_eq_true hp]; rfl
    · rw [wbp_bit, decide_eq_false g, bit_hi ha (Nat.le_refl _)]; rfl
def cst (S : St) (n sh o d i x y : Nat) : Nat := coD (n + 1) sh o d (mvz (lyN S n i x) (lyN S n (i + 1) y))
theorem coD_neg {c g o s : Nat} {d d' : Nat → Int} (h : ∀ p, p < c → d' p = -d p) : coD c g o s d' = coD c g o s d := by
  have e1 : mvD c d' = mvD c d := fb_ct_cong fun p hp => by
    rw [h p hp]
    exact decide_eq_decide.mpr (by omega)
  have e2 : fb_sm (ctD g d') (c - 1) = fb_sm (ctD g d) (c - 1) := fb_sm_cong fun p hp => by
    unfold ctD
    rw [h p (by omega), h (p + 1) (by omega), show -d p - -d (p + 1) = -(d p - d (p + 1)) by omega, Int.neg_mul_neg, Int.neg_mul_neg, Int.neg_mul_neg]
  unfold coD
  rw [e1, e2]
theorem mv4_n1 : ∀ a b : Bool, mv4 (a ^^ true) (b ^^ true) = -mv4 a b := by decide
theorem mv4_n2 : ∀ a b : Bool, mv4 (a ^^ true) b = -mv4 a (b ^^ true) := by decide
theorem ly_bit (S : St) (n i p : Nat) (hp : p < n + 1) : (lyN S n i 1).testBit p = ((lyN S n i 0).testBit p ^^ true) := by
  unfold lyN
  rw [if_pos rfl, if_neg (by decide), Nat.testBit_xor, Nat.testBit_two_pow_sub_one, decide_eq_true hp]
theorem cst_11 (S : St) (n sh o d i : Nat) : cst S n sh o d i 1 1 = cst S n sh o d i 0 0 := coD_neg fun p hp => by
  rw [mvz_4, mvz_4, ly_bit _ _ _ _ hp, ly_bit _ _ _ _ hp, mv4_n1]
theorem cst_10 (S : St) (n sh o d i : Nat) : cst S n sh o d i 1 0 = cst S n sh o d i 0 1 := coD_neg fun p hp => by
  rw [mvz_4, mvz_4, ly_bit _ _ _ _ hp, ly_bit _ _ _ _ hp, mv4_n2]
theorem ct4 : ∀ a0 b0 a1 b1 s : Bool, (if s = true then (mv4 a0 b0 * mv4 a0 b0 + mv4 a1 b1 * mv4 a1 b1).natAbs else ((mv4 a0 b0 - mv4 a1 b1) * (mv4 a0 b0 - mv4 a1 b1)).natAbs) ≤ 4 := by decide
theorem cst_le {S : St} {n sh o d i x y : Nat} (n8 : n ≤ 8) (ho : o ≤ 99) (hd : d ≤ 99) : cst S n sh o d i x y ≤ 5000 := by
  have e1 : mvD (n + 1) (mvz (lyN S n i x) (lyN S n (i + 1) y)) ≤ 9 := by
    have := fb_ct_le (fun p => decide (mvz (lyN S n i x) (lyN S n (i + 1) y) p ≠ 0)) (n + 1)
    unfold mvD
    omega
  have e2 : fb_sm (ctD sh (mvz (lyN S n i x) (lyN S n (i + 1) y))) n ≤ n * 4 := fb_sm_bound fun k _ => ct4 _ _ _ _ _
  have e3 := Nat.mul_le_mul ho e1
  have e4 := Nat.mul_le_mul hd (show fb_sm (ctD sh (mvz (lyN S n i x) (lyN S n (i + 1) y))) (n + 1 - 1) ≤ 32 by rw [Nat.add_sub_cancel]; omega)
  unfold cst coD
  omega
def cnD (S : St) (n i x : Nat) : Nat := fb_ct (fun p => (lyN S n i x).testBit p ^^ (lyN S n (i + 1) 0).testBit p) n
/-- whether a word is turned -/
def trn (S : St) (n sh o d w i x : Nat) : Nat := if w = 0 then 0 else if w = 1 then (if n < 2 * cnD S n i x then 1 else 0) else if cst S n sh o d i x 1 < cst S n sh o d i x 0 then 1 else 0
theorem trn_lt (S : St) (n sh o d w i x : Nat) : trn S n sh o d w i x < 2 := by
  unfold trn
  repeat (first | omega | split)
/-- what the class's state is while words are turned -/
def TN (S S0 : St) (n sh o d l : Nat) : Prop := S0.1 1 0 = nI n ∧ S0.1 1 1 = nI o ∧ S0.1 1 2 = nI d ∧ S0.1 1 3 = nI sh ∧ S0.1 1 4 = nI l ∧ ∀ i, i < l → S0.1 4 i = nI (lwN S n (i + 1))
theorem TN.fr {S S0 S1 : St} {n sh o d l : Nat} (h : TN S S0 n sh o d l) (e1 : S1.1 1 = S0.1 1) (e4 : S1.1 4 = S0.1 4) : TN S S1 n sh o d l := by
  unfold TN at *
  rw [e1, e4]
  exact h
theorem lying_N {n sh o d l i x : Nat} {S S0 : St} (n8 : n ≤ 8) (l40 : l ≤ 40) (hx : x < 2) (h : TN S S0 n sh o d l) (hi : i ≤ l) : U_lying F9 S0 (nI i) (nI x) = some (nI (lyN S n i x)) := by
  unfold U_lying lyN
  rw [bnd_e, h.1, nI_1, pw_n9 _ (by omega), pw_19 (by omega), laid_e (F := F9) l40 h.2.2.2.2.2 hi, crd_s, crd_s, ni_xor]
  rcases (show x = 0 ∨ x = 1 by omega) with rfl | rfl
  · rw [if_neg (by decide), if_neg (by decide)]
  · rw [if_pos (by decide), if_pos rfl]
theorem costOf_e {n sh o d l i x y : Nat} {S S0 : St} (n1 : 1 ≤ n) (n8 : n ≤ 8) (l40 : l ≤ 40) (hsh : sh < 2 ^ (n - 1)) (hx : x < 2) (hy : y < 2) (h : TN S S0 n sh o d l) (hi : i < l) : ∃ S', U_costOf F9 S0 (nI i) (nI x) (nI y) = some (nI (cst S n sh o d i x y), S') ∧ Sq5 S0 S' ∧ C_greatestSlow F9 S' = some (nI (slw (n + 1) sh (lyN S n i x) (lyN S n (i + 1) y))) := by
  have hp : 2 ^ (n - 1) ≤ 2 ^ (n + 1 - 1) := Nat.pow_le_pow_right (by decide) (by omega)
  obtain ⟨S', u, w, x', y', c1, c2, c3⟩ := C_between_9 (F := F9) (S := S0) (n := n + 1) (sh := sh) (by omega) (by omega) (by omega) (lyN_lt S n i x) (lyN_lt S n (i + 1) y)
  refine ⟨S', ?_, c2, C_greatestSlow_9 (by omega) c3⟩
  unfold U_costOf
  rw [lying_N n8 l40 hx h (by omega), crd_s, nI_1, lying_N n8 l40 hy h (by omega), crd_s, h.1, nI_1, h.2.2.2.1, c1, cav_s, c2.1 1 (by decide), h.2.1, h.2.2.1, C_cost_9 (by omega) c3, crd_s]
  rfl
theorem isTurned_N {n sh o d l i x w : Nat} {S S0 : St} (n1 : 1 ≤ n) (n8 : n ≤ 8) (l40 : l ≤ 40) (hsh : sh < 2 ^ (n - 1)) (ho : o ≤ 99) (hd : d ≤ 99) (hx : x < 2) (hw : w < 4) (h : TN S S0 n sh o d l) (hi : i < l) : ∃ S', U_isTurned F9 S0 (nI w) (nI i) (nI x) = some (nI (trn S n sh o d w i x), S') ∧ Sq5 S0 S' := by
  unfold U_isTurned trn
  have w0 : nI w = 0 ↔ w = 0 := nI_eq (b := 0) (by omega) (by omega)
  have w1 : nI w = 1 ↔ w = 1 := nI_eq (b := 1) (by omega) (by omega)
  by_cases g0 : w = 0
  · rw [if_pos (w0.mpr g0), if_pos g0]
    exact ⟨S0, rfl, Sq5.rf⟩
  · rw [if_neg (fun z => g0 (w0.mp z)), if_neg g0]
    by_cases g1 : w = 1
    · rw [if_pos (w1.mpr g1), if_pos g1]
      have hp := pw_hi n8
      have lz : (lyN S n i x ^^^ lyN S n (i + 1) 0) &&& (2 ^ n - 1) < 2 ^ n := Nat.lt_of_le_of_lt Nat.and_le_right (pw_m1 n)
      have e : U_movesOtherwise F9 S0 (nI i) (nI x) = some (nI (cnD S n i x)) := by
        unfold U_movesOtherwise
        rw [bnd_e, lying_N n8 l40 hx h (by omega), crd_s, nI_1, show (0 : Int32) = nI 0 from rfl, lying_N n8 l40 (by omega) h (by omega), crd_s, h.1, pw_n _ (by omega), pw_1 n8, ni_xor, ni_and, Ji_small (by omega), crd_s, pc_cut (k := n) (by omega) (fun j hj => bit_hi lz hj)]
        congr 2
        refine fb_ct_cong fun p hp => ?_
        rw [Nat.testBit_and, Nat.testBit_xor, Nat.testBit_two_pow_sub_one, decide_eq_true hp, Bool.and_true]
      have cl := fb_ct_le (fun p => (lyN S n i x).testBit p ^^ (lyN S n (i + 1) 0).testBit p) n
      have cl2 : cnD S n i x ≤ n := cl
      rw [e, crd_s, h.1, show (2 : Int32) = nI 2 from rfl, pk_mul]
      have lt := nI_ltI (a := n) (b := 2 * cnD S n i x) (by omega) (by omega)
      by_cases g2 : n < 2 * cnD S n i x
      · rw [if_pos (lt.mpr g2), if_pos g2]
        exact ⟨S0, rfl, Sq5.rf⟩
      · rw [if_neg (fun z => g2 (lt.mp z)), if_neg g2]
        exact ⟨S0, rfl, Sq5.rf⟩
    · rw [if_neg (fun z => g1 (w1.mp z)), if_neg g1]
      obtain ⟨S1, a1, a2, -⟩ := costOf_e (x := x) (y := 1) n1 n8 l40 hsh hx (by omega) h hi
      have h1 : TN S S1 n sh o d l := h.fr (a2.1 1 (by decide)) (a2.1 4 (by decide))
      obtain ⟨S2, b1, b2, -⟩ := costOf_e (x := x) (y := 0) n1 n8 l40 hsh hx (by omega) h1 hi
      have k1 := cst_le (S := S) (n := n) (sh := sh) (i := i) (x := x) (y := 1) n8 ho hd
      have k2 := cst_le (S := S) (n := n) (sh := sh) (i := i) (x := x) (y := 0) n8 ho hd
      have lt := nI_ltI (a := cst S n sh o d i x 1) (b := cst S n sh o d i x 0) (by omega) (by omega)
      rw [show (1 : Int32) = nI 1 from rfl, a1, cal_s, show (0 : Int32) = nI 0 from rfl, b1, cal_s]
      by_cases g2 : cst S n sh o d i x 1 < cst S n sh o d i x 0
      · rw [if_pos (lt.mpr g2), if_pos g2]
        exact ⟨S2, rfl, a2.tr b2⟩
      · rw [if_neg (fun z => g2 (lt.mp z)), if_neg g2]
        exact ⟨S2, rfl, a2.tr b2⟩
/-- what the reference's state is while words are turned -/
def TM (S M M0 : St) (n sh o d l : Nat) : Prop := M0.1 0 0 = nI n ∧ M0.1 0 1 = nI o ∧ M0.1 0 2 = nI d ∧ M0.1 0 3 = nI sh ∧ M0.1 0 4 = nI l ∧ M0.1 1 = M.1 1 ∧ M0.1 2 = M.1 2
theorem TM.fr {S M M0 M1 : St} {n sh o d l : Nat} (h : TM S M M0 n sh o d l) (e : Sq7 M0 M1) : TM S M M1 n sh o d l := by
  unfold TM at *
  rw [e.1 0 (by decide) (by decide), e.1 1 (by decide) (by decide), e.1 2 (by decide) (by decide), e.1 3 (by decide) (by decide), e.1 4 (by decide) (by decide), e.2.1 1 (by decide) (by decide), e.2.1 2 (by decide) (by decide)]
  exact h
theorem lying_M {n a x : Nat} {M0 : St} (n8 : n ≤ 8) (hx : x < 2) (hs : M0.1 0 0 = nI n) : M_lying F9 M0 (nI a) (nI x) = some (nI (wyM n a x)) := by
  unfold M_lying wyM
  rw [bnd_e, hs, pw_n _ (by omega), pw_1 n8, ni_xor, ni_or]
  rcases (show x = 0 ∨ x = 1 by omega) with rfl | rfl
  · rw [if_neg (by decide), if_neg (by decide)]
  · rw [if_pos (by decide), if_pos rfl]
theorem wider_e {n sh o d l i x y : Nat} {S M M0 : St} (hp : RelP n S M) (hsh : sh < 2 ^ (n - 1)) (h : TM S M M0 n sh o d l) (ha : pwN S i < 2 ^ n) (hb : pwN S (i + 1) < 2 ^ n) : ∃ M', M_widerMoves F9 M0 (nI (wyM n (pwN S i) x)) (nI (wyM n (pwN S (i + 1)) y)) = some M' ∧ Sq7 M0 M' ∧ MoV M' (n + 1) sh (mvz (lyN S n i x) (lyN S n (i + 1) y)) := by
  obtain ⟨n2, n8, -⟩ := id hp
  have hw := pw_hi9 (n := n + 1) (by omega)
  have l1 := wyM_lt (x := x) ha
  have l2 := wyM_lt (x := y) hb
  have hg : 2 ^ (n - 1) ≤ 2 ^ (n + 1) := Nat.pow_le_pow_right (by decide) (by omega)
  obtain ⟨h1, h2, h3, h4, h5, h6, h7⟩ := h
  obtain ⟨M', d1, d2, d3⟩ := M_moves_e (F := F9) (n := n) (a := wyM n (pwN S i) x) (b := wyM n (pwN S (i + 1)) y) (c := n + 1) (g := sh) (M := M0) (e := eT S n) (p4 := 1) F9_20 (by omega) (by omega) n8 (by omega) (by omega) (by omega) h1 (fun p hp' => by
    unfold eT
    by_cases g : p < n
    · have od := odn_S hp g
      rw [if_pos g]
      refine ⟨by omega, ?_, ?_⟩
      · rintro (z | z)
        · cases z
        · exact absurd g z
      · intro _
        rw [h7]
        exact od.2.2
    · rw [if_neg g]
      exact ⟨by omega, fun _ => rfl, fun z => absurd (Or.inr g) z⟩)
  refine ⟨M', ?_, d2, d3.cong fun p hp' => ?_⟩
  · unfold M_widerMoves
    rw [h1, nI_1, h4, d1, cav_s]
  · rw [mvz_4, mvz_4, wy_bit hp ha hp', wy_bit hp hb hp']
theorem wcost_e {n sh o d l i x y : Nat} {S M M0 : St} (hp : RelP n S M) (hsh : sh < 2 ^ (n - 1)) (h : TM S M M0 n sh o d l) (ha : pwN S i < 2 ^ n) (hb : pwN S (i + 1) < 2 ^ n) : ∃ M', M_widerCost F9 M0 (nI (wyM n (pwN S i) x)) (nI (wyM n (pwN S (i + 1)) y)) = some (nI (cst S n sh o d i x y), M') ∧ Sq7 M0 M' := by
  obtain ⟨M', d1, d2, d3⟩ := wider_e (x := x) (y := y) hp hsh h ha hb
  refine ⟨M', ?_, d2⟩
  unfold M_widerCost
  rw [d1, cav_s, M_costNow_e F9_20 d3 (by rw [d2.1 1 (by decide) (by decide), h.2.1]) (by rw [d2.1 2 (by decide) (by decide), h.2.2.1]), crd_s]
  rfl
