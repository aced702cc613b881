/-! B: WORDS BY BITS, A CHANGE ON THE CLASS'S SIDE -/
def nd (a b : Nat) : Nat := a &&& (b ^^^ (2 ^ 32 - 1))
theorem im1 : (-1 : Int32) = nI (2 ^ 32 - 1) := by decide
theorem nd_e (a b : Nat) : nI a &&& (nI b ^^^ (-1)) = nI (nd a b) := by rw [im1, ni_xor, ni_and]; rfl
theorem nd_lt {a b k : Nat} (h : a < 2 ^ k) : nd a b < 2 ^ k := Nat.lt_of_le_of_lt Nat.and_le_left h
theorem nd_bit {a b i : Nat} (ha : a < 2 ^ 32) : (nd a b).testBit i = (a.testBit i && !b.testBit i) := by
  unfold nd
  rw [Nat.testBit_and, Nat.testBit_xor, Nat.testBit_two_pow_sub_one]
  by_cases h : i < 32
  · rw [decide_eq_true h]
    cases a.testBit i <;> cases b.testBit i <;> rfl
  · rw [Nat.testBit_lt_two_pow (Nat.lt_of_lt_of_le ha (Nat.pow_le_pow_right (by decide) (by omega)))]
    rfl
theorem jshl_n {a k : Nat} (h : a * 2 ^ k < 2 ^ 32) (hk : k < 32) : jshl (nI a) (nI k) = nI (a * 2 ^ k) := by
  unfold jshl
  exact pk_shlN _ k (s31 k hk) h
theorem jshl1 {a : Nat} (h : a < 2 ^ 31) : jshl (nI a) 1 = nI (a * 2 ^ 1) := jshl_n (k := 1) (by omega) (by decide)
theorem jshr1 {a : Nat} (h : a < 2 ^ 31) : jshr (nI a) 1 = nI (a / 2) := by
  have := jshr_n (h := a) (i := 1) h (by decide)
  rw [Nat.pow_one] at this
  exact this
theorem bit_hi {a n i : Nat} (h : a < 2 ^ n) (hi : n ≤ i) : a.testBit i = false := Nat.testBit_lt_two_pow (Nat.lt_of_lt_of_le h (Nat.pow_le_pow_right (by decide) hi))
theorem z_bits {v n : Nat} (h : v < 2 ^ n) (hn : n ≤ 30) : nI v = 0 ↔ ∀ p, p < n → v.testBit p = false := by
  have h30 : 2 ^ n ≤ 2 ^ 30 := Nat.pow_le_pow_right (by decide) hn
  rw [show nI v = 0 ↔ v = 0 from nI_eq (b := 0) (by omega) (by omega)]
  constructor
  · intro e p hp
    rw [e, Nat.zero_testBit]
  · intro e
    refine Nat.eq_of_testBit_eq fun i => ?_
    rw [Nat.zero_testBit]
    by_cases hi : i < n
    · exact e i hi
    · exact bit_hi h (by omega)
/-- a word by places -/
def wbp (o : Nat → Nat) (a : Nat) : Nat → Nat
  | 0 => 0
  | i + 1 => wbp o a i ||| (if a.testBit (o i) then 1 else 0) * 2 ^ i
theorem wbp_bit (o : Nat → Nat) (a p : Nat) : ∀ n, (wbp o a n).testBit p = (decide (p < n) && a.testBit (o p))
  | 0 => by rw [wbp, Nat.zero_testBit, decide_eq_false (Nat.not_lt_zero p)]; rfl
  | i + 1 => by
    rw [wbp, Nat.testBit_or, wbp_bit o a p i, Nat.testBit_mul_two_pow]
    by_cases h : p < i
    · rw [decide_eq_true h, decide_eq_false (show ¬ i ≤ p by omega), decide_eq_true (show p < i + 1 by omega)]
      cases a.testBit (o p) <;> rfl
    · by_cases e : p = i
      · subst e
        rw [decide_eq_false h, decide_eq_true (Nat.le_refl p), decide_eq_true (Nat.lt_succ_self p), Nat.sub_self]
        cases a.testBit (o p) <;> rfl
      · rw [decide_eq_false h, decide_eq_false (show ¬ p < i + 1 by omega)]
        obtain ⟨d, hd⟩ : ∃ d, p - i = d + 1 := ⟨p - i - 1, by omega⟩
        rw [hd]
        cases a.testBit (o i) <;> simp [Nat.testBit_succ]
theorem wbp_lt (o : Nat → Nat) (a : Nat) : ∀ n, wbp o a n < 2 ^ n
  | 0 => by rw [wbp]; decide
  | i + 1 => by
    rw [wbp]
    have h := wbp_lt o a i
    have e : 2 ^ (i + 1) = 2 * 2 ^ i := by rw [Nat.pow_succ, Nat.mul_comm]
    refine Nat.or_lt_two_pow (by omega) ?_
    split <;> omega
/-- the order of a plan -/
def odn (S : St) (q p : Nat) : Nat := (S.1 q p).toNatClampNeg
theorem P_byPlaces_loop {F P n a : Nat} {S : St} (hn : n ≤ 8) (ha : a < 2 ^ 31) (hs : S.1 P 0 = nI n) (ho : ∀ p, p < n → S.1 (P + 1) p = nI (odn S (P + 1) p) ∧ odn S (P + 1) p < 32) : ∀ (k i f : Nat), i + k = n → k < f → P_byPlaces_L4 F (nI a) P S f (nI (wbp (odn S (P + 1)) a i)) (nI i) = some (nI (wbp (odn S (P + 1)) a n))
  | 0, i, f + 1, hi, hf => by
    rw [P_byPlaces_L4, hs, if_neg (by rw [nI_ltI (by omega) (by omega)]; omega), show i = n by omega]
  | k + 1, i, f + 1, hi, hf => by
    have h1 := ho i (by omega)
    have hp : 2 ^ i ≤ 2 ^ 7 := Nat.pow_le_pow_right (by decide) (by omega)
    rw [P_byPlaces_L4, hs, if_pos (by rw [nI_ltI (by omega) (by omega)]; omega), P_wireAt, jn_e, if_neg (nI_pos (by omega)), if_pos (lt_8 (by omega)), chk_n _ (by omega) (by omega), crd_s, nI_clamp (by omega), h1.1, jbit_n ha h1.2, jshl_n (by split <;> omega) (by omega), ni_or, bnd_e, bnd_e, nI_1]
    exact P_byPlaces_loop hn ha hs ho k (i + 1) f (by omega) (by omega)
theorem P_byPlaces_e {F P n a : Nat} {S : St} (hF : 20 ≤ F) (hn : n ≤ 8) (ha : a < 2 ^ 31) (hs : S.1 P 0 = nI n) (ho : ∀ p, p < n → S.1 (P + 1) p = nI (odn S (P + 1) p) ∧ odn S (P + 1) p < 32) : P_byPlaces F P S (nI a) = some (nI (wbp (odn S (P + 1)) a n)) := by
  unfold P_byPlaces
  have := P_byPlaces_loop (F := F) hn ha hs ho n 0 F (by omega) (by omega)
  rw [wbp, nI_0] at this
  exact this
def mv4 (a b : Bool) : Int := (b.toNat : Int) - a.toNat
theorem mvz_4 (a b p : Nat) : mvz a b p = mv4 (a.testBit p) (b.testBit p) := rfl
def Sq5 (S S' : St) : Prop := (∀ a, a ≠ 5 → S'.1 a = S.1 a) ∧ S'.2 = S.2
theorem Sq5.sq {S S' : St} (h : Sq5 S S') : SqN S S' := ⟨fun a ha => h.1 a (by omega), by rw [h.2]⟩
def dz (a b p : Nat) : Nat := (mvz a b p - mvz a b (p + 1)).natAbs
/-- what a change leaves in the cell of changes -/
def CV (S : St) (n sh a b u w x y : Nat) : Prop := S.1 5 0 = nI (2 ^ n - 1) ∧ S.1 5 1 = nI u ∧ S.1 5 2 = nI w ∧ S.1 5 3 = nI (u ||| w) ∧ S.1 5 4 = nI sh ∧ S.1 5 5 = nI x ∧ S.1 5 6 = nI y ∧ u < 2 ^ n ∧ w < 2 ^ n ∧ x < 2 ^ n ∧ y < 2 ^ n ∧ sh < 2 ^ (n - 1) ∧ (∀ p, u.testBit p = (b.testBit p && !a.testBit p)) ∧ (∀ p, w.testBit p = (a.testBit p && !b.testBit p)) ∧ (∀ p, x.testBit p = (decide (p + 1 < n) && !sh.testBit p && decide (dz a b p = 1))) ∧ (∀ p, y.testBit p = (decide (p + 1 < n) && !sh.testBit p && decide (dz a b p = 2)))
theorem bx1 : ∀ a0 b0 a1 b1 : Bool, ((b0 && !a0 || a0 && !b0) ^^ (b1 && !a1 || a1 && !b1)) = decide ((mv4 a0 b0 - mv4 a1 b1).natAbs = 1) := by decide
theorem bx2 : ∀ a0 b0 a1 b1 : Bool, ((b0 && !a0) && (a1 && !b1) || (a0 && !b0) && (b1 && !a1)) = decide ((mv4 a0 b0 - mv4 a1 b1).natAbs = 2) := by decide
theorem C_between_e {F n sh a b : Nat} {S : St} (h1 : 1 ≤ n) (n8 : n ≤ 8) (hs : sh < 2 ^ (n - 1)) (ha : a < 2 ^ n) (hb : b < 2 ^ n) : ∃ S' u w x y, C_between F S (nI a) (nI b) (nI n) (nI sh) = some S' ∧ Sq5 S S' ∧ CV S' n sh a b u w x y := by
  have hp := pw_hi n8
  have hp2 : 2 ^ (n - 1) < 2 ^ n := Nat.pow_lt_pow_right (by decide) (by omega)
  have e1 : nI n - 1 = nI (n - 1) := pk_sub (a := n) (b := 1) h1
  have e2 : nI (2 ^ (n - 1)) - 1 = nI (2 ^ (n - 1) - 1) := pk_sub (a := 2 ^ (n - 1)) (b := 1) (Nat.two_pow_pos _)
  have hu : nd b a < 2 ^ n := nd_lt hb
  have hw : nd a b < 2 ^ n := nd_lt ha
  have hm : nd b a ||| nd a b < 2 ^ n := Nat.or_lt_two_pow hu hw
  have hsm : sh &&& (2 ^ (n - 1) - 1) = sh := by rw [Nat.and_two_pow_sub_one_eq_mod, Nat.mod_eq_of_lt hs]
  have bu : ∀ p, (nd b a).testBit p = (b.testBit p && !a.testBit p) := fun p => nd_bit (by omega)
  have bw : ∀ p, (nd a b).testBit p = (a.testBit p && !b.testBit p) := fun p => nd_bit (by omega)
  have bg : ∀ p, (nd (2 ^ (n - 1) - 1) sh).testBit p = (decide (p + 1 < n) && !sh.testBit p) := fun p => by
    rw [nd_bit (by omega), Nat.testBit_two_pow_sub_one]
    congr 1
    exact decide_eq_decide.mpr (by omega)
  have hg : nd (2 ^ (n - 1) - 1) sh < 2 ^ n := Nat.lt_of_le_of_lt Nat.and_le_left (by omega)
  unfold C_between
  simp only [bnd_e, e1, pw_n n (by omega), pw_n (n - 1) (by omega), e2, pw_1 n8, nd_e, sI_at, ni_or, ni_and, hsm, and_self, and_true, true_and, if_true, ite_true, reduceIte, reduceCtorEq, Nat.reduceEqDiff, false_and, and_false, if_false, ite_false]
  simp only [jshr1 (show nd b a ||| nd a b < 2 ^ 31 by omega), jshr1 (show nd b a < 2 ^ 31 by omega), jshr1 (show nd a b < 2 ^ 31 by omega), ni_xor, ni_and, ni_or]
  refine ⟨_, nd b a, nd a b, ((nd b a ||| nd a b) ^^^ (nd b a ||| nd a b) / 2) &&& nd (2 ^ (n - 1) - 1) sh, (nd b a &&& nd a b / 2 ||| nd a b &&& nd b a / 2) &&& nd (2 ^ (n - 1) - 1) sh, rfl, ⟨fun q hq => ?_, rfl⟩, ?_⟩
  · simp only [sI_row _ _ _ _ q hq]
  · refine ⟨by simp [sI_at], by simp [sI_at], by simp [sI_at], by simp [sI_at], by simp [sI_at], by simp [sI_at], by simp [sI_at], hu, hw, ?_, ?_, hs, bu, bw, fun p => ?_, fun p => ?_⟩
    · exact Nat.lt_of_le_of_lt Nat.and_le_right hg
    · exact Nat.lt_of_le_of_lt Nat.and_le_right hg
    · rw [Nat.testBit_and, Nat.testBit_xor, Nat.testBit_div_two, Nat.testBit_or, Nat.testBit_or, bg, bu, bw, bu, bw, bx1, Bool.and_comm]
      rfl
    · rw [Nat.testBit_and, Nat.testBit_or, Nat.testBit_and, Nat.testBit_and, Nat.testBit_div_two, Nat.testBit_div_two, bg, bu, bw, bu, bw, bx2, Bool.and_comm]
      rfl
