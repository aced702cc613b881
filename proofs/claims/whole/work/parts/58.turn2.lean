/-! B: turned: what is to come, the loops -/
def SqX (M M' : St) : Prop := (∀ k, k ≠ 24 → k ≠ 25 → M'.1 0 k = M.1 0 k) ∧ ∀ a, a ≠ 0 → a ≠ 7 → a ≠ 10 → M'.1 a = M.1 a
theorem SqX.rf {M : St} : SqX M M := ⟨fun _ _ _ => rfl, fun _ _ _ _ => rfl⟩
theorem SqX.tr {S T U : St} (h : SqX S T) (g : SqX T U) : SqX S U := ⟨fun k k1 k2 => (g.1 k k1 k2).trans (h.1 k k1 k2), fun q k1 k2 k3 => (g.2 q k1 k2 k3).trans (h.2 q k1 k2 k3)⟩
theorem Sq7.x {M M' : St} (h : Sq7 M M') : SqX M M' := ⟨h.1, fun a h1 h2 _ => h.2.1 a h1 h2⟩
theorem SqX.sI (M : St) (k : Nat) (v : Int32) : SqX M (sI M 10 k v) := ⟨fun k _ _ => by rw [sI_row _ _ _ _ _ (by decide)], fun a _ _ h => by rw [sI_row _ _ _ _ _ h]⟩
theorem TM.x {S M M0 M1 : St} {n sh o d l : Nat} (h : TM S M M0 n sh o d l) (e : SqX M0 M1) : TM S M M1 n sh o d l := by
  unfold TM at *
  rw [e.1 0 (by decide) (by decide), e.1 1 (by decide) (by decide), e.1 2 (by decide) (by decide), e.1 3 (by decide) (by decide), e.1 4 (by decide) (by decide), e.2 1 (by decide) (by decide) (by decide), e.2 2 (by decide) (by decide) (by decide)]
  exact h
def tcK (M : St) (i l : Nat) : Prop := ∀ j, i ≤ j → j < l → ∃ T, T ≤ 5000 * (40 - j) ∧ M.1 10 (2 * j) = nI T ∧ M.1 10 (2 * j + 1) = nI T
theorem pwN_s (S : St) (i : Nat) : pwN S (i + 1) = rwN S i := by
  unfold pwN
  rw [if_neg (by omega), show i + 1 - 1 = i by omega]
theorem min_if (a b : Nat) (ha : a < 2 ^ 31) (hb : b < 2 ^ 31) {α : Type} (J : Int32 → α) : (if nI b < nI a then J (nI b) else J (nI a)) = J (nI (min a b)) := by
  have lt := nI_ltI hb ha
  by_cases g : b < a
  · rw [if_pos (lt.mpr g), Nat.min_eq_right (by omega)]
  · rw [if_neg (fun z => g (lt.mp z)), Nat.min_eq_left (by omega)]
theorem tc_step {n sh o d l i x T f : Nat} {S M M0 : St} {k7 : St → Option St} (hp : RelP n S M) (hsh : sh < 2 ^ (n - 1)) (ho : o ≤ 99) (hd : d ≤ 99) (l40 : l ≤ 40) (hrow : ∀ k, k < l → ∃ v, v < 2 ^ n ∧ S.1 3 k = nI v ∧ M.1 1 k = nI v) (h : TM S M M0 n sh o d l) (hi : i + 1 < l) (hx : x < 2) (hT : T ≤ 200000) (t1 : M0.1 10 (2 * i + 2) = nI T) (t2 : M0.1 10 (2 * i + 3) = nI T) : ∃ M1, M_findToCome_L62 F9 (nI i) k7 (f + 1) M0 (nI x) = M_findToCome_L62 F9 (nI i) k7 f M1 (nI (x + 1)) ∧ SqX M0 M1 ∧ M1.1 10 (2 * i + x) = nI (min (cst S n sh o d (i + 1) x 0 + T) (cst S n sh o d (i + 1) x 1 + T)) ∧ ∀ t, t ≠ 2 * i + x → M1.1 10 t = M0.1 10 t := by
  obtain ⟨n2, n8, -⟩ := id hp
  have e2 : ∀ a : Nat, (2 : Int32) * nI a = nI (2 * a) := fun a => pk_mul 2 a
  have a2 : ∀ a : Nat, nI a + 2 = nI (a + 2) := fun a => nI_add a 2
  have a3 : ∀ a : Nat, nI a + 3 = nI (a + 3) := fun a => nI_add a 3
  have ra := rwN_e hrow n8 (i := i) (by omega)
  have rb := rwN_e hrow n8 (i := i + 1) (by omega)
  have pa : pwN S (i + 1) < 2 ^ n := pwN_lt hrow n8 (by omega)
  have pb : pwN S (i + 1 + 1) < 2 ^ n := pwN_lt hrow n8 (by omega)
  rw [← pwN_s S i] at ra
  rw [← pwN_s S (i + 1)] at rb
  obtain ⟨M1, b1, b2⟩ := wcost_e (i := i + 1) (x := x) (y := 0) hp hsh h pa pb
  have h1 : TM S M M1 n sh o d l := h.fr b2
  obtain ⟨M2, c1, c2⟩ := wcost_e (i := i + 1) (x := x) (y := 1) hp hsh h1 pa pb
  have q0 : M_lying F9 M0 (nI (pwN S (i + 1))) (nI x) = some (nI (wyM n (pwN S (i + 1)) x)) := lying_M n8 hx h.1
  have q1 : M_lying F9 M0 (nI (pwN S (i + 1 + 1))) 0 = some (nI (wyM n (pwN S (i + 1 + 1)) 0)) := lying_M (x := 0) n8 (by omega) h.1
  have q2 : M_lying F9 M1 (nI (pwN S (i + 1 + 1))) 1 = some (nI (wyM n (pwN S (i + 1 + 1)) 1)) := lying_M (x := 1) n8 (by omega) h1.1
  have k1 := cst_le (S := S) (n := n) (sh := sh) (i := i + 1) (x := x) (y := 0) n8 ho hd
  have k2 := cst_le (S := S) (n := n) (sh := sh) (i := i + 1) (x := x) (y := 1) n8 ho hd
  have lt2 : nI x < 2 := (nI_ltI (b := 2) (by omega) (by omega)).mpr hx
  rw [M_findToCome_L62, if_pos lt2]
  simp only [e2, a2, a3, nI_1, nI_add, chk_n _ (show i < 40 by omega) (show 40 < 2 ^ 31 by decide), chk_n _ (show i + 1 < 40 by omega) (show 40 < 2 ^ 31 by decide), chk_n _ (show 2 * i + 2 < 82 by omega) (show 82 < 2 ^ 31 by decide), chk_n _ (show 2 * i + 3 < 82 by omega) (show 82 < 2 ^ 31 by decide), chk_n _ (show 2 * i + x < 82 by omega) (show 82 < 2 ^ 31 by decide), nI_clamp (show i < 2 ^ 31 by omega), nI_clamp (show i + 1 < 2 ^ 31 by omega), nI_clamp (show 2 * i + 2 < 2 ^ 31 by omega), nI_clamp (show 2 * i + 3 < 2 ^ 31 by omega), nI_clamp (show 2 * i + x < 2 ^ 31 by omega), h.2.2.2.2.2.1, ra.2.2, rb.2.2, q0, q1, crd_s, b1, cal_s, h1.2.2.2.2.2.1, q2, c1, jn_e, bnd_e]
  rw [b2.2.1 10 (by decide) (by decide), c2.2.1 10 (by decide) (by decide), b2.2.1 10 (by decide) (by decide), t1, t2, nI_add, nI_add]
  rw [min_if _ _ (by omega) (by omega) fun v => M_findToCome_L62 F9 (nI i) k7 f (sI M2 10 (2 * i + x) v) (nI (x + 1))]
  refine ⟨_, rfl, (b2.x.tr c2.x).tr (SqX.sI _ _ _), ?_, fun t ht => ?_⟩
  · rw [sI_at, if_pos ⟨rfl, rfl⟩]
  · rw [sI_at, if_neg (fun z => ht z.2), c2.2.1 10 (by decide) (by decide), b2.2.1 10 (by decide) (by decide)]
theorem tc_down {n sh o d l : Nat} {S M : St} (hp : RelP n S M) (hsh : sh < 2 ^ (n - 1)) (ho : o ≤ 99) (hd : d ≤ 99) (l40 : l ≤ 40) (hrow : ∀ k, k < l → ∃ v, v < 2 ^ n ∧ S.1 3 k = nI v ∧ M.1 1 k = nI v) : ∀ (k f : Nat) (M0 : St), k + 1 ≤ l → k < f → TM S M M0 n sh o d l → tcK M0 k l → ∃ M', M_findToCome_L56 F9 f M0 (nI k - 1) = some M' ∧ SqX M0 M' ∧ tcK M' 0 l
  | 0, f + 1, M0, hk, hf, h, ht => by
    refine ⟨M0, ?_, SqX.rf, ht⟩
    rw [M_findToCome_L56, if_pos (show nI 0 - 1 < 0 by decide)]
  | k + 1, f + 1, M0, hk, hf, h, ht => by
    obtain ⟨T, T1, T2, T3⟩ := ht (k + 1) (Nat.le_refl _) (by omega)
    obtain ⟨M1, a1, a2, a3, a4⟩ := tc_step (i := k) (x := 0) (f := 999999999) (k7 := fun S8 => bnd (nI k + (-1)) fun v9 => M_findToCome_L56 F9 f S8 v9) hp hsh ho hd l40 hrow h (by omega) (by omega) (show T ≤ 200000 by omega) T2 T3
    have h1 : TM S M M1 n sh o d l := h.x a2
    obtain ⟨M2, b1, b2, b3, b4⟩ := tc_step (i := k) (x := 1) (f := 999999998) (k7 := fun S8 => bnd (nI k + (-1)) fun v9 => M_findToCome_L56 F9 f S8 v9) hp hsh ho hd l40 hrow h1 (by omega) (by omega) (show T ≤ 200000 by omega) (by rw [a4 _ (by omega)]; exact T2) (by rw [a4 _ (by omega)]; exact T3)
    have h2 : TM S M M2 n sh o d l := h1.x b2
    obtain ⟨M', c1, c2, c3⟩ := tc_down hp hsh ho hd l40 hrow k f M2 (by omega) (by omega) h2 (fun j j1 j2 => by
      by_cases e : j = k
      · have m0 := cst_le (S := S) (n := n) (sh := sh) (i := k + 1) (x := 0) (y := 0) (o := o) (d := d) hp.2.1 ho hd
        refine ⟨min (cst S n sh o d (k + 1) 0 0 + T) (cst S n sh o d (k + 1) 0 1 + T), ?_, ?_, ?_⟩
        · have := Nat.min_le_left (cst S n sh o d (k + 1) 0 0 + T) (cst S n sh o d (k + 1) 0 1 + T)
          omega
        · rw [e, b4 _ (by omega)]
          exact a3
        · rw [e, b3, cst_11, cst_10, Nat.min_comm]
      · obtain ⟨U, u1, u2, u3⟩ := ht j (by omega) j2
        exact ⟨U, u1, by rw [b4 _ (by omega), a4 _ (by omega), u2], by rw [b4 _ (by omega), a4 _ (by omega), u3]⟩)
    refine ⟨M', ?_, (a2.tr b2).tr c2, c3⟩
    rw [M_findToCome_L56, nI_pred, if_neg (nI_pos (by omega))]
    rw [nI_0] at a1
    rw [show M_findToCome_L62 F9 (nI k) (fun S8 => bnd (nI k + (-1)) fun v9 => M_findToCome_L56 F9 f S8 v9) F9 M0 0 = _ from a1, b1, M_findToCome_L62, if_neg (show ¬ nI (1 + 1) < 2 by decide), bnd_e, i_m1]
    exact c1
theorem tz_in {l v : Nat} {k28 : St → Option St} (hv : v < 2) (l40 : l ≤ 40) : ∀ (k i f : Nat) (M0 : St), i + k = 41 → l ≤ i → k < f → ∃ M', M_findToCome_L20 F9 (nI v) k28 f M0 (nI i) = k28 M' ∧ SqX M0 M' ∧ ∀ t, t < 2 * l → M'.1 10 t = M0.1 10 t
  | 0, i, f + 1, M0, hi, hl, hf => by
    refine ⟨M0, ?_, SqX.rf, fun _ _ => rfl⟩
    rw [M_findToCome_L20, if_pos (show (40 : Int32) < nI i from (nI_ltI (a := 40) (by omega) (by omega)).mpr (by omega))]
  | k + 1, i, f + 1, M0, hi, hl, hf => by
    obtain ⟨M', a1, a2, a3⟩ := tz_in (k28 := k28) hv l40 k (i + 1) f (sI M0 10 (2 * i + v) 0) (by omega) (by omega) (by omega)
    refine ⟨M', ?_, (SqX.sI _ _ _).tr a2, fun t ht => by rw [a3 t ht, sI_at, if_neg (by omega)]⟩
    rw [M_findToCome_L20, if_neg (show ¬ (40 : Int32) < nI i by rw [show (40 : Int32) = nI 40 from rfl, nI_ltI (by omega) (by omega)]; omega), show (2 : Int32) * nI i = nI (2 * i) from pk_mul 2 i, nI_add, chk_n _ (by omega) (by decide), nI_clamp (by omega), bnd_e, bnd_e, nI_1]
    exact a1
theorem tz_out {l : Nat} {k2 : St → Option St} (l40 : l ≤ 40) {M0 : St} (hl : M0.1 0 4 = nI l) : ∃ M', M_findToCome_L10 F9 k2 F9 M0 0 = k2 M' ∧ SqX M0 M' ∧ ∀ t, t < 2 * l → M'.1 10 t = M0.1 10 t := by
  obtain ⟨M1, a1, a2, a3⟩ := tz_in (v := 0) (l := l) (k28 := fun S29 => bnd (nI 0 + 1) fun v30 => M_findToCome_L10 F9 k2 999999999 S29 v30) (by omega) l40 (41 - l) l F9 M0 (by omega) (Nat.le_refl _) (by unfold F9; omega)
  obtain ⟨M2, b1, b2, b3⟩ := tz_in (v := 1) (l := l) (k28 := fun S29 => bnd (nI 1 + 1) fun v30 => M_findToCome_L10 F9 k2 999999998 S29 v30) (by omega) l40 (41 - l) l F9 M1 (by omega) (Nat.le_refl _) (by unfold F9; omega)
  refine ⟨M2, ?_, a2.tr b2, fun t ht => by rw [b3 t ht, a3 t ht]⟩
  rw [show F9 = 999999999 + 1 from rfl, M_findToCome_L10, if_pos (by decide), bnd_e, hl]
  refine (show _ = _ from a1).trans ?_
  rw [bnd_e, show nI 0 + 1 = nI 1 from rfl, show (999999999 : Nat) = 999999998 + 1 from rfl, M_findToCome_L10, if_pos (by decide), bnd_e, a2.1 4 (by decide) (by decide), hl]
  refine (show _ = _ from b1).trans ?_
  rw [bnd_e, show nI 1 + 1 = nI 2 from rfl, show (999999998 : Nat) = 999999997 + 1 from rfl, M_findToCome_L10, if_neg (by decide)]
theorem tocome_e {n sh o d l : Nat} {S M M0 : St} (hp : RelP n S M) (hsh : sh < 2 ^ (n - 1)) (ho : o ≤ 99) (hd : d ≤ 99) (l40 : l ≤ 40) (hrow : ∀ k, k < l → ∃ v, v < 2 ^ n ∧ S.1 3 k = nI v ∧ M.1 1 k = nI v) (h : TM S M M0 n sh o d l) (hz : 0 < l → M0.1 10 (2 * l - 2) = 0 ∧ M0.1 10 (2 * l - 1) = 0) : ∃ M', M_findToCome F9 M0 = some M' ∧ SqX M0 M' ∧ tcK M' 0 l := by
  have s80 : SqX M0 (sI M0 10 80 0) := SqX.sI _ _ _
  have h0 : TM S M (sI M0 10 80 0) n sh o d l := h.x s80
  obtain ⟨M1, a1, a2, a3⟩ := tz_out (l := l) (k2 := fun S3 => bnd ((S3.1 0 4) - 2) fun v4 => M_findToCome_L56 F9 F9 S3 v4) l40 h0.2.2.2.2.1
  have h1 : TM S M M1 n sh o d l := h0.x a2
  have e : M_findToCome F9 M0 = M_findToCome_L56 F9 F9 M1 (nI l - 2) := by
    unfold M_findToCome
    rw [chk_t _ (by decide), bnd_e, show Int32.toNatClampNeg 80 = 80 by decide, a1, bnd_e, h1.2.2.2.2.1]
  rw [e]
  by_cases g : l = 0
  · subst g
    refine ⟨M1, ?_, s80.tr a2, fun j _ j2 => by omega⟩
    rw [show F9 = 999999999 + 1 from rfl, M_findToCome_L56, if_pos (show nI 0 - 2 < 0 by decide)]
  · have el : nI l - 2 = nI (l - 1) - 1 := by
      by_cases g1 : l = 1
      · subst g1; decide
      · rw [show nI l - 2 = nI (l - 2) from pk_sub (a := l) (b := 2) (by omega), show nI (l - 1) - 1 = nI (l - 1 - 1) from pk_sub (a := l - 1) (b := 1) (by omega), show l - 1 - 1 = l - 2 by omega]
    obtain ⟨z1, z2⟩ := hz (by omega)
    obtain ⟨M', b1, b2, b3⟩ := tc_down hp hsh ho hd l40 hrow (l - 1) F9 M1 (by omega) (by unfold F9; omega) h1 (fun j j1 j2 => by
      have ej : j = l - 1 := by omega
      refine ⟨0, by omega, ?_, ?_⟩
      · rw [a3 _ (by omega), sI_at, if_neg (by omega), ej, show 2 * (l - 1) = 2 * l - 2 by omega, z1]; rfl
      · rw [a3 _ (by omega), sI_at, if_neg (by omega), ej, show 2 * (l - 1) + 1 = 2 * l - 1 by omega, z2]; rfl)
    rw [el]
    exact ⟨M', b1, (s80.tr a2).tr b2, b3⟩
theorem isTurned_M {n sh o d l i x w : Nat} {S M M0 : St} (hp : RelP n S M) (hsh : sh < 2 ^ (n - 1)) (ho : o ≤ 99) (hd : d ≤ 99) (l40 : l ≤ 40) (hrow : ∀ k, k < l → ∃ v, v < 2 ^ n ∧ S.1 3 k = nI v ∧ M.1 1 k = nI v) (h : TM S M M0 n sh o d l) (ht : tcK M0 0 l) (hx : x < 2) (hw : w < 4) (hi : i < l) : ∃ M', M_turnsNow F9 M0 (nI w) (nI (wyM n (pwN S i) x)) (nI i) = some (nI (trn S n sh o d w i x), M') ∧ Sq7 M0 M' := by
  obtain ⟨n2, n8, -⟩ := id hp
  have pa : pwN S i < 2 ^ n := pwN_lt hrow n8 (by omega)
  have pb : pwN S (i + 1) < 2 ^ n := pwN_lt hrow n8 (by omega)
  have rb := rwN_e hrow n8 hi
  rw [← pwN_s S i] at rb
  have q1 : M_lying F9 M0 (nI (pwN S (i + 1))) 0 = some (nI (wyM n (pwN S (i + 1)) 0)) := lying_M (x := 0) n8 (by omega) h.1
  have q2 : M_lying F9 M0 (nI (pwN S (i + 1))) 1 = some (nI (wyM n (pwN S (i + 1)) 1)) := lying_M (x := 1) n8 (by omega) h.1
  have w0 : nI w = 0 ↔ w = 0 := nI_eq (b := 0) (by omega) (by omega)
  have w1 : nI w = 1 ↔ w = 1 := nI_eq (b := 1) (by omega) (by omega)
  have w3 : nI w = 3 ↔ w = 3 := nI_eq (b := 3) (by omega) (by omega)
  unfold M_turnsNow trn
  rw [chk_n _ (by omega) (by decide), nI_clamp (by omega), h.2.2.2.2.2.1, rb.2.2, q1, crd_s, chk_n _ (by omega) (by decide), q2, crd_s]
  by_cases g0 : w = 0
  · rw [if_pos (w0.mpr g0), if_pos g0]
    exact ⟨M0, rfl, Sq7.rf⟩
  · rw [if_neg (fun z => g0 (w0.mp z)), if_neg g0]
    by_cases g1 : w = 1
    · rw [if_pos (w1.mpr g1), if_pos g1, bnd_e, h.1, pw_n _ (by omega), pw_1 n8, ni_xor, ni_and]
      have hpw := pw_hi n8
      have lz : (wyM n (pwN S i) x ^^^ wyM n (pwN S (i + 1)) 0) &&& (2 ^ n - 1) < 2 ^ n := Nat.lt_of_le_of_lt Nat.and_le_right (pw_m1 n)
      have ec : pc ((wyM n (pwN S i) x ^^^ wyM n (pwN S (i + 1)) 0) &&& (2 ^ n - 1)) 16 = cnD S n i x := by
        rw [pc_cut (k := n) (by omega) (fun j hj => bit_hi lz hj)]
        have e1 : fb_ct (fun t => ((wyM n (pwN S i) x ^^^ wyM n (pwN S (i + 1)) 0) &&& (2 ^ n - 1)).testBit t) n = fb_ct (fun t => (wyM n (pwN S i) x).testBit t ^^ (wyM n (pwN S (i + 1)) 0).testBit t) n := fb_ct_cong fun p hp => by
          rw [Nat.testBit_and, Nat.testBit_xor, Nat.testBit_two_pow_sub_one, decide_eq_true hp, Bool.and_true]
        rw [e1, ← ct_perm (o := odn S 2) (fun t => (wyM n (pwN S i) x).testBit t ^^ (wyM n (pwN S (i + 1)) 0).testBit t) (fun p hp' => (odn_S hp hp').2.1) (fun p q h1 h2 e => hp.2.2.2.2.2.2.2.2.2 p q h1 h2 (by rw [(odn_S hp h1).1, (odn_S hp h2).1, e]))]
        refine fb_ct_cong fun p hp' => ?_
        have b1 := wy_bit (x := x) hp pa (show p < n + 1 by omega)
        have b2 := wy_bit (x := 0) hp pb (show p < n + 1 by omega)
        unfold eT at b1 b2
        rw [if_pos hp'] at b1 b2
        rw [b1, b2]
      rw [M_countOf_e F9_20 (by omega), ec, crd_s, show (2 : Int32) = nI 2 from rfl, pk_mul]
      have cl : cnD S n i x ≤ n := fb_ct_le (fun p => (lyN S n i x).testBit p ^^ (lyN S n (i + 1) 0).testBit p) n
      have lt := nI_ltI (a := n) (b := 2 * cnD S n i x) (by omega) (by omega)
      by_cases g2 : n < 2 * cnD S n i x
      · rw [if_pos (lt.mpr g2), if_pos g2]
        exact ⟨M0, rfl, Sq7.rf⟩
      · rw [if_neg (fun z => g2 (lt.mp z)), if_neg g2]
        exact ⟨M0, rfl, Sq7.rf⟩
    · rw [if_neg (fun z => g1 (w1.mp z)), if_neg g1]
      obtain ⟨M1, b1, b2⟩ := wcost_e (i := i) (x := x) (y := 0) hp hsh h pa pb
      have h1 : TM S M M1 n sh o d l := h.fr b2
      obtain ⟨M2, c1, c2⟩ := wcost_e (i := i) (x := x) (y := 1) hp hsh h1 pa pb
      have k1 := cst_le (S := S) (n := n) (sh := sh) (i := i) (x := x) (y := 1) n8 ho hd
      have k2 := cst_le (S := S) (n := n) (sh := sh) (i := i) (x := x) (y := 0) n8 ho hd
      obtain ⟨T, T1, T2, T3⟩ := ht i (Nat.zero_le _) hi
      rw [b1, cal_s, jn_e]
      have e2 : ∀ a : Nat, (2 : Int32) * nI a = nI (2 * a) := fun a => pk_mul 2 a
      simp only [bnd_e, c1, cal_s, jn_e, e2, nI_1, chk_n _ (show 2 * i + 1 < 82 by omega) (show 82 < 2 ^ 31 by decide), chk_n _ (show 2 * i < 82 by omega) (show 82 < 2 ^ 31 by decide), nI_clamp (show 2 * i < 2 ^ 31 by omega), nI_clamp (show 2 * i + 1 < 2 ^ 31 by omega)]
      rw [b2.2.1 10 (by decide) (by decide), c2.2.1 10 (by decide) (by decide), b2.2.1 10 (by decide) (by decide), T2, T3]
      have fin : ∀ t : Nat, t ≤ 200000 → ∃ M', (if nI (cst S n sh o d i x 1) + nI t < nI (cst S n sh o d i x 0) + nI t then some ((1 : Int32), M2) else some (0, M2)) = some (nI (if cst S n sh o d i x 1 < cst S n sh o d i x 0 then 1 else 0), M') ∧ Sq7 M0 M' := by
        intro t ht
        rw [nI_add, nI_add]
        have lt := nI_ltI (a := cst S n sh o d i x 1 + t) (b := cst S n sh o d i x 0 + t) (by omega) (by omega)
        by_cases g2 : cst S n sh o d i x 1 < cst S n sh o d i x 0
        · rw [if_pos (lt.mpr (by omega)), if_pos g2]
          exact ⟨M2, rfl, b2.tr c2⟩
        · rw [if_neg (fun z => g2 (by have := lt.mp z; omega)), if_neg g2]
          exact ⟨M2, rfl, b2.tr c2⟩
      by_cases g3 : w = 3
      · rw [if_pos (w3.mpr g3), if_pos (w3.mpr g3)]
        exact fin T (by omega)
      · rw [if_neg (fun z => g3 (w3.mp z)), if_neg (fun z => g3 (w3.mp z))]
        exact fin 0 (by omega)
