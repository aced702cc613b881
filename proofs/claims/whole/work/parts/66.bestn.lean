/-! B: best, the class's side -/
theorem get_e {F A k : Nat} {S : St} (h : k < lenN A) (hA : lenN A < 2 ^ 31) : O_get F A S (nI k) = some (S.1 A k) := by
  unfold O_get
  rw [jn_e, if_neg (nI_pos (by omega)), if_pos (show nI k < Int32.ofNat (lenN A) from (nI_ltI (b := lenN A) (by omega) hA).mpr h), chk_n _ h hA, nI_clamp (by omega)]
theorem put_e {F A k : Nat} {S : St} {v : Int32} (h : k < lenN A) (hA : lenN A < 2 ^ 31) : O_put F A S (nI k) v = some (sI S A k v) := by
  unfold O_put
  rw [if_neg (nI_pos (by omega)), if_pos (show nI k < Int32.ofNat (lenN A) from (nI_ltI (b := lenN A) (by omega) hA).mpr h), chk_n _ h hA, bnd_e, nI_clamp (by omega)]
theorem ix_e {F a b : Nat} {S : St} : O_indexOf F S (nI a) (nI b) = some (nI (a * 8 + b)) := by
  unfold O_indexOf
  rw [show (8 : Int32) = nI 8 from rfl, pk_mul, nI_add]
theorem l14 : lenN 14 = 64 := by decide
theorem l15 : lenN 15 = 2048 := by decide
theorem get14 {F k : Nat} {S : St} (h : k < 64) : O_get F 14 S (nI k) = some (S.1 14 k) := get_e (by rw [l14]; exact h) (by rw [l14]; decide)
theorem get15 {F k : Nat} {S : St} (h : k < 2048) : O_get F 15 S (nI k) = some (S.1 15 k) := get_e (by rw [l15]; exact h) (by rw [l15]; decide)
theorem put14 {F k : Nat} {S : St} {v : Int32} (h : k < 64) : O_put F 14 S (nI k) v = some (sI S 14 k v) := put_e (by rw [l14]; exact h) (by rw [l14]; decide)
theorem put15 {F k : Nat} {S : St} {v : Int32} (h : k < 2048) : O_put F 15 S (nI k) v = some (sI S 15 k v) := put_e (by rw [l15]; exact h) (by rw [l15]; decide)
theorem mo_bit : ∀ a b : Bool, nI (if (b && !a) = true then 1 else 0) - nI (if (a && !b) = true then 1 else 0) = iz (mv4 a b) := by decide
theorem moveOf_e {F a b p : Nat} {S : St} (ha : a < 256) (hb : b < 256) (hp : p < 32) : O_moveOf F S (nI p) (nI (nd b a)) (nI (nd a b)) = some (iz (mvz a b p)) := by
  have h1 : nd b a < 256 := Nat.lt_of_le_of_lt Nat.and_le_left hb
  have h2 : nd a b < 256 := Nat.lt_of_le_of_lt Nat.and_le_left ha
  unfold O_moveOf
  rw [jbit_n (by omega) hp, jbit_n (by omega) hp, nd_bit (by omega), nd_bit (by omega), mo_bit]
  rfl
def wtN (S : St) (n : Nat) (D : Nat → Nat → Nat) : Prop := ∀ a b, a < n → b < n → S.1 14 (a * 8 + b) = nI (D a b)
theorem wtN.cong {S : St} {n : Nat} {D E : Nat → Nat → Nat} (h : wtN S n D) (e : ∀ a b, a < n → b < n → D a b = E a b) : wtN S n E := fun a b ha hb => by rw [← e a b ha hb]; exact h a b ha hb
theorem sq_mul {d : Nat} {x y : Int} (hx : Tri x) (hy : Tri y) : nI d * (iz x - iz y) * (iz x - iz y) = nI (d * ((x - y) * (x - y)).natAbs) := by
  rw [Int32.mul_assoc, iz_sq hx hy, pk_mul]
theorem addN_in {n d u v a : Nat} {W : Nat → Nat → Nat} {k3 : St → Option St} (n8 : n ≤ 8) (hu : u < 256) (hv : v < 256) (ha : a < n) : ∀ (k i f : Nat) (S : St), i + k = n → k < f → S.1 13 3 = nI n → wtN S n (Utb W (fun x y => d * sqm (mvz u v) x y) a i) → ∃ S', O_addPairs_L15 F9 (nI (nd v u)) (nI (nd u v)) (nI d) (nI a) k3 f S (nI i) = k3 S' ∧ Sq9 14 S S' ∧ S'.2 = S.2 ∧ wtN S' n (Utb W (fun x y => d * sqm (mvz u v) x y) (a + 1) 0)
  | 0, i, f + 1, S, hi, hf, hn, hw => by
    refine ⟨S, ?_, Sq9.rf, rfl, hw.cong fun x y hx hy => ?_⟩
    · rw [O_addPairs_L15, hn, if_neg (by rw [nI_ltI (by omega) (by omega)]; omega)]
    · unfold Utb
      congr 1
      by_cases g : x < a ∨ (x = a ∧ y < i)
      · rw [if_pos g, if_pos (by omega)]
      · rw [if_neg g, if_neg (by omega)]
  | k + 1, i, f + 1, S, hi, hf, hn, hw => by
    have tA := mvz_TD u v (a + 1) a (by omega)
    have tI := mvz_TD u v (i + 1) i (by omega)
    obtain ⟨S', b1, b2, b4, b3⟩ := addN_in (d := d) (W := W) (k3 := k3) n8 hu hv ha k (i + 1) f (sI S 14 (a * 8 + i) (nI (W a i + d * sqm (mvz u v) a i))) (by omega) (by omega) (by rw [sI_row _ _ _ _ _ (by decide), hn]) (fun x y hx hy => by
      rw [sI_at]
      unfold Utb
      by_cases e : x * 8 + y = a * 8 + i
      · obtain ⟨rfl, rfl⟩ : x = a ∧ y = i := by omega
        rw [if_pos ⟨rfl, rfl⟩, if_pos (by omega)]
      · rw [if_neg (fun z => e z.2), hw x y hx hy, Utb]
        congr 2
        by_cases g : x < a ∨ (x = a ∧ y < i)
        · rw [if_pos g, if_pos (by omega)]
        · rw [if_neg g, if_neg (by omega)])
    refine ⟨S', ?_, Sq9.sI.tr b2, b4, b3⟩
    have hw1 := hw a i ha (by omega)
    unfold Utb at hw1
    rw [if_neg (by omega), Nat.add_zero] at hw1
    rw [O_addPairs_L15, hn, if_pos (by rw [nI_ltI (by omega) (by omega)]; omega), moveOf_e hu hv (by omega), crd_s, moveOf_e hu hv (by omega), crd_s, bnd_e, ix_e, crd_s, get14 (by omega), crd_s, hw1, sq_mul tA tI, nI_add, put14 (by omega), cav_s, bnd_e, nI_1]
    exact b1
theorem addN_out {n d u v : Nat} {W : Nat → Nat → Nat} (n8 : n ≤ 8) (hu : u < 256) (hv : v < 256) : ∀ (k i f : Nat) (S : St), i + k = n → k < f → S.1 13 3 = nI n → wtN S n (Utb W (fun x y => d * sqm (mvz u v) x y) i 0) → ∃ S', O_addPairs_L3 F9 (nI (nd v u)) (nI (nd u v)) (nI d) f S (nI i) = some S' ∧ Sq9 14 S S' ∧ S'.2 = S.2 ∧ wtN S' n (fun a b => W a b + d * sqm (mvz u v) a b)
  | 0, i, f + 1, S, hi, hf, hn, hw => by
    refine ⟨S, ?_, Sq9.rf, rfl, hw.cong fun x y hx hy => ?_⟩
    · rw [O_addPairs_L3, hn, if_neg (by rw [nI_ltI (by omega) (by omega)]; omega)]
    · unfold Utb
      rw [if_pos (by omega)]
  | k + 1, i, f + 1, S, hi, hf, hn, hw => by
    obtain ⟨S1, a1, a2, a4, a3⟩ := addN_in (a := i) (d := d) (W := W) (k3 := fun S4 => bnd (nI i + 1) fun v5 => O_addPairs_L3 F9 (nI (nd v u)) (nI (nd u v)) (nI d) f S4 v5) n8 hu hv (by omega) n 0 F9 S (by omega) (by unfold F9; omega) hn hw
    obtain ⟨S', b1, b2, b4, b3⟩ := addN_out (d := d) n8 hu hv k (i + 1) f S1 (by omega) (by omega) (by rw [a2 13 (by decide), hn]) a3
    refine ⟨S', ?_, a2.tr b2, by rw [b4, a4], b3⟩
    rw [nI_0] at a1
    rw [O_addPairs_L3, hn, if_pos (by rw [nI_ltI (by omega) (by omega)]; omega), a1, bnd_e, nI_1]
    exact b1
def SqO (S S' : St) : Prop := (∀ q, q ≠ 13 → q ≠ 14 → q ≠ 15 → S'.1 q = S.1 q) ∧ S'.2 = S.2
theorem SqO.rf {S : St} : SqO S S := ⟨fun _ _ _ _ => rfl, rfl⟩
theorem SqO.tr {S T U : St} (h : SqO S T) (g : SqO T U) : SqO S U := ⟨fun q a b c => (g.1 q a b c).trans (h.1 q a b c), g.2.trans h.2⟩
theorem Sq9.o14 {S S' : St} (h : Sq9 14 S S') (h2 : S'.2 = S.2) : SqO S S' := ⟨fun q _ a _ => h q a, h2⟩
theorem Sq9.o15 {S S' : St} (h : Sq9 15 S S') (h2 : S'.2 = S.2) : SqO S S' := ⟨fun q _ _ a => h q a, h2⟩
theorem wordN_e {F n l i : Nat} {S M S0 : St} (n8 : n ≤ 8) (l40 : l ≤ 40) (hrow : ∀ k, k < l → ∃ v, v < 2 ^ n ∧ S.1 3 k = nI v ∧ M.1 1 k = nI v) (s3 : S0.1 3 = S.1 3) (hi : i < l) : P_wordAt F 1 S0 (nI i - 1) = some (nI (pwN S i)) ∧ P_wordAt F 1 S0 (nI i) = some (nI (pwN S (i + 1))) := by
  have wa : ∀ k, k < l → P_wordAt F 1 S0 (nI k) = some (nI (pwN S (k + 1))) := fun k hk => by
    unfold P_wordAt
    rw [jn_e, if_neg (nI_pos (by omega)), if_pos (show nI k < 40 from (nI_ltI (b := 40) (by omega) (by omega)).mpr (by omega)), chk_n _ (by omega) (by decide), nI_clamp (by omega), s3, (rwN_e hrow n8 hk).2.1, pwN_s]
  refine ⟨?_, wa i hi⟩
  cases i with
  | zero =>
    unfold P_wordAt
    rw [jn_e, if_pos (by decide)]
    rfl
  | succ i =>
    rw [nI_pred]
    exact wa i (by omega)
theorem mv_ne : ∀ a b : Bool, (a ^^ b) = decide (mv4 a b ≠ 0) := by decide
theorem rowN_loop {n l o d : Nat} {S M : St} {k5 : St → Option St} (n2 : 2 ≤ n) (n8 : n ≤ 8) (l40 : l ≤ 40) (sl : S.1 1 4 = nI l) (so : S.1 1 1 = nI o) (sd : S.1 1 2 = nI d) (hrow : ∀ k, k < l → ∃ v, v < 2 ^ n ∧ S.1 3 k = nI v ∧ M.1 1 k = nI v) : ∀ (k i f : Nat) (S0 : St), i + k = l → k < f → SqO S S0 → S0.1 13 3 = nI n → S0.1 13 4 = nI (o * MC S n i) → wtN S0 n (fun a b => d * DD S i a b) → ∃ S', O_search_L42 F9 k5 f S0 (nI i) = k5 S' ∧ SqO S S' ∧ S'.1 13 3 = nI n ∧ S'.1 13 4 = nI (o * MC S n l) ∧ wtN S' n (fun a b => d * DD S l a b)
  | 0, i, f + 1, S0, hi, hf, h, h3, h4, hw => by
    refine ⟨S0, ?_, h, h3, by rw [h4, show i = l by omega], by rw [← show i = l by omega]; exact hw⟩
    rw [O_search_L42, h.1 1 (by decide) (by decide) (by decide), sl, if_neg (by rw [nI_ltI (by omega) (by omega)]; omega)]
  | k + 1, i, f + 1, S0, hi, hf, h, h3, h4, hw => by
    have hpw := pw_hi n8
    have la := pwN_lt hrow n8 (i := i) (by omega)
    have lb := pwN_lt hrow n8 (i := i + 1) (by omega)
    obtain ⟨w1, w2⟩ := wordN_e (F := F9) (S0 := S0) n8 l40 hrow (h.1 3 (by decide) (by decide) (by decide)) (show i < l by omega)
    have r1 : S0.1 1 = S.1 1 := h.1 1 (by decide) (by decide) (by decide)
    have hx : pwN S i ^^^ pwN S (i + 1) < 2 ^ n := Nat.xor_lt_two_pow la lb
    have ec : pc (pwN S i ^^^ pwN S (i + 1)) 16 = mvD n (mvR S i) := by
      rw [pc_cut (k := n) (by omega) (fun j hj => bit_hi hx hj)]
      refine fb_ct_cong fun p _ => ?_
      rw [Nat.testBit_xor, mv_ne]
      rfl
    have sum : o * MC S n i + o * mvD n (mvR S i) = o * MC S n (i + 1) := (Nat.mul_add o _ _).symm
    generalize hS2 : sI S0 13 4 (nI (o * MC S n (i + 1))) = S2
    have q3 : S2.1 13 3 = nI n := by rw [← hS2, sI_at, if_neg (by decide), h3]
    have q4 : S2.1 13 4 = nI (o * MC S n (i + 1)) := by rw [← hS2, sI_at, if_pos ⟨rfl, rfl⟩]
    have qr : ∀ q, q ≠ 13 → S2.1 q = S0.1 q := fun q hq => by rw [← hS2, sI_row _ _ _ _ _ hq]
    have w0 : wtN S2 n (Utb (fun a b => d * DD S i a b) (fun x y => d * sqm (mvz (pwN S i) (pwN S (i + 1))) x y) 0 0) := fun a b ha hb => by
      rw [qr 14 (by decide), hw a b ha hb]
      unfold Utb
      rw [if_neg (by omega), Nat.add_zero]
    obtain ⟨S3, a1, a2, a4, a3⟩ := addN_out (d := d) n8 (show pwN S i < 256 by omega) (show pwN S (i + 1) < 256 by omega) n 0 F9 S2 (by omega) (by unfold F9; omega) q3 w0
    have sq3 : SqO S S3 := h.tr (SqO.tr (T := S2) ⟨fun q a _ _ => qr q a, by rw [← hS2]; rfl⟩ (a2.o14 a4))
    obtain ⟨S', b1, b2⟩ := rowN_loop (k5 := k5) n2 n8 l40 sl so sd hrow k (i + 1) f S3 (by omega) (by omega) sq3 (by rw [a2 13 (by decide), q3]) (by rw [a2 13 (by decide), q4]) (a3.cong fun a b _ _ => (Nat.mul_add d _ _).symm)
    refine ⟨S', ?_, b2⟩
    rw [nI_0] at a1
    rw [O_search_L42, r1, sl, if_pos (by rw [nI_ltI (by omega) (by omega)]; omega), w1, crd_s, w2, crd_s, ni_xor, Ji_small (by omega), crd_s, ec, h4, so, pk_mul, nI_add, sum, bnd_e, hS2, nd_e, nd_e, qr 1 (by decide), r1, sd, O_addPairs, a1, cav_s, bnd_e, nI_1]
    exact b1
theorem zeroN {k3 : St → Option St} : ∀ (k i f : Nat) (S : St), i + k = 64 → k < f → (∀ t, t < i → S.1 14 t = 0) → ∃ S', O_search_L18 F9 k3 f S (nI i) = k3 S' ∧ Sq9 14 S S' ∧ S'.2 = S.2 ∧ ∀ t, t < 64 → S'.1 14 t = 0
  | 0, i, f + 1, S, hi, hf, hz => by
    refine ⟨S, ?_, Sq9.rf, rfl, fun t ht => hz t (by omega)⟩
    rw [O_search_L18, if_neg (show ¬ nI i < 64 by rw [show (64 : Int32) = nI 64 from rfl, nI_ltI (by omega) (by omega)]; omega)]
  | k + 1, i, f + 1, S, hi, hf, hz => by
    obtain ⟨S', a1, a2, a4, a3⟩ := zeroN (k3 := k3) k (i + 1) f (sI S 14 i 0) (by omega) (by omega) (fun t ht => by
      rw [sI_at]
      by_cases e : t = i
      · rw [if_pos ⟨rfl, e⟩]
      · rw [if_neg (fun z => e z.2), hz t (by omega)])
    refine ⟨S', ?_, Sq9.sI.tr a2, a4, a3⟩
    rw [O_search_L18, if_pos (show nI i < 64 from (nI_ltI (b := 64) (by omega) (by omega)).mpr (by omega)), chk_n _ (by omega) (by decide), nI_clamp (by omega), bnd_e, bnd_e, nI_1]
    exact a1
def TT (S : St) (m a : Nat) : Nat := (S.1 15 (m * 8 + a)).toNatClampNeg
/-- the clause of the least cost from a through m -/
def dpC (S : St) (W : Nat → Nat → Nat) (m a : Nat) : Prop := S.1 15 (m * 8 + a) = nI (TT S m a) ∧ TT S m a ≤ pc m 16 * 20000 ∧ (nd m (2 ^ a) = 0 → TT S m a = 0) ∧ (nd m (2 ^ a) ≠ 0 → (∀ b, (nd m (2 ^ a)).testBit b = true → TT S m a ≤ W a b + TT S (nd m (2 ^ a)) b) ∧ ∃ b, (nd m (2 ^ a)).testBit b = true ∧ TT S m a = W a b + TT S (nd m (2 ^ a)) b)
theorem nd_less {m a : Nat} (h : m < 2 ^ 32) (ha : m.testBit a = true) : nd m (2 ^ a) < m := by
  refine Nat.lt_of_le_of_ne Nat.and_le_left fun e => ?_
  have := nd1_bit (a := a) (v := a) h
  rw [e, ha, decide_eq_true rfl] at this
  cases this
theorem dpC_fr {S S' : St} {W : Nat → Nat → Nat} {n m a : Nat} (n8 : n ≤ 8) (hm : m < 2 ^ n) (ha : m.testBit a = true) (h1 : S'.1 15 (m * 8 + a) = S.1 15 (m * 8 + a)) (h2 : ∀ b, b < 8 → S'.1 15 (nd m (2 ^ a) * 8 + b) = S.1 15 (nd m (2 ^ a) * 8 + b)) (h : dpC S W m a) : dpC S' W m a := by
  have e1 : TT S' m a = TT S m a := by unfold TT; rw [h1]
  have e2 : ∀ b, (nd m (2 ^ a)).testBit b = true → TT S' (nd m (2 ^ a)) b = TT S (nd m (2 ^ a)) b := fun b hb => by
    have := bit_lt (nd_lt hm) hb
    unfold TT
    rw [h2 b (by omega)]
  obtain ⟨g1, g2, g3, g4⟩ := h
  unfold dpC
  rw [e1, h1]
  refine ⟨g1, g2, g3, fun z => ?_⟩
  obtain ⟨k1, b, k2, k3⟩ := g4 z
  exact ⟨fun b hb => by rw [e2 b hb]; exact k1 b hb, b, k2, by rw [e2 b k2]; exact k3⟩
theorem jmin_n {a b : Nat} (ha : a < 2 ^ 31) (hb : b < 2 ^ 31) : jmin (nI a) (nI b) = nI (min a b) := by
  unfold jmin
  have lt := nI_ltI ha hb
  have le := nI_leI ha hb
  first
  | (by_cases g : a < b
     · rw [if_pos (lt.mpr g), Nat.min_eq_left (by omega)]
     · rw [if_neg (fun z => g (lt.mp z)), Nat.min_eq_right (by omega)])
  | (have lt2 := nI_ltI hb ha
     by_cases g : b < a
     · rw [if_pos (lt2.mpr g), Nat.min_eq_right (by omega)]
     · rw [if_neg (fun z => g (lt2.mp z)), Nat.min_eq_left (by omega)])
theorem behind_e {n a m : Nat} {S : St} {W : Nat → Nat → Nat} {k1 : Int32 → Option Int32} (n8 : n ≤ 8) (ha : a < n) (hm : m < 2 ^ n) (h3 : S.1 13 3 = nI n) (hw : wtN S n W) (hW : ∀ a b, W a b ≤ 20000) (hd : ∀ b, m.testBit b = true → dpC S W m b) : ∀ (k i f X : Nat), i + k = n → k < f → X < 2 ^ 31 → ∃ Y, O_costBehind_L6 F9 (nI a) (nI m) S k1 f (nI X) (nI i) = k1 (nI Y) ∧ Y ≤ X ∧ (∀ b, i ≤ b → m.testBit b = true → Y ≤ W a b + TT S m b) ∧ (Y = X ∨ ∃ b, m.testBit b = true ∧ Y = W a b + TT S m b)
  | 0, i, f + 1, X, hi, hf, hX => by
    refine ⟨X, ?_, Nat.le_refl _, fun b h1 h2 => ?_, Or.inl rfl⟩
    · rw [O_costBehind_L6, h3, if_neg (by rw [nI_ltI (by omega) (by omega)]; omega)]
    · have := bit_lt hm h2; omega
  | k + 1, i, f + 1, X, hi, hf, hX => by
    have hpw := pw_hi n8
    rw [O_costBehind_L6, h3, if_pos (by rw [nI_ltI (by omega) (by omega)]; omega), jbit_n (by omega) (by omega), jn_e]
    simp only [bnd_e, nI_1]
    by_cases g : m.testBit i = true
    · obtain ⟨d1, d2, -⟩ := hd i g
      have lp := pc_le m 16
      have lw := hW a i
      rw [if_pos g, if_neg (show ¬ nI 1 = 0 by decide), O_costVia, ix_e, crd_s, get14 (by omega), crd_s, ix_e, crd_s, get15 (by omega), crd_s, crd_s, hw a i ha (by omega), d1, nI_add, jmin_n hX (by omega)]
      obtain ⟨Y, y1, y2, y3, y4⟩ := behind_e (k1 := k1) n8 ha hm h3 hw hW hd k (i + 1) f (min X (W a i + TT S m i)) (by omega) (by omega) (by omega)
      refine ⟨Y, y1, by omega, fun b h1 h2 => ?_, ?_⟩
      · by_cases e : b = i
        · rw [e]; omega
        · exact y3 b (by omega) h2
      · rcases y4 with y4 | y4
        · by_cases c : X ≤ W a i + TT S m i
          · left; omega
          · exact Or.inr ⟨i, g, by omega⟩
        · exact Or.inr y4
    · rw [if_neg g, if_pos (show nI 0 = 0 from rfl)]
      obtain ⟨Y, y1, y2, y3, y4⟩ := behind_e (k1 := k1) n8 ha hm h3 hw hW hd k (i + 1) f X (by omega) (by omega) hX
      refine ⟨Y, y1, y2, fun b h1 h2 => ?_, y4⟩
      by_cases e : b = i
      · rw [e] at h2; exact absurd h2 g
      · exact y3 b (by omega) h2
theorem dp_in {n m : Nat} {W : Nat → Nat → Nat} {k9 : St → Option St} (n8 : n ≤ 8) (hm : m < 2 ^ n) (hW : ∀ a b, W a b ≤ 20000) : ∀ (k i f : Nat) (S : St), i + k = n → k < f → S.1 13 3 = nI n → wtN S n W → (∀ m' a, m' < m → m'.testBit a = true → dpC S W m' a) → (∀ a, a < i → m.testBit a = true → dpC S W m a) → ∃ S', O_search_L137 F9 (nI m) k9 f S (nI i) = k9 S' ∧ Sq9 15 S S' ∧ S'.2 = S.2 ∧ ∀ m' a, m' < m + 1 → m'.testBit a = true → dpC S' W m' a
  | 0, i, f + 1, S, hi, hf, h3, hw, hd, hc => by
    refine ⟨S, ?_, Sq9.rf, rfl, fun m' a h1 h2 => ?_⟩
    · rw [O_search_L137, h3, if_neg (by rw [nI_ltI (by omega) (by omega)]; omega)]
    · by_cases e : m' = m
      · rw [e] at h2 ⊢
        exact hc a (by have := bit_lt hm h2; omega) h2
      · exact hd m' a (by omega) h2
  | k + 1, i, f + 1, S, hi, hf, h3, hw, hd, hc => by
    have hpw := pw_hi n8
    rw [O_search_L137, h3, if_pos (by rw [nI_ltI (by omega) (by omega)]; omega), jbit_n (by omega) (by omega), jn_e]
    simp only [bnd_e, nI_1]
    by_cases g : m.testBit i = true
    · have less := nd_less (a := i) (p32 n8 hm) g
      have rl : nd m (2 ^ i) < 2 ^ n := nd_lt hm
      have pcr := pc_nd1 (lt8 n8 hm) g
      rw [if_pos g, if_neg (show ¬ nI 1 = 0 by decide), ix_e, crd_s, pw_n i (by omega), nd_e]
      obtain ⟨Y, y1, y2, y3, y4⟩ := behind_e (a := i) (m := nd m (2 ^ i)) (k1 := fun v2 => (if nI (nd m (2 ^ i)) = 0 then some 0 else some v2)) n8 (by omega) rl h3 hw hW (fun b hb => hd _ b less hb) n 0 F9 1048576 (by omega) (by unfold F9; omega) (by omega)
      have ez : nI (nd m (2 ^ i)) = 0 ↔ nd m (2 ^ i) = 0 := nI_eq (b := 0) (by omega) (by omega)
      generalize hZ : (if nd m (2 ^ i) = 0 then 0 else Y) = Z
      have eC : O_costBehind F9 S (nI i) (nI (nd m (2 ^ i))) = some (nI Z) := by
        have y1' : O_costBehind_L6 F9 (nI i) (nI (nd m (2 ^ i))) S (fun v2 => (if nI (nd m (2 ^ i)) = 0 then some 0 else some v2)) F9 1048576 0 = _ := y1
        unfold O_costBehind
        rw [y1', ← hZ]
        by_cases c : nd m (2 ^ i) = 0
        · rw [if_pos (ez.mpr c), if_pos c]; rfl
        · rw [if_neg (fun z => c (ez.mp z)), if_neg c]
      have hZ1 : Z ≤ pc m 16 * 20000 ∧ (nd m (2 ^ i) = 0 → Z = 0) ∧ (nd m (2 ^ i) ≠ 0 → (∀ b, (nd m (2 ^ i)).testBit b = true → Z ≤ W i b + TT S (nd m (2 ^ i)) b) ∧ ∃ b, (nd m (2 ^ i)).testBit b = true ∧ Z = W i b + TT S (nd m (2 ^ i)) b) := by
        by_cases c : nd m (2 ^ i) = 0
        · rw [if_pos c] at hZ
          exact ⟨by omega, fun _ => hZ.symm, fun z => absurd c z⟩
        · rw [if_neg c] at hZ
          subst hZ
          obtain ⟨b, hb, yb⟩ : ∃ b, (nd m (2 ^ i)).testBit b = true ∧ Y = W i b + TT S (nd m (2 ^ i)) b := by
            rcases y4 with y4 | y4
            · obtain ⟨b, hb⟩ : ∃ b, (nd m (2 ^ i)).testBit b = true := Nat.exists_testBit_of_ne_zero c
              have := y3 b (Nat.zero_le _) hb
              obtain ⟨-, d2, -⟩ := hd _ b less hb
              have := hW i b
              have := pc_le (nd m (2 ^ i)) 16
              omega
            · exact y4
          obtain ⟨-, d2, -⟩ := hd _ b less hb
          have := hW i b
          exact ⟨by omega, fun z => absurd z c, fun _ => ⟨fun b hb => y3 b (Nat.zero_le _) hb, b, hb, yb⟩⟩
      rw [eC, crd_s, put15 (by omega), cav_s]
      have at1 : ∀ t, t ≠ m * 8 + i → (sI S 15 (m * 8 + i) (nI Z)).1 15 t = S.1 15 t := fun t ht => by rw [sI_at, if_neg (fun z => ht z.2)]
      have at2 : (sI S 15 (m * 8 + i) (nI Z)).1 15 (m * 8 + i) = nI Z := by rw [sI_at, if_pos ⟨rfl, rfl⟩]
      have fr : ∀ m' a, m' ≤ m → m'.testBit a = true → (m' ≠ m ∨ a ≠ i) → dpC S W m' a → dpC (sI S 15 (m * 8 + i) (nI Z)) W m' a := fun m' a h1 h2 h4 h5 => by
        have hm' : m' < 2 ^ n := by omega
        have a8 := bit_lt hm' h2
        have ls := nd_less (p32 n8 hm') h2
        exact dpC_fr n8 hm' h2 (at1 _ (by omega)) (fun b hb => at1 _ (by omega)) h5
      obtain ⟨S', b1, b2, b3, b4⟩ := dp_in (k9 := k9) n8 hm hW k (i + 1) f (sI S 15 (m * 8 + i) (nI Z)) (by omega) (by omega) (by rw [sI_row _ _ _ _ _ (by decide), h3]) (fun a b ha hb => by rw [sI_row _ _ _ _ _ (by decide)]; exact hw a b ha hb) (fun m' a h1 h2 => fr m' a (by omega) h2 (Or.inl (by omega)) (hd m' a h1 h2)) (fun a h1 h2 => by
        by_cases e : a = i
        · subst e
          have eT : TT (sI S 15 (m * 8 + a) (nI Z)) m a = Z := by
            have := pc_le m 16
            unfold TT
            rw [at2, nI_clamp (by omega)]
          have eR : ∀ b, (nd m (2 ^ a)).testBit b = true → TT (sI S 15 (m * 8 + a) (nI Z)) (nd m (2 ^ a)) b = TT S (nd m (2 ^ a)) b := fun b hb => by
            have := bit_lt rl hb
            unfold TT
            rw [at1 _ (by omega)]
          obtain ⟨z1, z2, z3⟩ := hZ1
          unfold dpC
          rw [eT]
          refine ⟨at2, z1, z2, fun c => ?_⟩
          obtain ⟨q1, b, q2, q3⟩ := z3 c
          exact ⟨fun b hb => by rw [eR b hb]; exact q1 b hb, b, q2, by rw [eR b q2]; exact q3⟩
        · exact fr m a (Nat.le_refl _) h2 (Or.inr e) (hc a (by omega) h2))
      exact ⟨S', b1, Sq9.sI.tr b2, b3, b4⟩
    · rw [if_neg g, if_pos (show nI 0 = 0 from rfl)]
      exact dp_in (k9 := k9) n8 hm hW k (i + 1) f S (by omega) (by omega) h3 hw hd (fun a h1 h2 => by
        by_cases e : a = i
        · rw [e] at h2; exact absurd h2 g
        · exact hc a (by omega) h2)
theorem dp_out {n : Nat} {W : Nat → Nat → Nat} (n8 : n ≤ 8) (hW : ∀ a b, W a b ≤ 20000) : ∀ (k i f : Nat) (S : St), i + k = 2 ^ n → k < f → S.1 13 3 = nI n → wtN S n W → (∀ m' a, m' < i → m'.testBit a = true → dpC S W m' a) → ∃ S', O_search_L125 F9 f S (nI i) = some S' ∧ Sq9 15 S S' ∧ S'.2 = S.2 ∧ ∀ m' a, m' < 2 ^ n → m'.testBit a = true → dpC S' W m' a
  | 0, i, f + 1, S, hi, hf, h3, hw, hd => by
    have hpw := pw_hi n8
    refine ⟨S, ?_, Sq9.rf, rfl, fun m' a h1 h2 => hd m' a (by omega) h2⟩
    rw [O_search_L125, h3, pw_n n (by omega), if_neg (by rw [nI_ltI (by omega) (by omega)]; omega)]
  | k + 1, i, f + 1, S, hi, hf, h3, hw, hd => by
    have hpw := pw_hi n8
    obtain ⟨S1, a1, a2, a3, a4⟩ := dp_in (m := i) (k9 := fun S10 => bnd (nI i + 1) fun v11 => O_search_L125 F9 f S10 v11) n8 (by omega) hW n 0 F9 S (by omega) (by unfold F9; omega) h3 hw hd (fun a h => absurd h (Nat.not_lt_zero a))
    obtain ⟨S', b1, b2, b3, b4⟩ := dp_out n8 hW k (i + 1) f S1 (by omega) (by omega) (by rw [a2 13 (by decide), h3]) (fun a b ha hb => by rw [a2 14 (by decide)]; exact hw a b ha hb) a4
    refine ⟨S', ?_, a2.tr b2, by rw [b3, a3], b4⟩
    rw [nI_0] at a1
    rw [O_search_L125, h3, pw_n n (by omega), if_pos (by rw [nI_ltI (by omega) (by omega)]; omega), a1, bnd_e, nI_1]
    exact b1
