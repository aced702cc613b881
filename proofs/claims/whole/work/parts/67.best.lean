/-! B: best, the call -/
theorem least_loop {n : Nat} {S : St} {W : Nat → Nat → Nat} {k2 : Int32 → Option Int32} (n8 : n ≤ 8) (h3 : S.1 13 3 = nI n) (hd : ∀ a, a < n → dpC S W (2 ^ n - 1) a) : ∀ (k i f X : Nat), i + k = n → k < f → X < 2 ^ 31 → ∃ Y, O_leastCost_L14 F9 S (nI (2 ^ n - 1)) k2 f (nI X) (nI i) = k2 (nI Y) ∧ Y ≤ X ∧ (∀ b, i ≤ b → b < n → Y ≤ TT S (2 ^ n - 1) b) ∧ (Y = X ∨ ∃ b, b < n ∧ Y = TT S (2 ^ n - 1) b)
  | 0, i, f + 1, X, hi, hf, hX => by
    refine ⟨X, ?_, Nat.le_refl _, fun b h1 h2 => by omega, Or.inl rfl⟩
    rw [O_leastCost_L14, h3, if_neg (by rw [nI_ltI (by omega) (by omega)]; omega)]
  | k + 1, i, f + 1, X, hi, hf, hX => by
    have hpw := pw_hi n8
    obtain ⟨d1, d2, -⟩ := hd i (by omega)
    have lp := pc_le (2 ^ n - 1) 16
    obtain ⟨Y, y1, y2, y3, y4⟩ := least_loop (k2 := k2) n8 h3 hd k (i + 1) f (min X (TT S (2 ^ n - 1) i)) (by omega) (by omega) (by omega)
    refine ⟨Y, ?_, by omega, fun b h1 h2 => ?_, ?_⟩
    · rw [O_leastCost_L14, h3, if_pos (by rw [nI_ltI (by omega) (by omega)]; omega), ix_e, crd_s, get15 (by omega), crd_s, d1, jmin_n hX (by omega), bnd_e, bnd_e, nI_1]
      exact y1
    · by_cases e : b = i
      · rw [e]; omega
      · exact y3 b (by omega) h2
    · rcases y4 with y4 | y4
      · by_cases c : X ≤ TT S (2 ^ n - 1) i
        · left; omega
        · exact Or.inr ⟨i, by omega, by omega⟩
      · exact Or.inr y4
theorem leastCost_e {n c : Nat} {S : St} {W : Nat → Nat → Nat} (n2 : 2 ≤ n) (n8 : n ≤ 8) (h3 : S.1 13 3 = nI n) (h4 : S.1 13 4 = nI c) (hd : ∀ a, a < n → dpC S W (2 ^ n - 1) a) : ∃ Y, O_leastCost F9 S = some (nI (c + Y)) ∧ (∀ b, b < n → Y ≤ TT S (2 ^ n - 1) b) ∧ ∃ b, b < n ∧ Y = TT S (2 ^ n - 1) b := by
  have hpw := pw_hi n8
  obtain ⟨Y, y1, y2, y3, y4⟩ := least_loop (k2 := fun v3 => some ((S.1 13 4) + v3)) n8 h3 hd n 0 F9 1048576 (by omega) (by unfold F9; omega) (by omega)
  have y1' : O_leastCost_L14 F9 S (nI (2 ^ n - 1)) (fun v3 => some ((S.1 13 4) + v3)) F9 1048576 0 = _ := y1
  refine ⟨Y, ?_, fun b hb => y3 b (Nat.zero_le _) hb, ?_⟩
  · unfold O_leastCost
    rw [bnd_e, h3, pw_n n (by omega), pw_1 n8, y1', h4, nI_add]
  · rcases y4 with y4 | y4
    · obtain ⟨d1, d2, -⟩ := hd 0 (by omega)
      have := y3 0 (Nat.le_refl _) (by omega)
      have := pc_le (2 ^ n - 1) 16
      omega
    · exact y4
theorem cheap_loop {n m c : Nat} {p2 : Int32} {S : St} {val : Nat → Nat} (n8 : n ≤ 8) (hm : m < 2 ^ n) (h3 : S.1 13 3 = nI n) (hc : c < 2 ^ 31) (hv : ∀ v, m.testBit v = true → val v < 2 ^ 31 ∧ ((p2 < 0 ∧ S.1 15 (m * 8 + v) = nI (val v)) ∨ (¬ p2 < 0 ∧ O_costVia F9 S p2 (nI v) (nI m) = some (nI (val v))))) : ∀ (k i f : Nat), i + k = n → k < f → (∀ v, v < i → m.testBit v = true → val v ≠ c) → (∃ v, m.testBit v = true ∧ val v = c) → ∃ v, O_cheapestOf_L3 F9 (nI m) p2 (nI c) S f (nI i) = some (nI v) ∧ m.testBit v = true ∧ val v = c ∧ ∀ u, u < v → m.testBit u = true → val u ≠ c
  | 0, i, f + 1, hi, hf, hl, ⟨v, h1, h2⟩ => by
    have := bit_lt hm h1
    exact absurd h2 (hl v (by omega) h1)
  | k + 1, i, f + 1, hi, hf, hl, he => by
    have hpw := pw_hi n8
    rw [O_cheapestOf_L3, h3, if_pos (by rw [nI_ltI (by omega) (by omega)]; omega), jbit_n (by omega) (by omega)]
    simp only [jn_e, bnd_e, nI_1]
    by_cases g : m.testBit i = true
    · rw [if_pos g, if_neg (show ¬ nI 1 = 0 by decide)]
      obtain ⟨b, hv'⟩ := hv i g
      have eq : nI (val i) = nI c ↔ val i = c := nI_eq b hc
      have key : ∃ v, (if nI (val i) = nI c then some (nI i) else O_cheapestOf_L3 F9 (nI m) p2 (nI c) S f (nI (i + 1))) = some (nI v) ∧ m.testBit v = true ∧ val v = c ∧ ∀ u, u < v → m.testBit u = true → val u ≠ c := by
        by_cases e : val i = c
        · rw [if_pos (eq.mpr e)]
          exact ⟨i, rfl, g, e, hl⟩
        · rw [if_neg (fun z => e (eq.mp z))]
          exact cheap_loop n8 hm h3 hc hv k (i + 1) f (by omega) (by omega) (fun v h1 h2 => by
            by_cases e2 : v = i
            · rw [e2]; exact e
            · exact hl v (by omega) h2) he
      rcases hv' with ⟨q1, q2⟩ | ⟨q1, q2⟩
      · rw [if_pos q1, ix_e, crd_s, get15 (by omega), crd_s, q2]
        exact key
      · rw [if_neg q1, q2, crd_s]
        exact key
    · rw [if_neg g, if_pos (show nI 0 = 0 from rfl)]
      exact cheap_loop n8 hm h3 hc hv k (i + 1) f (by omega) (by omega) (fun v h1 h2 => by
        by_cases e2 : v = i
        · rw [e2] at h2; exact absurd h2 g
        · exact hl v (by omega) h2) he
theorem nd_back {m a : Nat} (h : m < 2 ^ 32) (ha : m.testBit a = true) : nd m (2 ^ a) ||| 2 ^ a = m := by
  refine Nat.eq_of_testBit_eq fun v => ?_
  rw [fb_bit_set, nd1_bit h]
  by_cases e : v = a
  · rw [e, ha, decide_eq_true rfl, Bool.or_true]
  · rw [decide_eq_false e, Bool.or_false, Bool.not_false, Bool.and_true]
theorem figs_N {n Y : Nat} {S : St} {W : Nat → Nat → Nat} (n8 : n ≤ 8) (hY : Y < 2 ^ 31) (h3 : S.1 13 3 = nI n) (hw : wtN S n W) (hW : ∀ a b, W a b ≤ 20000) (hd : ∀ m' a, m' < 2 ^ n → m'.testBit a = true → dpC S W m' a) (hT : dpT n W (TT S)) : ∀ (k i f : Nat) (P : Nat → Nat), i + k = n → k < f → (∀ j, j < i → GG n W (TT S) Y P j) → (i < n → HM n W (TT S) Y P i) → ∃ Q, O_leastFigures_L28 F9 S f (nI (rmk n P i)) (nI (ccP n (TT S) Y P i)) (nI (fgp P i)) (if i = 0 then -4 else nI (P (i - 1))) (nI i) = some (nI (fgp Q n)) ∧ ∀ j, j < n → GG n W (TT S) Y Q j
  | 0, i, f + 1, P, hi, hf, hg, hh => by
    refine ⟨P, ?_, fun j hj => hg j (by omega)⟩
    rw [O_leastFigures_L28, h3, if_neg (by rw [nI_ltI (by omega) (by omega)]; omega), show i = n by omega]
  | k + 1, i, f + 1, P, hi, hf, hg, hh => by
    have hpw := pw_hi n8
    have rl := rmk_lt (n := n) (r := P) i
    obtain ⟨m1, v0, m2, m3⟩ := hh (by omega)
    have Pn : ∀ j, j < i → P j < n := fun j hj => ((rmk_bit n8 j).mp (hg j hj).1).1
    have tl : ∀ m' a, m' < 2 ^ n → m'.testBit a = true → TT S m' a ≤ 320000 := fun m' a h1 h2 => by
      have := (hd m' a h1 h2).2.1
      have := pc_le m' 16
      omega
    have cl : ccP n (TT S) Y P i < 2 ^ 31 := by
      unfold ccP
      by_cases g : i = 0
      · rw [if_pos g]; exact hY
      · rw [if_neg g]
        have := tl _ _ (rmk_lt (i - 1)) (hg (i - 1) (by omega)).1
        omega
    obtain ⟨v, c1, c2, c3, c4⟩ := cheap_loop (p2 := if i = 0 then -4 else nI (P (i - 1))) (val := vvP n W (TT S) P i) n8 rl h3 cl (fun v hv => by
      have vn : v < n := bit_lt rl hv
      have t1 := tl _ v rl hv
      have dd := (hd _ v rl hv).1
      unfold vvP
      by_cases g : i = 0
      · rw [if_pos g, if_pos g, Nat.zero_add]
        exact ⟨by omega, Or.inl ⟨by decide, dd⟩⟩
      · have pn := Pn (i - 1) (by omega)
        have w1 := hW (P (i - 1)) v
        rw [if_neg g, if_neg g]
        refine ⟨by omega, Or.inr ⟨nI_pos (by omega), ?_⟩⟩
        unfold O_costVia
        rw [ix_e, crd_s, get14 (by omega), crd_s, ix_e, crd_s, get15 (by omega), crd_s, hw _ _ pn vn, dd, nI_add]) n 0 F9 (by omega) (by unfold F9; omega) (fun v hv => absurd hv (Nat.not_lt_zero v)) ⟨v0, m2, m3⟩
    have vn : v < n := bit_lt rl c2
    -- the order with v put
    generalize hQ : (fun j => if j = i then v else P j) = Q
    have Qi : Q i = v := by rw [← hQ]; exact if_pos rfl
    have Qj : ∀ j, j < i → P j = Q j := fun j hj => by rw [← hQ]; exact (if_neg (show ¬ j = i by omega)).symm
    have eR : rmk n Q i = rmk n P i := (rmk_cong Qj).symm
    have gQ : ∀ j, j < i + 1 → GG n W (TT S) Y Q j := fun j hj => by
      by_cases e : j = i
      · subst e
        unfold GG
        rw [eR, Qi, ← ccP_cong Qj, ← vvP_cong Qj]
        refine ⟨c2, c3, fun u hu => ?_⟩
        rw [← vvP_cong Qj]
        exact ⟨m1 u hu, fun z => c4 u z hu⟩
      · exact GG_cong (fun t ht => Qj t (by omega)) (hg j (by omega))
    obtain ⟨R, r1, r2⟩ := figs_N n8 hY h3 hw hW hd hT k (i + 1) f Q (by omega) (by omega) gQ (fun h => HM_next n8 hT h gQ)
    refine ⟨R, ?_, r2⟩
    have f1 : fgp Q (i + 1) = fgp P i * 10 + v := by
      rw [fgp, Qi, ← fgp_cong Qj, Nat.mul_comm]
    have f2 : rmk n Q (i + 1) = nd (rmk n P i) (2 ^ v) := by rw [rmk, eR, Qi]
    have f3 : ccP n (TT S) Y Q (i + 1) = TT S (rmk n P i) v := by
      unfold ccP
      rw [if_neg (by omega), show i + 1 - 1 = i by omega, eR, Qi]
    rw [f1, f2, f3, if_neg (show ¬ i + 1 = 0 by omega), show i + 1 - 1 = i by omega, Qi] at r1
    rw [nI_0] at c1
    rw [O_leastFigures_L28, h3, if_pos (by rw [nI_ltI (by omega) (by omega)]; omega), O_cheapestOf, c1, crd_s, pw_n v (by omega), nd_e, bnd_e, ni_or, nd_back (p32 n8 rl) c2, ix_e, crd_s, get15 (by omega), crd_s, (hd _ v rl c2).1, show (10 : Int32) = nI 10 from rfl, pk_mul, nI_add, bnd_e, bnd_e, nI_1]
    exact r1
theorem sm_mul (c : Nat) (f : Nat → Nat) : ∀ n, fb_sm (fun k => c * f k) n = c * fb_sm f n
  | 0 => rfl
  | n + 1 => by rw [fb_sm_succ, fb_sm_succ, sm_mul c f n, Nat.mul_add]
theorem BestP_one {n d : Nat} {D : Nat → Nat → Nat} {V V' : Nat → Nat} (h1 : BestP n d D V) (h2 : BestP n d D V') : ∀ i, i < n → V i = V' i := by
  obtain ⟨a1, a2⟩ := h1.2 V' h2.1
  obtain ⟨b1, b2⟩ := h2.2 V h1.1
  rcases lxp_cases n V V' with c | c | c
  · exact absurd c (b2 (by omega))
  · exact absurd c (a2 (by omega))
  · exact c
theorem ok_best : st_best F9 Rel9 := by
  intro S M h x
  obtain ⟨n, hp⟩ := h.1
  obtain ⟨n2, n8, sn, mn, ⟨o, o99, so, mo⟩, ⟨d, d99, sd, md⟩, ⟨sh, hsh, sq, mq⟩, ⟨l, l40, sl, ml, hrow⟩, hord, hperm⟩ := id hp
  by_cases g1 : 0 ≤ x.toInt ∧ x.toInt ≤ 1
  · obtain ⟨V, M', m1, m2, m3⟩ := best_M (p1 := x) n2 n8 l40 d99 mn ml mo md hrow g1
    have hW : ∀ a b, d * DD S l a b ≤ 20000 := fun a b => by
      have := Nat.mul_le_mul d99 (DD_le S l a b l40)
      omega
    have hpw := pw_hi n8
    have ppos := Nat.two_pow_pos n
    -- the class's search
    generalize hS2 : sI (sI S 13 3 (nI n)) 13 4 0 = S2
    have q3 : S2.1 13 3 = nI n := by rw [← hS2, sI_at, if_neg (by decide), sI_at, if_pos ⟨rfl, rfl⟩]
    have q4 : S2.1 13 4 = 0 := by rw [← hS2, sI_at, if_pos ⟨rfl, rfl⟩]
    have sq2 : SqO S S2 := ⟨fun q a _ _ => by rw [← hS2, sI_row _ _ _ _ _ a, sI_row _ _ _ _ _ a], by rw [← hS2]; rfl⟩
    obtain ⟨S3, a1, a2, a3, a4⟩ := zeroN (k3 := fun S4 => O_search_L42 F9 (fun S6 => O_search_L125 F9 F9 S6 1) F9 S4 0) 64 0 F9 S2 (by omega) (by unfold F9; omega) (fun t ht => by omega)
    obtain ⟨S4, b1, b2, b3, b4, b5⟩ := rowN_loop (o := o) (d := d) (k5 := fun S6 => O_search_L125 F9 F9 S6 1) n2 n8 l40 sl so sd hrow l 0 F9 S3 (by omega) (by unfold F9; omega) (sq2.tr (a2.o14 a3)) (by rw [a2 13 (by decide), q3]) (by rw [a2 13 (by decide), q4]; rfl) (fun a b ha hb => by rw [a4 _ (by omega)]; rfl)
    obtain ⟨S5, d1, d2, d3, d4⟩ := dp_out n8 hW (2 ^ n - 1) 1 F9 S4 (by omega) (by unfold F9; omega) b3 b5 (fun m' a h1 h2 => by
      have : m' = 0 := by omega
      rw [this, Nat.zero_testBit] at h2; cases h2)
    have sq5 : SqO S S5 := b2.tr (d2.o15 d3)
    have e3 : S5.1 13 3 = nI n := by rw [d2 13 (by decide), b3]
    have e4 : S5.1 13 4 = nI (o * MC S n l) := by rw [d2 13 (by decide), b4]
    have hw5 : wtN S5 n (fun a b => d * DD S l a b) := fun a b ha hb => by rw [d2 14 (by decide)]; exact b5 a b ha hb
    have full : ∀ a, a < n → (2 ^ n - 1).testBit a = true := fun a ha => by rw [Nat.testBit_two_pow_sub_one]; exact decide_eq_true ha
    have hT : dpT n (fun a b => d * DD S l a b) (TT S5) := fun m a hm ha => (d4 m a hm ha).2.2
    obtain ⟨Y, y1, y2, b0, y3, y4⟩ := leastCost_e n2 n8 e3 e4 (fun a ha => d4 _ a (pw_m1 n) (full a ha))
    have Yl : Y < 2 ^ 31 := by
      have := (d4 _ b0 (pw_m1 n) (full b0 y3)).2.1
      have := pc_le (2 ^ n - 1) 16
      omega
    have hm0 : HM n (fun a b => d * DD S l a b) (TT S5) Y (fun _ => 0) 0 := by
      refine ⟨fun v hv => ?_, b0, full b0 y3, ?_⟩
      · have vn : v < n := bit_lt (pw_m1 n) hv
        show Y ≤ 0 + TT S5 (2 ^ n - 1) v
        rw [Nat.zero_add]
        exact y2 v vn
      · show 0 + TT S5 (2 ^ n - 1) b0 = Y
        rw [Nat.zero_add, y4]
    obtain ⟨Q, f1, f2⟩ := figs_N n8 Yl e3 hw5 hW d4 hT n 0 F9 (fun _ => 0) (by omega) (by unfold F9; omega) (fun j hj => absurd hj (Nat.not_lt_zero j)) (fun _ => hm0)
    obtain ⟨k1, k2, k3⟩ := greedy_best n2 n8 hT f2
    have ct : ∀ r, tot n (fun a b => d * DD S l a b) r = d * csP n (DD S l) r := fun r => sm_mul d _ _
    have hB : BestP n d (DD S l) Q := ⟨k1, fun r hr => by
      have := k3 r hr
      rw [← ct, ← ct, k2]
      exact this⟩
    have e := BestP_one m3 hB
    have ec : d * csP n (DD S l) V = Y := by
      rw [← k2, ct]
      have a := (m3.2 Q k1).1
      have b := (hB.2 V m3.1).1
      omega
    have ef : fgp V n = fgp Q n := fgp_cong e
    have fin : Rel9 S5 M' := rel_sq h ⟨fun a ha => sq5.1 a (by omega) (by omega) (by omega), by rw [sq5.2]⟩ ⟨m2.1, fun a ha => m2.2 a (by omega) (by omega) (by omega) (by omega)⟩
    refine ⟨_, S5, M', ?_, m1, fin⟩
    rw [nI_0] at a1 b1
    have x0 : ¬ x < 0 := by rw [ilt, c0]; omega
    have x1 : ¬ 1 < x := by rw [ilt, c1]; omega
    have eS : O_search F9 S = some S5 := by
      unfold O_search
      rw [bnd_e, bnd_e, sn, hS2, a1, b1]
      exact d1
    have eF : O_leastFigures F9 S5 = some (nI (fgp Q n)) := by
      unfold O_leastFigures
      rw [bnd_e, y1, crd_s, bnd_e, e3, e4, pw_n n (by omega), pw_1 n8, show nI (o * MC S n l + Y) - nI (o * MC S n l) = nI Y by rw [pk_sub (by omega), Nat.add_sub_cancel_left]]
      exact f1
    unfold N_best
    rw [if_neg x0, if_neg x1, eS, cav_s, y1, eF, crd_s, crd_s, ec, ef]
    split <;> rfl
  · refine ⟨-1, S, M, ?_, ?_, h⟩
    · unfold N_best
      by_cases g : x < 0
      · rw [if_pos g]
      · rw [if_neg g, if_pos (by rw [ilt, c1]; rw [ilt, c0] at g; omega)]
    · unfold M_best
      rw [l0, l1, M_in_e, crd_s, i10, c0, c1, if_neg g1]
