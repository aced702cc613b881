/-! B: change, slow, row -/
theorem MoV.cong {M : St} {c g : Nat} {d d' : Nat → Int} (h : MoV M c g d) (e : ∀ p, p < c → d p = d' p) : MoV M c g d' := by
  obtain ⟨h1, h2, h3, h4, h5, h6⟩ := h
  exact ⟨h1, h2, h3, h4, h5, fun p hp => by rw [← e p hp]; exact h6 p hp⟩
theorem mvz_wbp {o : Nat → Nat} {a b n p : Nat} (hp : p < n) : mvz (wbp o a n) (wbp o b n) p = mvz a b (o p) := by
  rw [mvz_4, mvz_4, wbp_bit, wbp_bit, decide_eq_true hp, Bool.true_and, Bool.true_and]
theorem odn_S {n : Nat} {S M : St} (h : RelP n S M) {p : Nat} (hp : p < n) : S.1 2 p = nI (odn S 2 p) ∧ odn S 2 p < n ∧ M.1 2 p = nI (odn S 2 p) := by
  obtain ⟨n2, n8, sn, mn, ho, hs, hsh, hl, hord, hperm⟩ := h
  obtain ⟨v, hv, e1, e2⟩ := hord p hp
  have : odn S 2 p = v := by unfold odn; rw [e1, nI_clamp (by omega)]
  rw [this]
  exact ⟨e1, hv, e2⟩
theorem F9_20 : 20 ≤ F9 := by decide
theorem weigh_e {n a b sh : Nat} {S M S0 M0 : St} (h : RelP n S M) (hs : Sq5 S S0) (hm : Sq7 M M0) (h1 : sh < 2 ^ (n - 1)) (h2 : S.1 1 3 = nI sh) (h3 : M.1 0 3 = nI sh) (ha : a < 2 ^ n) (hb : b < 2 ^ n) : ∃ S' u w x y A B, N_weigh F9 S0 (nI a) (nI b) = some S' ∧ Sq5 S S' ∧ CV S' n sh A B u w x y ∧ A < 2 ^ n ∧ B < 2 ^ n ∧ ∃ M', M_plainMoves F9 M0 (nI a) (nI b) = some M' ∧ Sq7 M M' ∧ MoV M' n sh (mvz A B) := by
  obtain ⟨n2, n8, sn, mn, -⟩ := id h
  have hw := pw_hi n8
  have q2 : S0.1 2 = S.1 2 := hs.1 2 (by decide)
  have q1 : S0.1 1 = S.1 1 := hs.1 1 (by decide)
  have m2 : M0.1 2 = M.1 2 := hm.2.1 2 (by decide) (by decide)
  have od : odn S0 2 = odn S 2 := by funext p; unfold odn; rw [q2]
  have ho : ∀ p, p < n → S0.1 (1 + 1) p = nI (odn S0 (1 + 1) p) ∧ odn S0 (1 + 1) p < 32 := fun p hp => by
    have := odn_S h hp
    show S0.1 2 p = nI (odn S0 2 p) ∧ odn S0 2 p < 32
    rw [od, q2]
    exact ⟨this.1, by omega⟩
  have sn0 : S0.1 1 0 = nI n := by rw [q1, sn]
  have hA := wbp_lt (odn S 2) a n
  have hB := wbp_lt (odn S 2) b n
  have e1 := P_byPlaces_e (F := F9) (P := 1) (S := S0) (a := a) F9_20 n8 (by omega) sn0 ho
  have e2 := P_byPlaces_e (F := F9) (P := 1) (S := S0) (a := b) F9_20 n8 (by omega) sn0 ho
  rw [show odn S0 (1 + 1) = odn S 2 from od] at e1 e2
  have h1' : S0.1 1 3 = nI sh := by rw [q1, h2]
  obtain ⟨S', u, w, x, y, c1, c2, c3⟩ := C_between_e (F := F9) (S := S0) (by omega) n8 h1 hA hB
  have hg : 2 ^ (n - 1) ≤ 2 ^ n := Nat.pow_le_pow_right (by decide) (by omega)
  have mn0 : M0.1 0 0 = nI n := by rw [hm.1 0 (by decide) (by decide), mn]
  obtain ⟨M', d1, d2, d3⟩ := M_moves_e (F := F9) (n := n) (a := a) (b := b) (c := n) (g := sh) (M := M0) (e := odn S 2) (p4 := 1) F9_20 (by omega) (by omega) n8 (by omega) (by omega) (by omega) mn0 (fun p hp => by
    have := odn_S h hp
    refine ⟨by omega, ?_, ?_⟩
    · rintro (z | z)
      · cases z
      · exact absurd hp z
    · intro _
      rw [m2]
      exact this.2.2)
  refine ⟨S', u, w, x, y, _, _, ?_, ⟨fun q hq => (c2.1 q hq).trans (hs.1 q hq), c2.2.trans hs.2⟩, c3, hA, hB, M', ?_, ⟨fun k k1 k2 => (d2.1 k k1 k2).trans (hm.1 k k1 k2), fun q k1 k2 => (d2.2.1 q k1 k2).trans (hm.2.1 q k1 k2), d2.2.2.trans hm.2.2⟩, d3.cong fun p hp => (mvz_wbp hp).symm⟩
  · unfold N_weigh
    rw [e1, crd_s, e2, crd_s, sn0, h1', c1, cav_s]
  · unfold M_plainMoves
    rw [mn0, hm.1 3 (by decide) (by decide), h3, d1, cav_s]
theorem Sq5.rf {S : St} : Sq5 S S := ⟨fun _ _ => rfl, rfl⟩
theorem Sq7.rf {S : St} : Sq7 S S := ⟨fun _ _ _ => rfl, fun _ _ _ => rfl, rfl⟩
theorem ok_change : st_change F9 Rel9 := by
  intro S M h x y z
  obtain ⟨n, hp⟩ := h.1
  obtain ⟨n2, n8, sn, mn, ⟨o, o99, so, mo⟩, ⟨d, d99, sd, md⟩, ⟨q, hq, sq, mq⟩, hl, hord, hperm⟩ := id hp
  have h0 : (0 : Int64) = (0 : Int32).toInt64 := by decide
  have h3 : (3 : Int64) = (3 : Int32).toInt64 := by decide
  unfold N_change M_change
  rw [P_isWord_e 1 n8 sn, P_isWord_e 1 n8 sn, M_isWord_e n8 mn, M_isWord_e n8 mn, h0, h3, M_in_e]
  simp only [crd_s, i10]
  by_cases g1 : 0 ≤ x.toInt ∧ x.toInt < 2 ^ n
  · rw [if_pos g1, if_pos g1]
    by_cases g2 : 0 ≤ y.toInt ∧ y.toInt < 2 ^ n
    · rw [if_pos g2, if_pos g2]
      obtain ⟨a, ha, rfl, ea⟩ := i_nat g1.1
      obtain ⟨b, hb, rfl, eb⟩ := i_nat g2.1
      have la : a < 2 ^ n := by have := g1.2; rw [ea] at this; exact_mod_cast this
      have lb : b < 2 ^ n := by have := g2.2; rw [eb] at this; exact_mod_cast this
      obtain ⟨S', u, w, x', y', A, B, e1, s5, cv, lA, lB, M', e2, s7, mv⟩ := weigh_e hp Sq5.rf Sq7.rf hq sq mq la lb
      have fin := rel_sq h s5.sq s7.sq
      have fin0 := rel_sq h s5.sq SqM.rf
      have p1 : S'.1 1 1 = nI o := by rw [s5.1 1 (by decide), so]
      have p2 : S'.1 1 2 = nI d := by rw [s5.1 1 (by decide), sd]
      have r1 : M'.1 0 1 = nI o := by rw [s7.1 1 (by decide) (by decide), mo]
      have r2 : M'.1 0 2 = nI d := by rw [s7.1 2 (by decide) (by decide), md]
      rw [e1, e2, cav_s, cav_s, p1, p2, C_cost_e n8 cv, C_greatestSlow_e n8 cv, C_noise_e n8 lA lB cv, C_moves_e n8 cv]
      unfold M_told
      rw [M_costNow_e F9_20 mv r1 r2, M_slowNow_e F9_20 mv, M_noiseNow_e F9_20 mv, M_movedNow_e F9_20 mv, slw_D]
      simp only [crd_s]
      by_cases k0 : z = 0
      · subst k0
        exact ⟨_, S', M', by rw [if_pos rfl], by rw [if_pos (by decide), if_pos rfl, crd_s], fin⟩
      by_cases k1 : z = 1
      · subst k1
        exact ⟨_, S', M', by rw [if_neg (by decide), if_pos rfl], by rw [if_pos (by decide), if_neg (by decide), if_pos rfl, crd_s], fin⟩
      by_cases k2 : z = 2
      · subst k2
        exact ⟨_, S', M', by rw [if_neg (by decide), if_neg (by decide), if_pos rfl], by rw [if_pos (by decide), if_neg (by decide), if_neg (by decide), if_pos rfl, crd_s], fin⟩
      by_cases k3 : z = 3
      · subst k3
        exact ⟨_, S', M', by rw [if_neg (by decide), if_neg (by decide), if_neg (by decide), if_pos rfl], by rw [if_pos (by decide), if_neg (by decide), if_neg (by decide), if_neg (by decide), crd_s], fin⟩
      · refine ⟨-1, S', M, by rw [if_neg k0, if_neg k1, if_neg k2, if_neg k3], ?_, fin0⟩
        rw [if_neg]
        rw [ieq] at k0 k1 k2 k3
        rw [show (0 : Int32).toInt = 0 by decide] at k0 ⊢
        rw [show (1 : Int32).toInt = 1 by decide] at k1
        rw [show (2 : Int32).toInt = 2 by decide] at k2
        rw [show (3 : Int32).toInt = 3 by decide] at k3 ⊢
        omega
    · rw [if_neg g2, if_neg g2]
      exact ⟨-1, S, M, rfl, rfl, h⟩
  · rw [if_neg g1, if_neg g1]
    exact ⟨-1, S, M, rfl, rfl, h⟩
theorem placeOf_loop {F n w p0 : Nat} {S M S' : St} (h : RelP n S M) (e2 : S'.1 2 = S.1 2) (e1 : S'.1 1 = S.1 1) (hp0 : p0 < n) (hw : odn S 2 p0 = w) : ∀ (k i f : Nat), i + k = p0 → k < f → P_placeOf_L2 F (nI w) 1 S' f (nI i) = some (nI p0)
  | 0, i, f + 1, hi, hf => by
    have n8 := h.2.1
    have sn := h.2.2.1
    have od := odn_S h (p := i) (by omega)
    rw [P_placeOf_L2, e1, sn, if_pos (by rw [nI_ltI (by omega) (by omega)]; omega), P_wireAt, jn_e, if_neg (nI_pos (by omega)), if_pos (lt_8 (by omega)), chk_n _ (by omega) (by omega), crd_s, nI_clamp (by omega), e2, od.1, if_pos (by rw [show i = p0 by omega, hw]), show i = p0 by omega]
  | k + 1, i, f + 1, hi, hf => by
    have n8 := h.2.1
    have sn := h.2.2.1
    have od := odn_S h (p := i) (by omega)
    have od0 := odn_S h (p := p0) (by omega)
    have ne : ¬ nI (odn S 2 i) = nI w := fun z => by
      have := h.2.2.2.2.2.2.2.2.2 i p0 (by omega) hp0 (by rw [od.1, od0.1, z, hw])
      omega
    rw [P_placeOf_L2, e1, sn, if_pos (by rw [nI_ltI (by omega) (by omega)]; omega), P_wireAt, jn_e, if_neg (nI_pos (by omega)), if_pos (lt_8 (by omega)), chk_n _ (by omega) (by omega), crd_s, nI_clamp (by omega), e2, od.1, if_neg ne, bnd_e, nI_1]
    exact placeOf_loop h e2 e1 hp0 hw k (i + 1) f (by omega) (by omega)
theorem slow_loop {F n w p0 g : Nat} {S M M' : St} {d : Nat → Int} (h : RelP n S M) (e2 : M'.1 2 = M.1 2) (e1 : M'.1 0 0 = nI n) (hp0 : p0 < n) (hw : odn S 2 p0 = w) (mv : MoV M' n g d) : ∀ (k i f : Nat) (v : Int32), i + k = n → k < f → M_slow_L46 F (nI w) M' f v (nI i) = some (if i ≤ p0 then nI (slD n g d p0) else v, M')
  | 0, i, f + 1, v, hi, hf => by
    have n8 := h.2.1
    rw [M_slow_L46, e1, if_neg (by rw [nI_ltI (by omega) (by omega)]; omega), if_neg (by omega)]
  | k + 1, i, f + 1, v, hi, hf => by
    have n8 := h.2.1
    have od := odn_S h (p := i) (by omega)
    have od0 := odn_S h (p := p0) (by omega)
    rw [M_slow_L46, e1, if_pos (by rw [nI_ltI (by omega) (by omega)]; omega), chk_n _ (by omega) (by omega), nI_clamp (by omega), e2, od.2.2, jn_e]
    simp only [bnd_e, nI_1]
    by_cases g1 : i = p0
    · have ih := slow_loop (F := F) h e2 e1 hp0 hw mv k (i + 1) f (nI (slD n g d p0)) (by omega) (by omega)
      rw [if_pos (by rw [g1, hw]), M_slowAt_e mv (by omega), crd_s, g1]
      rw [g1] at ih
      rw [ih, if_neg (by omega), if_pos (by omega)]
    · have ne : ¬ nI (odn S 2 i) = nI w := fun z => by
        have := h.2.2.2.2.2.2.2.2.2 i p0 (by omega) hp0 (by rw [od.1, od0.1, z, hw])
        omega
      have ih := slow_loop (F := F) h e2 e1 hp0 hw mv k (i + 1) f v (by omega) (by omega)
      rw [if_neg ne, ih]
      by_cases g2 : i ≤ p0
      · rw [if_pos g2, if_pos (by omega)]
      · rw [if_neg g2, if_neg (by omega)]
theorem ok_slow : st_slow F9 Rel9 := by
  intro S M h x y z
  obtain ⟨n, hp⟩ := h.1
  obtain ⟨n2, n8, sn, mn, ⟨o, o99, so, mo⟩, ⟨d, d99, sd, md⟩, ⟨q, hq, sq, mq⟩, hl, hord, hperm⟩ := id hp
  have h0 : (0 : Int64) = (0 : Int32).toInt64 := by decide
  have e1 : (nI n - 1).toInt = (n : Int) - 1 := by
    rw [isub (by rw [n_i (by omega), c1]; omega) (by rw [n_i (by omega), c1]; omega), n_i (by omega), c1]
  unfold N_slow M_slow
  rw [P_isWord_e 1 n8 sn, P_isWord_e 1 n8 sn, M_isWord_e n8 mn, M_isWord_e n8 mn, P_isWire_e 1 n8 sn, h0, M_in_e, mn, c0, e1]
  simp only [crd_s, i10]
  by_cases g1 : 0 ≤ x.toInt ∧ x.toInt < 2 ^ n
  · rw [if_pos g1, if_pos g1]
    by_cases g2 : 0 ≤ y.toInt ∧ y.toInt < 2 ^ n
    · rw [if_pos g2, if_pos g2]
      by_cases g3 : 0 ≤ z.toInt ∧ z.toInt < (n : Int)
      · have g9 : 0 ≤ z.toInt ∧ z.toInt ≤ (n : Int) - 1 := ⟨g3.1, by omega⟩
        rw [if_pos g3, if_pos g9]
        obtain ⟨a, ha, rfl, ea⟩ := i_nat g1.1
        obtain ⟨b, hb, rfl, eb⟩ := i_nat g2.1
        obtain ⟨c, hc, rfl, ec⟩ := i_nat g3.1
        have la : a < 2 ^ n := by have := g1.2; rw [ea] at this; exact_mod_cast this
        have lb : b < 2 ^ n := by have := g2.2; rw [eb] at this; exact_mod_cast this
        have lc : c < n := by have := g3.2; rw [ec] at this; omega
        obtain ⟨S', u, w, x', y', A, B, e1, s5, cv, lA, lB, M', e2, s7, mv⟩ := weigh_e hp Sq5.rf Sq7.rf hq sq mq la lb
        have fin := rel_sq h s5.sq s7.sq
        obtain ⟨p0, hp0, ep0⟩ := fb_onto (f := odn S 2) (n := n) (fun i hi => (odn_S hp hi).2.1) (fun i j hij hj e => by
          have a1 := odn_S hp (p := i) (by omega)
          have a2 := odn_S hp (p := j) hj
          have := hperm i j (by omega) hj (by rw [a1.1, a2.1, e])
          omega) lc
        have r1 := placeOf_loop (F := F9) hp (s5.1 2 (by decide)) (s5.1 1 (by decide)) hp0 ep0 p0 0 F9 (by omega) (by unfold F9; omega)
        have r2 := slow_loop (F := F9) hp (s7.2.1 2 (by decide) (by decide)) (by rw [s7.1 0 (by decide) (by decide), mn]) hp0 ep0 mv n 0 F9 0 (by omega) (by unfold F9; omega)
        rw [nI_0] at r1 r2
        rw [e1, e2, cav_s, cav_s, P_placeOf, r1, crd_s, C_slowAt_e n8 cv hp0, crd_s, r2, if_pos (Nat.zero_le _)]
        exact ⟨_, S', M', rfl, rfl, fin⟩
      · rw [if_neg g3, if_neg (by omega)]
        exact ⟨-1, S, M, rfl, rfl, h⟩
    · rw [if_neg g2, if_neg g2]
      exact ⟨-1, S, M, rfl, rfl, h⟩
  · rw [if_neg g1, if_neg g1]
    exact ⟨-1, S, M, rfl, rfl, h⟩
