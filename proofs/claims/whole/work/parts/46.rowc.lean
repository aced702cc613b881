/-! B: row -/
def rwJ (p1 : Int32) (i : Nat) (c s ix m c' s' ix' : Int32) : Prop := (p1 = 0 → c' = c) ∧ (p1 = 3 → c' = m) ∧ ((i = 0 ∧ s = 0 ∧ ix = 0 ∧ s' = -1 ∧ ix' = -4) ∨ (0 < i ∧ ∃ t j : Nat, t ≤ 4 ∧ j ≤ 40 ∧ s = nI t ∧ s' = s ∧ ix = nI j ∧ ix' = ix))
/-- the word ahead of a place of the row -/
theorem ahead_e {F n l i : Nat} {S M S0 M0 : St} (l40 : l ≤ 40) (hrow : ∀ k, k < l → ∃ v, v < 2 ^ n ∧ S.1 3 k = nI v ∧ M.1 1 k = nI v) (s3 : S0.1 3 = S.1 3) (m1 : M0.1 1 = M.1 1) (hi : i < l) : ∃ a b, a < 2 ^ n ∧ b < 2 ^ n ∧ P_wordAt F 1 S0 (nI i - 1) = some (nI a) ∧ P_wordAt F 1 S0 (nI i) = some (nI b) ∧ M_ahead F M0 (nI i) = some (nI a) ∧ M0.1 1 i = nI b := by
  have wa : ∀ k, k < l → P_wordAt F 1 S0 (nI k) = some (S.1 3 k) := fun k hk => by
    unfold P_wordAt
    rw [jn_e, if_neg (nI_pos (by omega)), if_pos (show nI k < 40 from (nI_ltI (b := 40) (by omega) (by omega)).mpr (by omega)), chk_n _ (by omega) (by omega), nI_clamp (by omega), s3]
  obtain ⟨b, hb, e1, e2⟩ := hrow i hi
  by_cases g : i = 0
  · subst g
    refine ⟨0, b, Nat.two_pow_pos n, hb, ?_, ?_, ?_, by rw [m1, e2]⟩
    · unfold P_wordAt
      rw [jn_e, if_pos (by decide)]
      rfl
    · rw [wa 0 hi, e1]
    · unfold M_ahead
      rw [if_pos (show nI 0 = 0 from rfl)]
      rfl
  · obtain ⟨a, ha, f1, f2⟩ := hrow (i - 1) (by omega)
    have e0 : nI i - 1 = nI (i - 1) := pk_sub (a := i) (b := 1) (by omega)
    refine ⟨a, b, ha, hb, ?_, ?_, ?_, by rw [m1, e2]⟩
    · rw [e0, wa (i - 1) (by omega), f1]
    · rw [wa i hi, e1]
    · unfold M_ahead
      rw [if_neg (nI_ne0 (by omega) (by omega)), e0, chk_n _ (by omega) (by omega), nI_clamp (by omega), m1, f2]
theorem row_loop {n o d sh l : Nat} {S M : St} {p1 : Int32} {k5 : St → Int32 → Int32 → Int32 → Int32 → Int32 → Int32 → Option (Int32 × St)} {k3 : St → Int32 → Int32 → Int32 → Int32 → Int32 → Option (Int32 × St)} (h : RelP n S M) (so : S.1 1 1 = nI o) (mo : M.1 0 1 = nI o) (sd : S.1 1 2 = nI d) (md : M.1 0 2 = nI d) (hsh : sh < 2 ^ (n - 1)) (sq : S.1 1 3 = nI sh) (mq : M.1 0 3 = nI sh) (l40 : l ≤ 40) (sl : S.1 1 4 = nI l) (ml : M.1 0 4 = nI l) (hrow : ∀ k, k < l → ∃ v, v < 2 ^ n ∧ S.1 3 k = nI v ∧ M.1 1 k = nI v) : ∀ (k i f f' : Nat) (SN SM : St) (c s z m ix ct c' s' ix' : Int32), i + k = l → k < f → k < f' → Sq5 S SN → Sq7 M SM → rwJ p1 i c s ix m c' s' ix' → ∃ SN' SM' c2 s2 z2 m2 ix2 ct2 c2' s2' ix2', N_row_L71 F9 p1 k5 f SN c s z m ix ct (nI i) = k5 SN' c2 s2 z2 m2 ix2 ct2 ∧ M_row_L45 F9 p1 k3 f' SM c' s' ix' ct z (nI i) = k3 SM' c2' s2' ix2' ct2 z2 ∧ Sq5 S SN' ∧ Sq7 M SM' ∧ rwJ p1 l c2 s2 ix2 m2 c2' s2' ix2'
  | 0, i, f + 1, f' + 1, SN, SM, c, s, z, m, ix, ct, c', s', ix', hi, hf, hf', hS, hM, hJ => by
    refine ⟨SN, SM, c, s, z, m, ix, ct, c', s', ix', ?_, ?_, hS, hM, by rw [← show i = l by omega]; exact hJ⟩
    · rw [N_row_L71, hS.1 1 (by decide), sl, if_neg (by rw [nI_ltI (by omega) (by omega)]; omega)]
    · rw [M_row_L45, hM.1 4 (by decide) (by decide), ml, if_neg (by rw [nI_ltI (by omega) (by omega)]; omega)]
  | k + 1, i, f + 1, f' + 1, SN, SM, c, s, z, m, ix, ct, c', s', ix', hi, hf, hf', hS, hM, hJ => by
    have n8 := h.2.1
    obtain ⟨a, b, la, lb, w1, w2, w3, w4⟩ := ahead_e (F := F9) l40 hrow (hS.1 3 (by decide)) (hM.2.1 1 (by decide) (by decide)) (show i < l by omega)
    obtain ⟨S', u, w, x', y', A, B, e1, s5, cv, lA, lB, M', e2, s7, mv⟩ := weigh_e h hS hM hsh sq mq la lb
    have p1' : S'.1 1 1 = nI o := by rw [s5.1 1 (by decide), so]
    have p2' : S'.1 1 2 = nI d := by rw [s5.1 1 (by decide), sd]
    have r1 : M'.1 0 1 = nI o := by rw [s7.1 1 (by decide) (by decide), mo]
    have r2 : M'.1 0 2 = nI d := by rw [s7.1 2 (by decide) (by decide), md]
    have b4 := slw_le4 n sh A B
    have ih := fun (c s z m ix ct c' s' ix' : Int32) => row_loop (p1 := p1) (k5 := k5) (k3 := k3) h so mo sd md hsh sq mq l40 sl ml hrow k (i + 1) f f' S' M' c s z m ix ct c' s' ix' (by omega) (by omega) (by omega) s5 s7
    rw [N_row_L71, M_row_L45, hS.1 1 (by decide), sl, hM.1 4 (by decide) (by decide), ml, if_pos (by rw [nI_ltI (by omega) (by omega)]; omega), if_pos (by rw [nI_ltI (by omega) (by omega)]; omega), w1, w2, w3]
    simp only [crd_s, jn_e, bnd_e, nI_1]
    rw [chk_n _ (by omega) (by omega), nI_clamp (by omega), w4, e1, e2, cav_s, cav_s, p1', p2', C_cost_e n8 cv, C_greatestSlow_e n8 cv, C_noise_e n8 lA lB cv, C_moves_e n8 cv, M_costNow_e F9_20 mv r1 r2, M_slowNow_e F9_20 mv, M_noiseNow_e F9_20 mv, M_movedNow_e F9_20 mv, ← slw_D]
    simp only [crd_s]
    generalize hz : mxz (nzD n sh (mvz A B)) n = Z
    generalize hc : coD n sh o d (mvz A B) = C
    generalize hm : mvD n (mvz A B) = D
    generalize hw : slw n sh A B = W
    rw [hw] at b4
    have ez : (if z < nI Z then nI Z else z) = jmax z (nI Z) := rfl
    have ec : (if nI W = p1 - 10 then ct + 1 else ct) = (if nI W = p1 - 10 then ct + 1 else ct + 0) := by
      rw [show ct + 0 = ct from Int32.add_zero ct]
    have key : ∃ s2 ix2 : Int32, rwJ p1 (i + 1) (c + nI C) s2 ix2 (m + nI D) (c' + (if p1 = 0 then nI C else if p1 = 3 then nI D else 0)) s2 ix2 ∧ (s2 = if s < nI W then nI W else s) ∧ (ix2 = if s < nI W then nI i else ix) ∧ (s2 = if s' < nI W then nI W else s') ∧ (ix2 = if s' < nI W then nI i else ix') := by
      obtain ⟨j1, j2, j3⟩ := hJ
      have k1 : p1 = 0 → c' + (if p1 = 0 then nI C else if p1 = 3 then nI D else 0) = c + nI C := fun q => by rw [if_pos q, j1 q]
      have k2 : p1 = 3 → c' + (if p1 = 0 then nI C else if p1 = 3 then nI D else 0) = m + nI D := fun q => by rw [if_neg (by rw [q]; decide), if_pos q, j2 q]
      rcases j3 with ⟨g1, g2, g3, g4, g5⟩ | ⟨g0, t, j, t4, j40, g1, g2, g3, g4⟩
      · subst g1 g2 g3 g4 g5
        refine ⟨nI W, nI 0, ⟨k1, k2, Or.inr ⟨by omega, W, 0, b4, by omega, rfl, rfl, rfl, rfl⟩⟩, ?_, ?_, ?_, ?_⟩
        · have lt : (0 : Int32) < nI W ↔ 0 < W := nI_ltI (a := 0) (by omega) (by omega)
          by_cases g : 0 < W
          · rw [if_pos (lt.mpr g)]
          · rw [if_neg (fun q => g (lt.mp q)), show W = 0 by omega]; rfl
        · split <;> rfl
        · have : (-1 : Int32) < nI W := by rw [ilt, nI_toInt (by omega)]; rw [show (-1 : Int32).toInt = -1 by decide]; omega
          rw [if_pos this]
        · have : (-1 : Int32) < nI W := by rw [ilt, nI_toInt (by omega)]; rw [show (-1 : Int32).toInt = -1 by decide]; omega
          rw [if_pos this]
      · rw [g2, g4]
        refine ⟨if s < nI W then nI W else s, if s < nI W then nI i else ix, ⟨k1, k2, Or.inr ⟨by omega, ?_⟩⟩, rfl, rfl, rfl, rfl⟩
        by_cases g : s < nI W
        · rw [if_pos g, if_pos g]
          exact ⟨W, i, b4, by omega, rfl, rfl, rfl, rfl⟩
        · rw [if_neg g, if_neg g]
          exact ⟨t, j, t4, j40, g1, rfl, g3, rfl⟩
    obtain ⟨s2, ix2, kJ, q1, q2, q3, q4⟩ := key
    obtain ⟨SN', SM', c2, s2', z2, m2, ix2', ct2, cc, ss, ii, f1, f2, f3, f4, f5⟩ := ih (c + nI C) s2 (jmax z (nI Z)) (m + nI D) ix2 (if nI W = p1 - 10 then ct + 1 else ct) (c' + (if p1 = 0 then nI C else if p1 = 3 then nI D else 0)) s2 ix2 kJ
    refine ⟨SN', SM', c2, s2', z2, m2, ix2', ct2, cc, ss, ii, ?_, ?_, f3, f4, f5⟩
    · rw [← f1, q1, q2]
      grind
    · rw [← f2, ← ez, ec, q3, q4]
      grind
theorem ok_row : st_row F9 Rel9 := by
  intro S M h x
  obtain ⟨n, hp⟩ := h.1
  obtain ⟨n2, n8, sn, mn, ⟨o, o99, so, mo⟩, ⟨d, d99, sd, md⟩, ⟨q, hq, sq, mq⟩, ⟨l, l40, sl, ml, hrow⟩, hord, hperm⟩ := id hp
  have h0 : (0 : Int64) = (0 : Int32).toInt64 := by decide
  have h4 : (4 : Int64) = (4 : Int32).toInt64 := by decide
  have h10 : (10 : Int64) = (10 : Int32).toInt64 := by decide
  have h14 : (14 : Int64) = (14 : Int32).toInt64 := by decide
  have t4 : (4 : Int32).toInt = 4 := by decide
  have t10 : (10 : Int32).toInt = 10 := by decide
  have t14 : (14 : Int32).toInt = 14 := by decide
  have J0 : rwJ x 0 0 0 0 0 0 (-1) (-4) := ⟨fun _ => rfl, fun _ => rfl, Or.inl ⟨rfl, rfl, rfl, rfl, rfl⟩⟩
  unfold N_row M_row
  rw [h0, h4, h10, h14, M_in_e, M_in_e]
  simp only [jn_e, crd_s, i10, c0, t4, t10, t14]
  obtain ⟨SN, SM, cc, ss, z2, m2, ix2, ct2, cc', ss', ix2', e1, e2, e3, e4, e5⟩ := row_loop (p1 := x) (k5 := fun S6 v7 v8 v9 v10 v11 v12 => (if x = 0 then some (v7, S6) else (if x = 1 then some (v8, S6) else (if x = 2 then some (v9, S6) else (if x = 3 then some (v10, S6) else (if x = 4 then some (v11, S6) else some (v12, S6))))))) (k3 := fun S4 v5 v6 v7 v8 v9 => (if x = 0 then some (v5, S4) else (if x = 3 then some (v5, S4) else (if x = 1 then (if v6 < 0 then some (0, S4) else some (v6, S4)) else (if x = 2 then some (v9, S4) else (if x = 4 then some (v7, S4) else some (v8, S4))))))) hp so mo sd md hq sq mq l40 sl ml hrow l 0 F9 F9 S M 0 0 0 0 0 0 0 (-1) (-4) (by omega) (by unfold F9; omega) (by unfold F9; omega) Sq5.rf Sq7.rf J0
  rw [nI_0] at e1 e2
  simp only [e1, e2]
  have fin := rel_sq h e3.sq e4.sq
  have finM := rel_sq h SqN.rf e4.sq
  obtain ⟨j1, j2, j3⟩ := e5
  have x0 : x = 0 ↔ x.toInt = 0 := by rw [ieq, c0]
  have x1 : x = 1 ↔ x.toInt = 1 := by rw [ieq, c1]
  have x2 : x = 2 ↔ x.toInt = 2 := by rw [ieq, c2]
  have x3 : x = 3 ↔ x.toInt = 3 := by rw [ieq]; rfl
  have x4 : x = 4 ↔ x.toInt = 4 := by rw [ieq]; rfl
  have i_0 : (0 : Int32) = 0 ↔ True := by simp
  have i_1 : ¬ (1 : Int32) = 0 := by decide
  simp only [ilt, c0, t4, t10, t14, sl, reduceIte, i_1, if_false]
  by_cases g : (0 ≤ x.toInt ∧ x.toInt ≤ 4)
  · rw [if_pos (show x.toInt < 10 by omega), if_neg (show ¬ x.toInt < 0 by omega), if_neg (show ¬ 4 < x.toInt by omega), if_pos g]
    by_cases k4 : x = 4
    · subst k4
      have q0 : ¬ (4 : Int32) = 0 := by decide
      have q1 : ¬ (4 : Int32) = 1 := by decide
      have q2 : ¬ (4 : Int32) = 2 := by decide
      have q3 : ¬ (4 : Int32) = 3 := by decide
      simp only [q0, q1, q2, q3, if_true, if_false]
      rcases j3 with ⟨g1, g2, g3, g4, g5⟩ | ⟨g0, t, j, ht, hj, g1, g2, g3, g4⟩
      · subst g1
        rw [if_pos (show nI 0 = 0 from rfl), g5]
        exact ⟨-4, S, SM, rfl, rfl, finM⟩
      · rw [if_neg (nI_ne0 g0 (by omega)), g4]
        exact ⟨ix2, SN, SM, rfl, rfl, fin⟩
    · rw [if_neg k4]
      by_cases k0 : x = 0
      · rw [if_pos k0, if_pos k0, j1 k0]
        exact ⟨cc, SN, SM, rfl, rfl, fin⟩
      by_cases k3 : x = 3
      · rw [if_neg k0, if_neg (by rw [k3]; decide), if_neg (by rw [k3]; decide), if_pos k3, if_neg k0, if_pos k3, j2 k3]
        exact ⟨m2, SN, SM, rfl, rfl, fin⟩
      by_cases k1 : x = 1
      · rw [if_neg k0, if_pos k1, if_neg k0, if_neg k3, if_pos k1]
        rcases j3 with ⟨g1, g2, g3, g4, g5⟩ | ⟨g0, t, j, ht, hj, g1, g2, g3, g4⟩
        · rw [g4, g2, if_pos (by decide)]
          exact ⟨0, SN, SM, rfl, rfl, fin⟩
        · rw [g2, g1, nI_toInt (by omega), if_neg (by omega)]
          exact ⟨nI t, SN, SM, rfl, rfl, fin⟩
      by_cases k2 : x = 2
      · rw [if_neg k0, if_neg k1, if_pos k2, if_neg k0, if_neg k3, if_neg k1, if_pos k2]
        exact ⟨z2, SN, SM, rfl, rfl, fin⟩
      · rw [x0] at k0
        rw [x1] at k1
        rw [x2] at k2
        rw [x3] at k3
        rw [x4] at k4
        omega
  · rw [if_neg g]
    by_cases g2 : 10 ≤ x.toInt ∧ x.toInt ≤ 14
    · rw [if_neg (show ¬ x.toInt < 10 by omega), if_neg (show ¬ 14 < x.toInt by omega), if_pos g2]
      have q0 : ¬ x = 0 := by rw [x0]; omega
      have q1 : ¬ x = 1 := by rw [x1]; omega
      have q2 : ¬ x = 2 := by rw [x2]; omega
      have q3 : ¬ x = 3 := by rw [x3]; omega
      have q4 : ¬ x = 4 := by rw [x4]; omega
      simp only [q0, q1, q2, q3, q4, if_false]
      exact ⟨ct2, SN, SM, rfl, rfl, fin⟩
    · rw [if_neg g2]
      refine ⟨-1, S, M, ?_, rfl, h⟩
      by_cases g3 : x.toInt < 10
      · rw [if_pos g3]
        by_cases g4 : x.toInt < 0
        · rw [if_pos g4]
        · rw [if_neg g4, if_pos (by omega)]
      · rw [if_neg g3, if_pos (show 14 < x.toInt by omega)]
        by_cases g4 : x.toInt < 0
        · rw [if_pos g4]
        · rw [if_neg g4, if_pos (by omega)]
