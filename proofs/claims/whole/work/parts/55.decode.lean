/-! B: decode -/
theorem below_e {F n p : Nat} {S : St} {sn : Nat → Bool} (n8 : n ≤ 8) (hp : p < 2 ^ n) (h5 : S.1 17 5 = nI (2 ^ n)) (hs : L4 (S.2 20) sn) : ∀ (j v f : Nat), v + j = p → j < f → K_seenBelow_L4 F (nI p) S f (nI (fb_ct sn v)) (nI v) = some (nI (fb_ct sn p))
  | 0, v, f + 1, hv, hf => by
    have hw := pw_hi n8
    rw [K_seenBelow_L4, if_neg (by rw [nI_ltI (by omega) (by omega)]; omega), show v = p by omega]
  | j + 1, v, f + 1, hv, hf => by
    have hw := pw_hi n8
    have ih := below_e (F := F) n8 hp h5 hs j (v + 1) f (by omega) (by omega)
    rw [fb_ct_succ] at ih
    have e1 : lbit (S.2 20 (v / 64)) (v % 64) = sn v := hs v (by omega)
    rw [K_seenBelow_L4, if_pos (by rw [nI_ltI (by omega) (by omega)]; omega), h5, if_pos (by rw [nI_ltI (by omega) (by omega)]; omega), K_isSeen, K_isIn_e (by decide) (by omega), crd_s, crd_s, e1, jn_e]
    simp only [bnd_e, nI_1]
    by_cases g : sn v = true
    · rw [if_pos g] at ih
      rw [if_pos g, if_neg (show ¬ (1 : Int32) = 0 by decide)]
      exact ih
    · rw [if_neg g] at ih
      rw [if_neg g, if_pos (show (0 : Int32) = 0 from rfl)]
      exact ih
theorem dec_M {F n q w p : Nat} {M : St} {p2 : Int32} {kp : Nat → Bool} {k7 : Int32 → Option (Int32 × St)} (n8 : n ≤ 8) (hq : q < 5) (hw : w < 2 ^ n) (hp : p < 2 ^ n) (hl : slM n M) (hk : K12 M kp) : ∀ (j v f : Nat), v + j = p → j < f → M_decode_L100 F (nI q) p2 (nI w) (nI p) M k7 f (nI (fb_ct (nk n q kp w) v)) (nI v) = k7 (nI (fb_ct (nk n q kp w) p))
  | 0, v, f + 1, hv, hf => by
    have hw' := pw_hi n8
    rw [M_decode_L100, if_neg (by rw [nI_ltI (by omega) (by omega)]; omega), show v = p by omega]
  | j + 1, v, f + 1, hv, hf => by
    have hw' := pw_hi n8
    have ih := dec_M (F := F) (p2 := p2) (k7 := k7) n8 hq hw hp hl hk j (v + 1) f (by omega) (by omega)
    rw [fb_ct_succ] at ih
    have b4 := slw_le4 n 0 w v
    rw [M_decode_L100, if_pos (by rw [nI_ltI (by omega) (by omega)]; omega), show (256 : Int32) = nI 256 from rfl, pk_mul, nI_add]
    simp only [jn_e, bnd_e, nI_1, chk_n _ (show v < 256 by omega) (show 256 < 2 ^ 31 by decide), nI_clamp (show v < 2 ^ 31 by omega), hk v (show v < 256 by omega), chk_n _ (show 256 * w + v < 65536 by omega) (show 65536 < 2 ^ 31 by decide), nI_clamp (show 256 * w + v < 2 ^ 31 by omega), hl w v hw (show v < 2 ^ n by omega)]
    have lt := nI_ltI (a := q) (b := slw n 0 w v) (by omega) (by omega)
    have ek : nk n q kp w v = (kp v && decide (slw n 0 w v ≤ q)) := rfl
    rw [ek] at ih
    have a0 : ∀ x : Nat, nI x + 0 = nI (x + 0) := fun x => nI_add x 0
    cases g : kp v
    · rw [g] at ih
      rw [if_neg (show ¬ (false && decide (slw n 0 w v ≤ q)) = true by simp)] at ih
      rw [if_pos (show nI (if false = true then 1 else 0) = 0 from rfl), a0]
      exact ih
    · rw [g, Bool.true_and] at ih
      rw [if_neg (show ¬ nI (if true = true then 1 else 0) = 0 by decide)]
      by_cases g2 : q < slw n 0 w v
      · rw [if_neg (fun z => by have := of_decide_eq_true z; omega)] at ih
        rw [if_pos (lt.mpr g2), a0]
        exact ih
      · rw [if_pos (decide_eq_true (by omega))] at ih
        rw [if_neg (fun z => g2 (lt.mp z))]
        exact ih
theorem ok_decode : st_decode F9 Rel9 := by
  intro S M h x y z v
  obtain ⟨n, hp⟩ := h.1
  obtain ⟨n2, n8, sn, mn, -⟩ := id hp
  have hw := pw_hi n8
  unfold N_decode M_decode
  rw [N_isSlow_e, N_isBits_e, P_isWord_e 1 n8 sn, P_isWord_e 1 n8 sn, M_isWord_e n8 mn, M_isWord_e n8 mn, l0, l4, l8, M_in_e, M_in_e]
  simp only [crd_s, i10, c0, ti4, ti8]
  by_cases g1 : 0 ≤ x.toInt ∧ x.toInt ≤ 4
  · rw [if_pos g1, if_pos g1]
    by_cases g2 : 0 ≤ y.toInt ∧ y.toInt ≤ 8
    · rw [if_pos g2, if_pos g2]
      by_cases g3 : 0 ≤ z.toInt ∧ z.toInt < 2 ^ n
      · rw [if_pos g3, if_pos g3]
        by_cases g4 : 0 ≤ v.toInt ∧ v.toInt < 2 ^ n
        · rw [if_pos g4, if_pos g4]
          obtain ⟨q, hq, rfl, eq⟩ := i_nat g1.1
          obtain ⟨b, hb, rfl, eb⟩ := i_nat g2.1
          obtain ⟨w, hw1, rfl, ew⟩ := i_nat g3.1
          obtain ⟨p, hp1, rfl, ep⟩ := i_nat g4.1
          have lw : w < 2 ^ n := by have := g3.2; rw [ew] at this; exact_mod_cast this
          have lp : p < 2 ^ n := by have := g4.2; rw [ep] at this; exact_mod_cast this
          have hq5 : q < 5 := by omega
          have hb8 : b ≤ 8 := by omega
          have hb2 := pw_hi hb8
          obtain ⟨S', M', kp, a1, a2, a3, a4, a5, a6, a7, a8, a9, a10, a11, a12⟩ := keep_both h n2 n8 sn mn (q := q) (b := b) hq5 hb8
          have c256 := fb_ct_le kp (2 ^ n)
          rw [a1, a2, cal_s, cal_s]
          have e0 : nI (fb_ct kp (2 ^ n)) = 0 ↔ fb_ct kp (2 ^ n) = 0 := nI_eq (b := 0) (by omega) (by omega)
          by_cases g6 : fb_ct kp (2 ^ n) = 0
          · rw [if_pos (e0.mpr g6), if_pos (e0.mpr g6)]
            exact ⟨-2, S', M', rfl, rfl, a4⟩
          · rw [if_neg (fun z => g6 (e0.mp z)), if_neg (fun z => g6 (e0.mp z)), K_isSeen, K_isIn_e (by decide) (by omega), crd_s, crd_s, show lbit (S'.2 20 (w / 64)) (w % 64) = kp w from a10 w (by omega), chk_n _ (by omega) (by decide), nI_clamp (by omega), a12 w (by omega)]
            by_cases g7 : kp w = true
            · rw [if_pos g7, if_pos g7, if_neg (show ¬ (1 : Int32) = 0 by decide), if_neg (show ¬ nI 1 = 0 by decide)]
              obtain ⟨S2, d1, d2, d3, d4⟩ := look_e (F := F9) (q := q) (w := w) (S := S') F9_20 n8 hq5 lw a8 a9 (fun t ht => (a3.1 t ht).1)
              have fin : Rel9 S2 M' := rel_sq a4 ⟨fun a _ => by rw [d2], d3 18 (by decide)⟩ SqM.rf
              have bl := below_e (F := F9) (S := S2) n8 lp (by rw [d2]; exact a7) d4 p 0 F9 (by omega) (by unfold F9; omega)
              have dm := dec_M (F := F9) (p2 := nI b) (k7 := fun v8 => if v8 < jshl 1 (nI b) then some (v8, M') else some (-4, M')) n8 hq5 lw lp a11 a12 p 0 F9 (by omega) (by unfold F9; omega)
              rw [nI_0, show fb_ct (nk n q kp w) 0 = 0 from rfl, nI_0] at bl dm
              have b4 := slw_le4 n 0 w p
              have lt := nI_ltI (a := q) (b := slw n 0 w p) (by omega) (by omega)
              have cp := fb_ct_le (nk n q kp w) p
              rw [d1, cav_s, K_seenBelow, bl, crd_s, K_isSeen, K_isIn_e (by decide) (by omega), crd_s, crd_s, show lbit (S2.2 20 (p / 64)) (p % 64) = nk n q kp w p from d4 p (by omega), jn_e, chk_n _ (by omega) (by decide), nI_clamp (by omega), a12 p (by omega), show (256 : Int32) = nI 256 from rfl, pk_mul, nI_add, chk_n _ (by omega) (by decide), nI_clamp (by omega), a11 w p lw lp, dm, nk, pw_n b (by omega)]
              cases g8 : kp p
              · rw [if_pos (show (if (false && decide (slw n 0 w p ≤ q)) = true then (1 : Int32) else 0) = 0 by simp), if_pos (show nI (if false = true then 1 else 0) = 0 from rfl)]
                exact ⟨-4, S2, M', rfl, rfl, fin⟩
              · rw [Bool.true_and, if_neg (show ¬ nI (if true = true then 1 else 0) = 0 by decide)]
                by_cases g9 : q < slw n 0 w p
                · rw [if_neg (c := decide (slw n 0 w p ≤ q) = true) (fun z => by have := of_decide_eq_true z; omega), if_pos (show (0 : Int32) = 0 from rfl), if_pos (lt.mpr g9)]
                  exact ⟨-4, S2, M', rfl, rfl, fin⟩
                · rw [if_pos (c := decide (slw n 0 w p ≤ q) = true) (decide_eq_true (by omega)), if_neg (show ¬ (1 : Int32) = 0 by decide), if_neg (fun z => g9 (lt.mp z))]
                  split
                  · exact ⟨_, S2, M', rfl, rfl, fin⟩
                  · exact ⟨-4, S2, M', rfl, rfl, fin⟩
            · rw [if_neg g7, if_neg g7, if_pos (show (0 : Int32) = 0 from rfl), if_pos (show nI 0 = 0 from rfl)]
              exact ⟨-4, S', M', rfl, rfl, a4⟩
        · rw [if_neg g4, if_neg g4]
          exact ⟨-1, S, M, rfl, rfl, h⟩
      · rw [if_neg g3, if_neg g3]
        exact ⟨-1, S, M, rfl, rfl, h⟩
    · rw [if_neg g2, if_neg g2]
      exact ⟨-1, S, M, rfl, rfl, h⟩
  · rw [if_neg g1, if_neg g1]
    exact ⟨-1, S, M, rfl, rfl, h⟩
