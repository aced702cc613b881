/-! B: more easy calls -/
theorem rel_plan {S M S' M' : St} {n : Nat} (h : Rel9 S M) (hP : RelP n S' M') (hN : ∀ a, (a = 0 ∨ a = 6 ∨ a = 7 ∨ a = 8 ∨ a = 17 ∨ 22 ≤ a) → S'.1 a = S.1 a) (hN2 : S'.2 18 = S.2 18) (hM : ∀ k, (k = 15 ∨ k = 20 ∨ k = 31 ∨ k = 36) → M'.1 0 k = M.1 0 k) (hM2 : ∀ a, (a = 5 ∨ 13 ≤ a) → M'.1 a = M.1 a) : Rel9 S' M' := by
  obtain ⟨-, ht, hf, hh, hc, hd⟩ := h
  refine ⟨⟨n, hP⟩, ?_, ?_, ?_, ?_, ?_⟩
  · unfold RelT at ht ⊢
    rw [hN 7 (by omega), hN 8 (by omega), hM 15 (by omega), hM2 5 (by omega)]
    exact ht
  · unfold RelF at hf ⊢
    rw [hN 6 (by omega), hN 0 (by omega), hM 20 (by omega), hM 36 (by omega)]
    exact hf
  · intro k hk
    rw [hN (22 + 2 * k) (by omega), hN (23 + 2 * k) (by omega), hM2 14 (by omega), hM2 15 (by omega), hM2 16 (by omega)]
    exact hh k hk
  · unfold RelC at hc ⊢
    rw [hN 17 (by omega), hN2]
    exact hc
  · unfold RelD at hd ⊢
    rw [hM 31 (by omega), hM2 13 (by omega)]
    exact hd
theorem sI_row (S : St) (q k : Nat) (v : Int32) (a : Nat) (h : a ≠ q) : (sI S q k v).1 a = S.1 a := by
  show (if a = q then _ else _) = _
  rw [if_neg h]
theorem i10 {α : Type} {P : Prop} [Decidable P] {A B : α} : (if (if P then (1 : Int32) else 0) = 0 then A else B) = if P then B else A := by
  by_cases h : P
  · rw [if_pos h, if_pos h, if_neg (by decide)]
  · rw [if_neg h, if_neg h, if_pos rfl]
theorem c1 : (1 : Int32).toInt = 1 := by decide
theorem c2 : (2 : Int32).toInt = 2 := by decide
theorem n_i {n : Nat} (h : n ≤ 1000) : (nI n).toInt = (n : Int) := nI_toInt (by omega)
theorem n_s {n k : Nat} (hk : k ≤ n) (h : n ≤ 1000) : (nI n - nI k).toInt = (n : Int) - k := by
  rw [isub (by rw [n_i h, n_i (by omega)]; omega) (by rw [n_i h, n_i (by omega)]; omega), n_i h, n_i (by omega)]
theorem ok_empty : st_empty F9 Rel9 := by
  intro S M h
  obtain ⟨n, hp⟩ := h.1
  obtain ⟨n2, n8, sn, mn, ho, hs, hsh, ⟨l, l40, sl, ml, hrow⟩, hord, hperm⟩ := id hp
  refine ⟨nI l, sI S 1 4 0, sI M 0 4 0, by unfold N_empty; rw [bnd_e, bnd_e, sl], by unfold M_empty; rw [bnd_e, bnd_e, ml], ?_⟩
  refine rel_plan h (n := n) ?_ (fun a ha => sI_row _ _ _ _ _ (by omega)) rfl (fun k hk => by rw [sI_at, if_neg (by omega)]) (fun a ha => sI_row _ _ _ _ _ (by omega))
  unfold RelP
  simp only [sI_at]
  exact ⟨n2, n8, by simpa using sn, by simpa using mn, by simpa using ho, by simpa using hs, by simpa using hsh, ⟨0, by omega, by simp [nI_0], by simp [nI_0], fun k hk => absurd hk (Nat.not_lt_zero _)⟩, by simpa using hord, by simpa using hperm⟩
theorem ok_sent : st_sent F9 Rel9 := by
  intro S M h x
  obtain ⟨n, hp⟩ := h.1
  obtain ⟨n2, n8, sn, mn, ho, hs, hsh, ⟨l, l40, sl, ml, hrow⟩, hord, hperm⟩ := id hp
  have h0 : (0 : Int64) = (0 : Int32).toInt64 := by decide
  have e1 : (nI l - 1).toInt = (l : Int) - 1 := by
    rw [isub (by rw [n_i (by omega), c1]; omega) (by rw [n_i (by omega), c1]; omega), n_i (by omega), c1]
  unfold N_sent M_sent
  rw [h0, M_in_e, crd_s, jn_e, sl, ml, c0, e1]
  simp only [ilt, c0, n_i (show l ≤ 1000 by omega), i10]
  by_cases g : 0 ≤ x.toInt ∧ x.toInt < l
  · obtain ⟨v, hv, rfl, hv2⟩ := i_nat g.1
    have vl : v < l := by have := g.2; rw [hv2] at this; exact_mod_cast this
    obtain ⟨y, hy, sy, my⟩ := hrow v vl
    have a1 : ¬ nI v < 0 := nI_pos (by omega)
    have a2 : nI v < 40 := (nI_ltI (b := 40) (by omega) (by omega)).mpr (by omega)
    refine ⟨nI y, ?_, ?_, h⟩
    · rw [if_neg (by omega), if_pos g.2]
      unfold P_wordAt
      rw [jn_e, if_neg a1, if_pos a2, chk_n _ (by omega) (by omega), crd_s, nI_clamp (by omega), sy]
    · rw [if_pos ⟨g.1, by omega⟩, chk_n _ (by omega) (by omega), nI_clamp (by omega), my]
  · refine ⟨-1, ?_, ?_, h⟩
    · by_cases g1 : x.toInt < 0
      · rw [if_pos g1]
      · rw [if_neg g1, if_neg (by omega)]
    · rw [if_neg (by omega)]
theorem ok_end : st_end F9 Rel9 := by
  intro S M h x
  obtain ⟨hp, ⟨t, t240, st, mt, hb⟩, hf, hh, hc, hd⟩ := id h
  have h0 : (0 : Int64) = (0 : Int32).toInt64 := by decide
  unfold N_end M_end
  rw [h0, M_in_e, crd_s, st, mt, c0, bnd_e]
  unfold T_cut
  rw [st]
  simp only [ilt, c0, n_i (show t ≤ 1000 by omega), i10]
  by_cases g : 0 ≤ x.toInt ∧ x.toInt ≤ t
  · obtain ⟨v, hv, rfl, hv2⟩ := i_nat g.1
    have vl : v ≤ t := by have := g.2; rw [hv2] at this; exact_mod_cast this
    refine ⟨nI t, sI S 7 0 (nI v), sI M 0 15 (nI v), ?_, ?_, ?_⟩
    · rw [if_neg (by omega), if_neg (by omega), bnd_e, cal_s, if_neg (by decide)]
    · rw [if_pos g, bnd_e, bnd_e]
    · obtain ⟨n, hp⟩ := hp
      refine ⟨⟨n, ?_⟩, ⟨v, by omega, by simp [sI_at], by simp [sI_at], fun k hk => ?_⟩, ?_, ?_, ?_, ?_⟩
      · unfold RelP at hp ⊢
        simpa [sI_at] using hp
      · simpa [sI_at] using hb k (by omega)
      · unfold RelF at hf ⊢
        simpa [sI_at] using hf
      · intro k hk
        have := hh k hk
        have q1 : 22 + 2 * k ≠ 7 ∧ 23 + 2 * k ≠ 7 := by omega
        simpa [sI_at, q1] using this
      · unfold RelC at hc ⊢
        simpa [sI_at, sI_2] using hc
      · unfold RelD at hd ⊢
        simpa [sI_at] using hd
  · refine ⟨-1, S, M, ?_, ?_, h⟩
    · by_cases g1 : x.toInt < 0
      · rw [if_pos g1, cal_s, if_pos rfl]
      · rw [if_neg g1, if_pos (by omega), cal_s, if_pos rfl]
    · rw [if_neg g]
theorem P_isGap_e {F n : Nat} {S : St} {x : Int32} (P : Nat) (hn : 2 ≤ n ∧ n ≤ 8) (h : S.1 P 0 = nI n) : P_isGap F P S x = some (if 0 ≤ x.toInt ∧ x.toInt < (n : Int) - 1 then 1 else 0) := by
  unfold P_isGap
  have e1 : (nI n - 1).toInt = (n : Int) - 1 := by
    rw [isub (by rw [n_i (by omega), c1]; omega) (by rw [n_i (by omega), c1]; omega), n_i (by omega), c1]
  rw [jn_e, h]
  simp only [ilt, c0, e1]
  by_cases g1 : x.toInt < 0
  · rw [if_pos g1, if_neg (by omega)]
  · rw [if_neg g1]
    by_cases g2 : x.toInt < (n : Int) - 1
    · rw [if_pos g2, if_pos ⟨by omega, g2⟩]
    · rw [if_neg g2, if_neg (fun q => g2 q.2)]
theorem P_isWire_e {F n : Nat} {S : St} {x : Int32} (P : Nat) (hn : n ≤ 8) (h : S.1 P 0 = nI n) : P_isWire F P S x = some (if 0 ≤ x.toInt ∧ x.toInt < (n : Int) then 1 else 0) := by
  unfold P_isWire
  rw [jn_e, h]
  simp only [ilt, c0, n_i (show n ≤ 1000 by omega)]
  by_cases g1 : x.toInt < 0
  · rw [if_pos g1, if_neg (by omega)]
  · rw [if_neg g1]
    by_cases g2 : x.toInt < (n : Int)
    · rw [if_pos g2, if_pos ⟨by omega, g2⟩]
    · rw [if_neg g2, if_neg (fun q => g2 q.2)]
theorem ni_and (a b : Nat) : nI a &&& nI b = nI (a &&& b) := Int32.toBitVec_inj.mp (by show BitVec.ofNat 32 a &&& BitVec.ofNat 32 b = BitVec.ofNat 32 (a &&& b); rw [BitVec.ofNat_and])
theorem ni_or (a b : Nat) : nI a ||| nI b = nI (a ||| b) := Int32.toBitVec_inj.mp (by show BitVec.ofNat 32 a ||| BitVec.ofNat 32 b = BitVec.ofNat 32 (a ||| b); rw [BitVec.ofNat_or])
theorem ni_xor (a b : Nat) : nI a ^^^ nI b = nI (a ^^^ b) := Int32.toBitVec_inj.mp (by show BitVec.ofNat 32 a ^^^ BitVec.ofNat 32 b = BitVec.ofNat 32 (a ^^^ b); rw [BitVec.ofNat_xor])
theorem ni_of (x : Int32) : ∃ k, k < 2 ^ 32 ∧ x = nI k := ⟨x.toBitVec.toNat, x.toBitVec.isLt, Int32.toBitVec_inj.mp (by show _ = BitVec.ofNat 32 _; simp)⟩
theorem ni_andle (a : Nat) (y : Int32) : ∃ b, b ≤ a ∧ nI a &&& y = nI b := by
  obtain ⟨k, -, rfl⟩ := ni_of y
  exact ⟨a &&& k, Nat.and_le_left, ni_and a k⟩
theorem ok_shield : st_shield F9 Rel9 := by
  intro S M h x y hy
  obtain ⟨n, hp⟩ := h.1
  obtain ⟨n2, n8, sn, mn, ho, hs, ⟨q, hq, sq, mq⟩, hl, hord, hperm⟩ := id hp
  have h0 : (0 : Int64) = (0 : Int32).toInt64 := by decide
  have e1 : (nI n - 2).toInt = (n : Int) - 2 := by
    rw [isub (by rw [n_i (by omega), c2]; omega) (by rw [n_i (by omega), c2]; omega), n_i (by omega), c2]
  have eg := P_isGap_e (F := F9) (x := x) 1 ⟨n2, n8⟩ sn
  unfold N_shield M_shield P_shieldAt
  rw [eg, h0, M_in_e, mn, c0, e1, sq, mq]
  simp only [crd_s, i10]
  by_cases g : 0 ≤ x.toInt ∧ x.toInt < (n : Int) - 1
  · obtain ⟨v, hv, rfl, hv2⟩ := i_nat g.1
    have vl : v < n - 1 := by have := g.2; rw [hv2] at this; omega
    have g9 : 0 ≤ (nI v).toInt ∧ (nI v).toInt ≤ (n : Int) - 2 := ⟨g.1, by omega⟩
    simp only [if_pos g, if_pos g9, crd_s, bnd_e]
    unfold P_putShield
    simp only [sq, jn_e, bnd_e]
    have fin : ∀ z, z < 2 ^ (n - 1) → ∃ (r : Int32) (S1 : St) (M1 : St), (cav (some (sI S 1 3 (nI z))) fun S3 => some (jshr (nI q) (nI v) &&& 1, S3)) = some (r, S1) ∧ some (jshr (nI q) (nI v) &&& 1, sI M 0 3 (nI z)) = some (r, M1) ∧ Rel9 S1 M1 := by
      intro z hz
      refine ⟨_, sI S 1 3 (nI z), sI M 0 3 (nI z), rfl, rfl, ?_⟩
      refine rel_plan h (n := n) ?_ (fun a ha => sI_row _ _ _ _ _ (by omega)) rfl (fun k hk => by rw [sI_at, if_neg (by omega)]) (fun a ha => sI_row _ _ _ _ _ (by omega))
      unfold RelP
      simp only [sI_at]
      exact ⟨n2, n8, by simpa using sn, by simpa using mn, by simpa using ho, by simpa using hs, ⟨z, hz, by simp, by simp⟩, by simpa using hl, by simpa using hord, by simpa using hperm⟩
    by_cases gy : y = 0
    · rw [if_pos gy, if_pos gy]
      obtain ⟨z, hz, ez⟩ := ni_andle q (jshl 1 (nI v) ^^^ (-1))
      rw [ez]
      exact fin z (by omega)
    · rw [if_neg gy, if_neg gy, pw_n v (by omega), ni_or]
      exact fin _ (Nat.or_lt_two_pow hq (Nat.pow_lt_pow_right (by decide) vl))
  · rw [if_neg g, if_neg (by omega)]
    exact ⟨-1, S, M, rfl, rfl, h⟩
theorem ok_at : st_at F9 Rel9 := by
  intro S M h x y
  obtain ⟨n, hp⟩ := h.1
  obtain ⟨n2, n8, sn, mn, ho, hs, ⟨q, hq, sq, mq⟩, hl, hord, hperm⟩ := id hp
  have h0 : (0 : Int64) = (0 : Int32).toInt64 := by decide
  have h1 : (1 : Int64) = (1 : Int32).toInt64 := by decide
  have e1 : (nI n - 1).toInt = (n : Int) - 1 := by
    rw [isub (by rw [n_i (by omega), c1]; omega) (by rw [n_i (by omega), c1]; omega), n_i (by omega), c1]
  have eg := P_isGap_e (F := F9) (x := x) 1 ⟨n2, n8⟩ sn
  have ew := P_isWire_e (F := F9) (x := x) 1 n8 sn
  have b0 : ∀ z : Int32, z = 0 ↔ z.toInt = 0 := fun z => by rw [ieq, c0]
  have b1 : ∀ z : Int32, z = 1 ↔ z.toInt = 1 := fun z => by rw [ieq, c1]
  unfold N_at M_at P_shieldAt P_wireAt
  rw [eg, ew, h1, h0, M_in_e, M_in_e, mn, c0, c1, e1, sq, mq]
  simp only [crd_s, i10, jn_e]
  by_cases g : 0 ≤ x.toInt ∧ x.toInt < (n : Int)
  · obtain ⟨v, hv, rfl, hv2⟩ := i_nat g.1
    have vl : v < n := by have := g.2; rw [hv2] at this; omega
    obtain ⟨z, hz, sz, mz⟩ := hord v vl
    have a1 : ¬ nI v < 0 := nI_pos (by omega)
    have a2 : nI v < 8 := (nI_ltI (b := 8) (by omega) (by omega)).mpr (by omega)
    have g9 : 0 ≤ (nI v).toInt ∧ (nI v).toInt ≤ (n : Int) - 1 := ⟨g.1, by omega⟩
    simp only [if_pos g, if_pos g9]
    by_cases gy : y = 0
    · subst gy
      refine ⟨nI z, ?_, ?_, h⟩
      · rw [if_pos rfl, if_neg a1, if_pos a2, chk_n _ (by omega) (by omega), crd_s, nI_clamp (by omega), sz]
      · rw [if_pos (by decide), if_pos rfl, chk_n _ (by omega) (by omega), nI_clamp (by omega), mz]
    · rw [if_neg gy]
      by_cases gy1 : y = 1
      · subst gy1
        rw [if_pos rfl, if_pos (show (0 : Int) ≤ (1 : Int32).toInt ∧ (1 : Int32).toInt ≤ 1 by decide), if_neg (show ¬ (1 : Int32) = 0 by decide)]
        simp only [ilt, e1]
        by_cases g2 : (nI v).toInt < (n : Int) - 1
        · rw [if_pos ⟨g.1, g2⟩, if_pos g2]
          exact ⟨_, rfl, rfl, h⟩
        · rw [if_neg (fun z => g2 z.2), if_neg g2]
          exact ⟨_, rfl, rfl, h⟩
      · rw [if_neg gy1, if_neg (by rw [b0] at gy; rw [b1] at gy1; omega)]
        exact ⟨-1, rfl, rfl, h⟩
  · rw [if_neg g, if_neg (by omega)]
    exact ⟨-1, rfl, rfl, h⟩
