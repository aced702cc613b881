/-! B: COUNTS OF BITS, COUNT -/
def pc (h n : Nat) : Nat := fb_ct (fun i => h.testBit i) n
theorem s31 : ∀ n, n < 32 → ((nI n &&& 31).toBitVec.smod 32).toNat = n := by decide +kernel
theorem jshr_n {h i : Nat} (hh : h < 2 ^ 31) (hi : i < 32) : jshr (nI h) (nI i) = nI (h / 2 ^ i) := by
  unfold jshr
  exact pk_shrN hh _ i (s31 i hi)
theorem and1_n (h : Nat) : nI h &&& 1 = nI (h % 2) := by
  have : (1 : Int32) = nI 1 := rfl
  rw [this, ni_and, Nat.and_one_is_mod]
theorem bit_n (h i : Nat) : h / 2 ^ i % 2 = if h.testBit i then 1 else 0 := by
  rw [Nat.testBit_eq_decide_div_mod_eq]
  rcases Nat.mod_two_eq_zero_or_one (h / 2 ^ i) with e | e <;> simp [e]
theorem jbit_n {h i : Nat} (hh : h < 2 ^ 31) (hi : i < 32) : jshr (nI h) (nI i) &&& 1 = nI (if h.testBit i then 1 else 0) := by
  rw [jshr_n hh hi, and1_n, bit_n]
theorem M_countOf_loop {F h : Nat} {M : St} (hh : h < 2 ^ 31) : ∀ (k i n : Nat), i + k = 16 → k < n → M_countOf_L4 F (nI h) M n (nI (pc h i)) (nI i) = some (nI (pc h 16))
  | 0, i, n + 1, e, hn => by
    rw [M_countOf_L4]
    have : i = 16 := by omega
    subst this
    rw [if_neg (by decide)]
  | k + 1, i, n + 1, e, hn => by
    rw [M_countOf_L4, if_pos (show nI i < 16 from (nI_ltI (b := 16) (by omega) (by omega)).mpr (by omega)), jbit_n hh (by omega), bnd_e, bnd_e, nI_add, nI_1]
    exact M_countOf_loop hh k (i + 1) n (by omega) (by omega)
theorem M_countOf_e {F h : Nat} {M : St} (hF : 20 ≤ F) (hh : h < 2 ^ 31) : M_countOf F M (nI h) = some (nI (pc h 16)) := by
  unfold M_countOf
  exact M_countOf_loop hh 16 0 F (by omega) (by omega)
theorem bc_small : ∀ h, h < 512 → Ji_bitCount 0 Sz (nI h) = some (nI (pc h 16)) := by decide +kernel
theorem Ji_small {F h : Nat} {S : St} (hh : h < 512) : Ji_bitCount F S (nI h) = some (nI (pc h 16)) := bc_small h hh
theorem ok_count : st_count F9 Rel9 := by
  intro S M h x
  obtain ⟨⟨n, hp⟩, ⟨t, t240, st, mt, -⟩, hf, hh, hc, hd⟩ := id h
  obtain ⟨n2, n8, sn, mn, ⟨o, o99, so, mo⟩, ⟨d, d99, sd, md⟩, ⟨q, hq, sq, mq⟩, ⟨l, l40, sl, ml, -⟩, -, -⟩ := hp
  obtain ⟨hlane, ⟨z, z40, sz, mz⟩, -⟩ := hh 0 (by decide)
  have q7 : q < 512 := by
    have : 2 ^ (n - 1) ≤ 2 ^ 8 := Nat.pow_le_pow_right (by decide) (by omega)
    omega
  unfold N_count M_count
  rw [sn, mn, so, mo, sd, md, sq, mq, sl, ml, st, mt, Ji_small q7, M_countOf_e (by decide) (by omega)]
  simp only [crd_s]
  by_cases g0 : x = 0
  · exact ⟨nI n, by rw [if_pos g0], by rw [if_pos g0], h⟩
  by_cases g1 : x = 1
  · exact ⟨nI o, by rw [if_neg g0, if_pos g1], by rw [if_neg g0, if_pos g1], h⟩
  by_cases g2 : x = 2
  · exact ⟨nI d, by rw [if_neg g0, if_neg g1, if_pos g2], by rw [if_neg g0, if_neg g1, if_pos g2], h⟩
  by_cases g3 : x = 3
  · exact ⟨nI (pc q 16), by rw [if_neg g0, if_neg g1, if_neg g2, if_pos g3], by rw [if_neg g0, if_neg g1, if_neg g2, if_pos g3], h⟩
  by_cases g4 : x = 4
  · exact ⟨nI l, by rw [if_neg g0, if_neg g1, if_neg g2, if_neg g3, if_pos g4], by rw [if_neg g0, if_neg g1, if_neg g2, if_neg g3, if_pos g4], h⟩
  by_cases g5 : x = 5
  · exact ⟨nI t, by rw [if_neg g0, if_neg g1, if_neg g2, if_neg g3, if_neg g4, if_pos g5], by rw [if_neg g0, if_neg g1, if_neg g2, if_neg g3, if_neg g4, if_pos g5], h⟩
  rw [if_neg g0, if_neg g1, if_neg g2, if_neg g3, if_neg g4, if_neg g5, if_neg g0, if_neg g1, if_neg g2, if_neg g3, if_neg g4, if_neg g5]
  by_cases g6 : x = 6
  · rw [if_pos g6, if_pos g6]
    have z0 : (0 : Int32).toNatClampNeg = 0 := by decide
    have k0 : ∀ {β : Type} (k : Option β), chk (0 : Int32) 4 k = k := fun k => chk_t k (by decide)
    unfold H_isNothing
    simp only [k0, z0, Nat.mul_zero, Nat.add_zero] at hlane sz mz ⊢
    rcases hlane with ⟨e1, e2⟩ | ⟨v, v3, e1, e2⟩
    · rw [e1, e2, if_pos rfl, if_pos rfl, crd_s, if_neg (by decide)]
      exact ⟨-4, rfl, rfl, h⟩
    · have f1 : ¬ nI v = -1 := by
        rcases (show v = 0 ∨ v = 1 ∨ v = 2 by omega) with rfl | rfl | rfl <;> decide
      have f4 : ¬ nI v = -4 := by
        rcases (show v = 0 ∨ v = 1 ∨ v = 2 by omega) with rfl | rfl | rfl <;> decide
      rw [e1, e2, if_neg f1, if_neg f4, crd_s, if_pos rfl, sz, mz]
      exact ⟨nI z, rfl, rfl, h⟩
  · rw [if_neg g6, if_neg g6]
    exact ⟨-1, rfl, rfl, h⟩
