/-! B: THE EASY CALLS -/
theorem ok_fault : st_fault F9 Rel9 := by
  intro S M h
  refine ⟨S.1 6 2, rfl, ?_, h⟩
  unfold M_fault
  rw [h.2.2.1.1]
theorem ok_torn : st_torn F9 Rel9 := by
  intro S M h
  refine ⟨S.1 0 7, rfl, ?_, h⟩
  unfold M_torn
  rw [h.2.2.1.2]
theorem c0 : (0 : Int32).toInt = 0 := by decide
theorem pw_n : ∀ n, n < 9 → jshl 1 (nI n) = nI (2 ^ n) := by decide +kernel
theorem pw_hi {n : Nat} (h : n ≤ 8) : 2 ^ n ≤ 256 := Nat.pow_le_pow_right (by decide) (show n ≤ 8 from h)
theorem P_isWord_e {F n : Nat} {S : St} {x : Int32} (P : Nat) (hn : n ≤ 8) (h : S.1 P 0 = nI n) : P_isWord F P S x = some (if 0 ≤ x.toInt ∧ x.toInt < 2 ^ n then 1 else 0) := by
  unfold P_isWord P_words
  simp only [jn_e, crd_s, h, pw_n n (by omega), ilt, c0]
  have h1 := pw_hi hn
  rw [nI_toInt (n := 2 ^ n) (by omega)]
  have h2 : ((2 ^ n : Nat) : Int) = 2 ^ n := by norm_cast
  rw [h2]
  by_cases g1 : x.toInt < 0
  · rw [if_pos g1, if_neg (by omega)]
  · rw [if_neg g1]
    by_cases g2 : x.toInt < 2 ^ n
    · rw [if_pos g2, if_pos ⟨by omega, g2⟩]
    · rw [if_neg g2, if_neg (fun q => g2 q.2)]
theorem M_isWord_e {F n : Nat} {M : St} {x : Int32} (hn : n ≤ 8) (h : M.1 0 0 = nI n) : M_isWord F M x = some (if 0 ≤ x.toInt ∧ x.toInt < 2 ^ n then 1 else 0) := by
  unfold M_isWord
  have h1 := pw_hi hn
  have h0 : (0 : Int64) = (0 : Int32).toInt64 := by decide
  rw [h0, M_in_e, crd_s, h, pw_n n (by omega), c0]
  have h3 : (nI (2 ^ n) - 1).toInt = (2 ^ n : Int) - 1 := by
    have h4 : (nI (2 ^ n)).toInt = ((2 ^ n : Nat) : Int) := nI_toInt (by omega)
    have h5 : (1 : Int32).toInt = 1 := by decide
    have h6 : ((2 ^ n : Nat) : Int) = (2 : Int) ^ n := by norm_cast
    have h7 : (0 : Int) ≤ ((2 ^ n : Nat) : Int) := Int.natCast_nonneg _
    have h8 : ((2 ^ n : Nat) : Int) ≤ 256 := Int.ofNat_le.mpr h1
    rw [isub (by rw [h4, h5]; omega) (by rw [h4, h5]; omega), h4, h5, h6]
  rw [h3]
  congr 1
  by_cases g : 0 ≤ x.toInt ∧ x.toInt < 2 ^ n
  · rw [if_pos g, if_pos ⟨g.1, by omega⟩]
  · rw [if_neg g, if_neg (fun q => g ⟨q.1, by omega⟩)]
theorem ok_send : st_send F9 Rel9 := by
  intro S M h x
  obtain ⟨⟨n, hp⟩, ht, hf, hh, hc, hd⟩ := h
  have hp0 := hp
  obtain ⟨n2, n8, sn, mn, ho, hs, hsh, ⟨l, l40, sl, ml, hrow⟩, hord, hperm⟩ := hp
  unfold N_send M_send
  rw [P_isWord_e 1 n8 sn, M_isWord_e n8 mn, crd_s, crd_s]
  by_cases g : 0 ≤ x.toInt ∧ x.toInt < 2 ^ n
  · rw [if_pos g, if_neg (by decide), if_neg (by decide)]
    obtain ⟨v, hv, rfl, hv2⟩ := i_nat g.1
    unfold P_append
    by_cases g2 : l = 40
    · subst g2
      refine ⟨-3, S, M, ?_, ?_, ⟨n, hp0⟩, ht, hf, hh, hc, hd⟩
      · rw [sl, if_neg (by decide), if_neg (by decide), cal_s, if_pos rfl]
      · rw [ml, if_pos (by decide)]
    · have hl : l < 40 := by omega
      have a1 : ¬ nI l < 0 := nI_pos (by omega)
      have a2 : nI l < 40 := (nI_ltI (b := 40) (by omega) (by omega)).mpr hl
      have a3 : ¬ nI l = 40 := fun q => g2 ((nI_eq (b := 40) (by omega) (by omega)).mp q)
      have vl : v < 2 ^ n := by have := g.2; rw [hv2] at this; exact_mod_cast this
      refine ⟨nI (l + 1), sI (sI S 3 l (nI v)) 1 4 (nI (l + 1)), sI (sI M 1 l (nI v)) 0 4 (nI (l + 1)), ?_, ?_, ?_⟩
      · rw [sl, if_neg a1, if_pos a2, chk_n _ hl (by omega), bnd_e, nI_clamp (by omega)]
        simp only [bnd_e, cal_s, sI_at]
        simp [sl, nI_1]
      · rw [ml, if_neg a3, chk_n _ hl (by omega), bnd_e, nI_clamp (by omega)]
        simp only [bnd_e, sI_at]
        simp [ml, nI_1]
      · refine ⟨⟨n, ?_⟩, ?_, ?_, ?_, ?_, ?_⟩
        · unfold RelP
          simp only [sI_at]
          refine ⟨n2, n8, by simpa using sn, by simpa using mn, by simpa using ho, by simpa using hs, by simpa using hsh, ⟨l + 1, by omega, by simp, by simp, fun k hk => ?_⟩, by simpa using hord, by simpa using hperm⟩
          by_cases gk : k = l
          · subst gk
            exact ⟨v, vl, by simp, by simp⟩
          · simpa [gk] using hrow k (by omega)
        · unfold RelT at ht ⊢
          simpa [sI_at] using ht
        · unfold RelF at hf ⊢
          simpa [sI_at] using hf
        · intro k hk
          have := hh k hk
          have q1 : 22 + 2 * k ≠ 1 ∧ 22 + 2 * k ≠ 3 ∧ 23 + 2 * k ≠ 1 ∧ 23 + 2 * k ≠ 3 := by omega
          simpa [sI_at, q1] using this
        · unfold RelC at hc ⊢
          simpa [sI_at, sI_2] using hc
        · unfold RelD at hd ⊢
          simpa [sI_at] using hd
  · rw [if_neg g, if_pos rfl, if_pos rfl]
    exact ⟨-1, S, M, rfl, rfl, ⟨n, hp0⟩, ht, hf, hh, hc, hd⟩
