/-! B: WORD -/
theorem word_loop {F n kd : Nat} {S M : St} {p : Int32} (hF : 10 ≤ F) (hs : S.1 1 0 = nI n) (hm : M.1 0 0 = nI n) (n2 : 2 ≤ n) (n8 : n ≤ 8) (hk : kd < 2) : ∀ (k i f f' : Nat) (c : Int32), i + k = 2 ^ n → k < f → k < f' → ∃ r, N_word_L18 F (nI kd) p S f c (nI i) = some r ∧ M_word_L21 F (nI kd) p M f' c (nI i) = some r
  | 0, i, f + 1, f' + 1, c, e, h1, h2 => by
    have h1 := pw_hi n8
    have e2 : i = 2 ^ n := by omega
    refine ⟨-4, ?_, ?_⟩
    · rw [N_word_L18, P_words, hs, pw_n n (by omega), crd_s, if_neg (show ¬ nI i < nI (2 ^ n) from nI_nlt (by omega) (by omega))]
    · rw [M_word_L21, hm, pw_n n (by omega), if_neg (show ¬ nI i < nI (2 ^ n) from nI_nlt (by omega) (by omega))]
  | k + 1, i, f + 1, f' + 1, c, e, h1, h2 => by
    have h3 := pw_hi n8
    have ih := fun c => word_loop (p := p) hF hs hm n2 n8 hk k (i + 1) f f' c (by omega) (by omega) (by omega)
    rw [N_word_L18, M_word_L21, P_words, hs, hm, pw_n n (by omega), crd_s, if_pos (show nI i < nI (2 ^ n) from nI_lt (by omega) (by omega)), if_pos (show nI i < nI (2 ^ n) from nI_lt (by omega) (by omega)), N_isInBook_e hs n2 n8 hk (by omega), M_isIn_e hF hm n2 n8 hk (by omega), crd_s, crd_s]
    simp only [jn_e, bnd_e, i10, nI_1]
    by_cases g : inB n kd i = true
    · rw [if_pos g, if_pos g]
      by_cases g2 : c = p
      · rw [if_pos g2, if_pos g2]
        exact ⟨_, rfl, rfl⟩
      · rw [if_neg g2, if_neg g2]
        exact ih _
    · rw [if_neg g, if_neg g]
      exact ih _
theorem ok_word : st_word F9 Rel9 := by
  intro S M h x y
  obtain ⟨n, hp⟩ := h.1
  obtain ⟨n2, n8, sn, mn, -⟩ := id hp
  have h0 : (0 : Int64) = (0 : Int32).toInt64 := by decide
  have h1 : (1 : Int64) = (1 : Int32).toInt64 := by decide
  have hw := pw_hi n8
  unfold N_word M_word
  rw [N_isKind_e, h0, h1, M_in_e]
  simp only [crd_s, i10, c0, c1]
  by_cases g : 0 ≤ x.toInt ∧ x.toInt ≤ 1
  · obtain ⟨kd, hk, rfl, hk2⟩ := i_nat g.1
    rw [if_pos g, if_pos g]
    by_cases g2 : y < 0
    · rw [if_pos g2, if_pos g2]
      exact ⟨-1, rfl, rfl, h⟩
    · rw [if_neg g2, if_neg g2]
      have e9 : F9 = 1000000000 := rfl
      obtain ⟨r, e1, e2⟩ := word_loop (F := F9) (p := y) (by decide) sn mn n2 n8 (show kd < 2 by omega) (2 ^ n) 0 F9 F9 0 (by omega) (by omega) (by omega)
      exact ⟨r, e1, e2, h⟩
  · rw [if_neg g, if_neg g]
    exact ⟨-1, rfl, rfl, h⟩
