/-! B: SHEETS -/
theorem N_isSheet_e {F : Nat} {S : St} {x : Int32} : N_isSheet F S x = some (if 0 ≤ x.toInt ∧ x.toInt < 4 then 1 else 0) := by
  unfold N_isSheet
  have c4 : (4 : Int32).toInt = 4 := by decide
  rw [jn_e]
  simp only [ilt, c0, c4]
  by_cases g1 : x.toInt < 0
  · rw [if_pos g1, if_neg (by omega)]
  · rw [if_neg g1]
    by_cases g2 : x.toInt < 4
    · rw [if_pos g2, if_pos ⟨by omega, g2⟩]
    · rw [if_neg g2, if_neg (fun q => g2 q.2)]
theorem N_isLane_e {F : Nat} {S : St} {x : Int32} : N_isLane F S x = some (if 0 ≤ x.toInt ∧ x.toInt < 3 then 1 else 0) := by
  unfold N_isLane
  rw [jn_e]
  simp only [ilt, c0, c2]
  by_cases g1 : x.toInt < 0
  · rw [if_pos g1, if_neg (by omega)]
  · rw [if_neg g1]
    by_cases g2 : 2 < x.toInt
    · rw [if_pos g2, if_neg (by omega)]
    · rw [if_neg g2, if_pos (by omega)]
theorem M_isSheet_e {F : Nat} {M : St} {x y : Int32} : M_isSheet F M x y = some (if (0 ≤ x.toInt ∧ x.toInt < 4) ∧ (0 ≤ y.toInt ∧ y.toInt < 3) then 1 else 0) := by
  unfold M_isSheet
  have h0 : (0 : Int64) = (0 : Int32).toInt64 := by decide
  have h2 : (2 : Int64) = (2 : Int32).toInt64 := by decide
  have h3 : (3 : Int64) = (3 : Int32).toInt64 := by decide
  have c3 : (3 : Int32).toInt = 3 := by decide
  rw [h0, h2, h3, M_in_e, M_in_e]
  simp only [crd_s, jn_e, i10, c0, c2, c3]
  by_cases g1 : 0 ≤ x.toInt ∧ x.toInt ≤ 3
  · rw [if_pos g1]
    by_cases g2 : 0 ≤ y.toInt ∧ y.toInt ≤ 2
    · rw [if_pos g2, if_pos (by omega)]
    · rw [if_neg g2, if_neg (by omega)]
  · rw [if_neg g1, if_neg (by omega)]
/-- a row of n places set to v, one by one -/
def sZ (S : St) (q a : Nat) (v : Int32) : Nat → St
  | 0 => S
  | n + 1 => sI (sZ S q a v n) q (a + n) v
theorem sZ_at (S : St) (q a : Nat) (v : Int32) (b j : Nat) : ∀ n, (sZ S q a v n).1 b j = if b = q ∧ a ≤ j ∧ j < a + n then v else S.1 b j
  | 0 => by rw [if_neg (by omega)]; rfl
  | n + 1 => by
    show (sI (sZ S q a v n) q (a + n) v).1 b j = _
    rw [sI_at, sZ_at S q a v b j n]
    by_cases h1 : b = q ∧ j = a + n
    · rw [if_pos h1, if_pos (by omega)]
    · rw [if_neg h1]
      by_cases h2 : b = q ∧ a ≤ j ∧ j < a + n
      · rw [if_pos h2, if_pos (by omega)]
      · rw [if_neg h2, if_neg (by omega)]
theorem sZ_2 (S : St) (q a : Nat) (v : Int32) : ∀ n, (sZ S q a v n).2 = S.2
  | 0 => rfl
  | n + 1 => sZ_2 S q a v n
theorem H_renew_loop (F H : Nat) (S : St) : ∀ (k i n : Nat), i + k = 40 → k < n → H_renew_L12 F H n (sZ S (H + 1) 0 0 i) (nI i) = some (sZ S (H + 1) 0 0 40)
  | 0, i, n + 1, h, hn => by
    rw [H_renew_L12]
    have : i = 40 := by omega
    subst this
    rw [if_neg (by decide)]
  | k + 1, i, n + 1, h, hn => by
    rw [H_renew_L12, if_pos (show nI i < 40 from (nI_ltI (b := 40) (by omega) (by omega)).mpr (by omega)), chk_n _ (by omega) (by omega), bnd_e, bnd_e, nI_clamp (by omega), nI_1]
    have := H_renew_loop F H S k (i + 1) n (by omega) (by omega)
    rw [← this]
    show H_renew_L12 F H n (sI (sZ S (H + 1) 0 0 i) (H + 1) i 0) (nI (i + 1)) = H_renew_L12 F H n (sI (sZ S (H + 1) 0 0 i) (H + 1) (0 + i) 0) (nI (i + 1))
    rw [Nat.zero_add]
theorem H_renew_e {F H : Nat} {S : St} {x y : Int32} (hF : 50 ≤ F) : H_renew F H S x y = some (sZ (sI (sI S H 0 x) H 1 y) (H + 1) 0 0 40) := by
  unfold H_renew
  rw [bnd_e, bnd_e]
  exact H_renew_loop F H _ 40 0 F (by omega) (by omega)
theorem nI_40 (k i : Nat) : 40 * nI k + nI i = nI (40 * k + i) := by
  rw [← nI_add, ← pk_mul]
  rfl
theorem M_sheet_loop (F k : Nat) (hk : k < 4) (M : St) : ∀ (j i n : Nat), i + j = 40 → j < n → M_sheet_L40 F (nI k) n (sZ M 16 (40 * k) 0 i) (nI i) = some (1, sZ M 16 (40 * k) 0 40)
  | 0, i, n + 1, h, hn => by
    rw [M_sheet_L40]
    have : i = 40 := by omega
    subst this
    rw [if_neg (by decide)]
  | j + 1, i, n + 1, h, hn => by
    rw [M_sheet_L40, if_pos (show nI i < 40 from (nI_ltI (b := 40) (by omega) (by omega)).mpr (by omega)), nI_40, chk_n _ (by omega) (by omega), bnd_e, bnd_e, nI_clamp (by omega), nI_1]
    exact M_sheet_loop F k hk M j (i + 1) n (by omega) (by omega)
theorem ok_sheet : st_sheet F9 Rel9 := by
  intro S M h x y z
  have c40 : (40 : Int32).toInt = 40 := by decide
  unfold N_sheet M_sheet
  rw [N_isSheet_e, N_isLane_e, M_isSheet_e]
  simp only [crd_s, i10, ilt, c0, c40]
  by_cases g1 : 0 ≤ x.toInt ∧ x.toInt < 4
  · by_cases g2 : 0 ≤ y.toInt ∧ y.toInt < 3
    · rw [if_pos g1, if_pos g2, if_pos (show (0 ≤ x.toInt ∧ x.toInt < 4) ∧ (0 ≤ y.toInt ∧ y.toInt < 3) from ⟨g1, g2⟩)]
      by_cases g3 : 40 < z.toInt
      · rw [if_pos g3, if_pos g3]
        exact ⟨-1, S, M, rfl, rfl, h⟩
      · rw [if_neg g3, if_neg g3]
        by_cases g4 : z.toInt < 0
        · rw [if_pos g4, if_pos g4]
          exact ⟨-14, S, M, rfl, rfl, h⟩
        · rw [if_neg g4, if_neg g4]
          obtain ⟨k, hk, rfl, hk2⟩ := i_nat g1.1
          obtain ⟨l, hl, rfl, hl2⟩ := i_nat g2.1
          obtain ⟨m, hm, rfl, hm2⟩ := i_nat (x := z) (by omega)
          have k4 : k < 4 := by omega
          have l3 : l < 3 := by omega
          have m40 : m ≤ 40 := by omega
          rw [H_renew_e (by decide), cav_s, chk_n _ k4 (by omega), chk_n _ k4 (by omega), bnd_e, chk_n _ k4 (by omega), bnd_e, nI_clamp (by omega)]
          refine ⟨1, sZ (sI (sI S (22 + 2 * k) 0 (nI l)) (22 + 2 * k) 1 (nI m)) (22 + 2 * k + 1) 0 0 40, sZ (sI (sI M 14 k (nI l)) 15 k (nI m)) 16 (40 * k) 0 40, rfl, M_sheet_loop F9 k k4 (sI (sI M 14 k (nI l)) 15 k (nI m)) 40 0 F9 (by omega) (by decide), ?_⟩
          obtain ⟨⟨n, hp⟩, ht, hf, hh, hc, hd⟩ := h
          refine ⟨⟨n, ?_⟩, ?_, ?_, ?_, ?_, ?_⟩
          · unfold RelP at hp ⊢
            have q1 : (1 : Nat) ≠ 22 + 2 * k + 1 ∧ (2 : Nat) ≠ 22 + 2 * k + 1 ∧ (3 : Nat) ≠ 22 + 2 * k + 1 ∧ (1 : Nat) ≠ 22 + 2 * k ∧ (2 : Nat) ≠ 22 + 2 * k ∧ (3 : Nat) ≠ 22 + 2 * k := by omega
            simpa [sZ_at, sI_at, q1] using hp
          · unfold RelT at ht ⊢
            have q1 : (7 : Nat) ≠ 22 + 2 * k + 1 ∧ (8 : Nat) ≠ 22 + 2 * k + 1 ∧ (7 : Nat) ≠ 22 + 2 * k ∧ (8 : Nat) ≠ 22 + 2 * k := by omega
            simpa [sZ_at, sI_at, q1] using ht
          · unfold RelF at hf ⊢
            have q1 : (6 : Nat) ≠ 22 + 2 * k + 1 ∧ (0 : Nat) ≠ 22 + 2 * k + 1 ∧ (6 : Nat) ≠ 22 + 2 * k ∧ (0 : Nat) ≠ 22 + 2 * k := by omega
            simpa [sZ_at, sI_at, q1] using hf
          · intro k2 hk2
            have hh2 := hh k2 hk2
            by_cases e : k2 = k
            · subst e
              refine ⟨Or.inr ⟨l, l3, by simp [sZ_at, sI_at], by simp [sZ_at, sI_at]⟩, ⟨m, m40, by simp [sZ_at, sI_at], by simp [sZ_at, sI_at]⟩, fun i hi => ?_⟩
              rw [sZ_at, sZ_at, if_pos (show 23 + 2 * k2 = 22 + 2 * k2 + 1 ∧ 0 ≤ i ∧ i < 0 + 40 by omega), if_pos (show (16 : Nat) = 16 ∧ 40 * k2 ≤ 40 * k2 + i ∧ 40 * k2 + i < 40 * k2 + 40 by omega)]
            · have q1 : 22 + 2 * k2 ≠ 22 + 2 * k + 1 ∧ 22 + 2 * k2 ≠ 22 + 2 * k ∧ 23 + 2 * k2 ≠ 22 + 2 * k + 1 ∧ 23 + 2 * k2 ≠ 22 + 2 * k := by omega
              rw [sZ_at, sZ_at, sZ_at, sZ_at, sI_at, sI_at, sI_at, sI_at, sI_at, sI_at, sI_at, sI_at]
              simp only [q1, e, false_and, and_false, if_false]
              refine ⟨by simpa using hh2.1, by simpa using hh2.2.1, fun i hi => ?_⟩
              rw [sZ_at, sZ_at, if_neg (by omega), if_neg (by omega), sI_at, sI_at, sI_at, sI_at, if_neg (by omega), if_neg (by omega), if_neg (by omega), if_neg (by omega)]
              exact hh2.2.2 i hi
          · unfold RelC at hc ⊢
            have q1 : (17 : Nat) ≠ 22 + 2 * k + 1 ∧ (17 : Nat) ≠ 22 + 2 * k := by omega
            simpa [sZ_at, sZ_2, sI_2, sI_at, q1] using hc
          · unfold RelD at hd ⊢
            simpa [sZ_at, sI_at] using hd
    · rw [if_pos g1, if_neg g2, if_neg (fun q => g2 q.2)]
      exact ⟨-1, S, M, rfl, rfl, h⟩
  · rw [if_neg g1, if_neg (fun q => g1 q.1)]
    exact ⟨-1, S, M, rfl, rfl, h⟩
