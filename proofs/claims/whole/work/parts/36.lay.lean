/-! B: LAY -/
theorem H_faultAs_e {F H z : Nat} {S : St} {la i : Int32} (hz : z ≤ 40) (hs : S.1 H 1 = nI z) : H_faultAs F H S la i = some (if S.1 H 0 = -1 then 1 else if la = S.1 H 0 then (if 0 ≤ i.toInt ∧ i.toInt < z then 0 else 2) else 3) := by
  unfold H_faultAs H_isNothing
  by_cases g1 : S.1 H 0 = -1
  · rw [if_pos g1, if_pos g1, crd_s, if_neg (by decide)]
  · rw [if_neg g1, if_neg g1, crd_s, if_pos rfl]
    by_cases g2 : la = S.1 H 0
    · rw [if_pos g2, if_pos g2, jn_e, hs]
      simp only [ilt, c0, n_i (show z ≤ 1000 by omega)]
      by_cases g3 : i.toInt < 0
      · rw [if_pos g3, if_neg (by omega)]
      · rw [if_neg g3]
        by_cases g4 : i.toInt < z
        · rw [if_pos g4, if_pos (by omega)]
        · rw [if_neg g4, if_neg (by omega)]
    · rw [if_neg g2, if_neg g2]
theorem rel_sheet {S M S' M' : St} (h : Rel9 S M) (hH : RelH S' M') (hN : ∀ a, a < 22 → S'.1 a = S.1 a) (hN2 : S'.2 = S.2) (hM : ∀ a, a < 14 → M'.1 a = M.1 a) : Rel9 S' M' := by
  obtain ⟨⟨n, hp⟩, ht, hf, -, hc, hd⟩ := h
  refine ⟨⟨n, ?_⟩, ?_, ?_, hH, ?_, ?_⟩
  · unfold RelP at hp ⊢
    rw [hN 1 (by omega), hN 2 (by omega), hN 3 (by omega), hM 0 (by omega), hM 1 (by omega), hM 2 (by omega)]
    exact hp
  · unfold RelT at ht ⊢
    rw [hN 7 (by omega), hN 8 (by omega), hM 0 (by omega), hM 5 (by omega)]
    exact ht
  · unfold RelF at hf ⊢
    rw [hN 6 (by omega), hN 0 (by omega), hM 0 (by omega)]
    exact hf
  · unfold RelC at hc ⊢
    rw [hN 17 (by omega), hN2]
    exact hc
  · unfold RelD at hd ⊢
    rw [hM 0 (by omega), hM 13 (by omega)]
    exact hd
theorem ok_lay : st_lay F9 Rel9 := by
  intro S M h x y u
  have h0 : (0 : Int64) = (0 : Int32).toInt64 := by decide
  unfold N_lay M_lay
  rw [N_isSheet_e, M_isSheet_e, h0]
  simp only [crd_s, i10, c0]
  by_cases g1 : 0 ≤ x.toInt ∧ x.toInt < 4
  · rw [if_pos g1, if_pos (show (0 ≤ x.toInt ∧ x.toInt < 4) ∧ ((0 : Int) ≤ 0 ∧ (0 : Int) < 3) from ⟨g1, by decide⟩)]
    obtain ⟨k, hk, rfl, hk2⟩ := i_nat g1.1
    have k4 : k < 4 := by omega
    obtain ⟨hlane, ⟨z, z40, sz, mz⟩, hcell⟩ := h.2.2.2.1 k k4
    rw [chk_n _ k4 (by omega), chk_n _ k4 (by omega), nI_clamp (by omega), H_faultAs_e z40 sz, crd_s, if_pos rfl]
    rcases hlane with ⟨sl, ml⟩ | ⟨v, v3, sl, ml⟩
    · rw [if_pos sl, if_neg (by decide), if_pos ml]
      exact ⟨-11, S, M, by rfl, rfl, h⟩
    · have e1 : ¬ nI v = -1 := by
        rcases (show v = 0 ∨ v = 1 ∨ v = 2 by omega) with rfl | rfl | rfl <;> decide
      have e4 : ¬ nI v = -4 := by
        rcases (show v = 0 ∨ v = 1 ∨ v = 2 by omega) with rfl | rfl | rfl <;> decide
      have e2 : (nI z - 1).toInt = (z : Int) - 1 := by
        rw [isub (by rw [n_i (by omega), c1]; omega) (by rw [n_i (by omega), c1]; omega), n_i (by omega), c1]
      rw [sl, ml, if_neg e1, if_neg e4, chk_n _ k4 (by omega), mz, M_in_e, crd_s, e2]
      simp only [i10, c0]
      by_cases g2 : 0 ≤ y.toInt ∧ y.toInt < z
      · rw [if_pos g2, if_pos rfl, if_pos (show 0 ≤ y.toInt ∧ y.toInt ≤ (z : Int) - 1 by omega), chk_n _ k4 (by omega), jn_e]
        obtain ⟨i, hi, rfl, hi2⟩ := i_nat g2.1
        have iz : i < z := by omega
        unfold H_put
        rw [if_neg (show ¬ nI i < 0 from nI_pos (by omega)), if_pos (show nI i < 40 from (nI_ltI (b := 40) (by omega) (by omega)).mpr (by omega))]
        simp only [jn_e, sl, nI_40, nI_clamp (show i < 2 ^ 31 by omega), nI_clamp (show 40 * k + i < 2 ^ 31 by omega)]
        have fin : ∀ c : Int32, ∃ (r : Int32) (S1 : St) (M1 : St), (cav (chk (nI i) 40 (bnd (sI S (22 + 2 * k + 1) i c) fun S3 => some S3)) fun S4 => some ((1 : Int32), S4)) = some (r, S1) ∧ (chk (nI (40 * k + i)) 160 (bnd (sI M 16 (40 * k + i) c) fun S5 => some ((1 : Int32), S5))) = some (r, M1) ∧ Rel9 S1 M1 := by
          intro c
          refine ⟨1, sI S (22 + 2 * k + 1) i c, sI M 16 (40 * k + i) c, ?_, ?_, ?_⟩
          · rw [chk_n _ (show i < 40 by omega) (by omega), bnd_e, cav_s]
          · rw [chk_n _ (show 40 * k + i < 160 by omega) (by omega), bnd_e]
          · refine rel_sheet h (fun k2 hk2 => ?_) (fun a ha => sI_row _ _ _ _ _ (by omega)) rfl (fun a ha => sI_row _ _ _ _ _ (by omega))
            have hh2 := h.2.2.2.1 k2 hk2
            have q1 : 22 + 2 * k2 ≠ 22 + 2 * k + 1 := by omega
            rw [sI_row S _ _ _ (22 + 2 * k2) q1, sI_row M _ _ _ 14 (by decide), sI_row M _ _ _ 15 (by decide)]
            refine ⟨hh2.1, hh2.2.1, fun j hj => ?_⟩
            rw [sI_at, sI_at]
            by_cases e : k2 = k ∧ j = i
            · rw [if_pos (by omega), if_pos (by omega)]
            · rw [if_neg (by omega), if_neg (by omega)]
              exact hh2.2.2 j hj
        by_cases gv : nI v = 0
        · rw [if_pos gv, if_pos gv]
          exact fin (jb u)
        · rw [if_neg gv, if_neg gv, chk_n _ k4 (by omega)]
          by_cases gv1 : nI v = 1
          · rw [if_pos gv1, if_pos gv1]
            exact fin (js u)
          · rw [if_neg gv1, if_neg gv1]
            exact fin u
      · rw [if_neg g2, if_neg (by decide), if_neg (show ¬ (0 ≤ y.toInt ∧ y.toInt ≤ (z : Int) - 1) by omega)]
        exact ⟨-12, S, M, by rfl, rfl, h⟩
  · rw [if_neg g1, if_neg (fun q => g1 q.1)]
    exact ⟨-1, S, M, rfl, rfl, h⟩
