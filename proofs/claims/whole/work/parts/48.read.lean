/-! B: read -/
theorem lgl (a b : Int64) : lg_cmp a b < 0 ↔ a.toInt < b.toInt := by
  have h := lg_cmp_ge a b
  rw [Int64.le_iff_toInt_le] at h
  rw [← Int32.not_le, h]
  omega
theorem i_wrap {x : Int32} {f : Nat} (hf : f < 1000) : (x + nI f).toInt = if x.toInt + f < 2147483648 then x.toInt + f else x.toInt + f - 4294967296 := by
  have h1 := i_lo x
  have h2 := i_hi x
  rw [Int32.toInt_add, nI_toInt (by omega)]
  by_cases g : x.toInt + f < 2147483648
  · rw [if_pos g, Int.bmod_eq_of_le (by omega) (by omega)]
  · rw [if_neg g, Int.bmod_def]
    omega
theorem rel_app {n l v : Nat} {S M : St} (h : Rel9 S M) (hp : RelP n S M) (sl : S.1 1 4 = nI l) (hl : l < 40) (hv : v < 2 ^ n) : RelP n (sI (sI S 3 l (nI v)) 1 4 (nI (l + 1))) (sI (sI M 1 l (nI v)) 0 4 (nI (l + 1))) ∧ Rel9 (sI (sI S 3 l (nI v)) 1 4 (nI (l + 1))) (sI (sI M 1 l (nI v)) 0 4 (nI (l + 1))) := by
  obtain ⟨n2, n8, sn, mn, ho, hs, hsh, ⟨l', l40, sl', ml, hrow⟩, hord, hperm⟩ := id hp
  have e : l' = l := (nI_eq (by omega) (by omega)).mp (by rw [← sl', sl])
  subst e
  have hP : RelP n (sI (sI S 3 l' (nI v)) 1 4 (nI (l' + 1))) (sI (sI M 1 l' (nI v)) 0 4 (nI (l' + 1))) := by
    unfold RelP
    simp only [sI_at]
    refine ⟨n2, n8, by simpa using sn, by simpa using mn, by simpa using ho, by simpa using hs, by simpa using hsh, ⟨l' + 1, by omega, by simp, by simp, fun k hk => ?_⟩, by simpa using hord, by simpa using hperm⟩
    by_cases gk : k = l'
    · subst gk
      exact ⟨v, hv, by simp, by simp⟩
    · simpa [gk] using hrow k (by omega)
  refine ⟨hP, rel_plan h hP (fun a ha => by rw [sI_row _ _ _ _ _ (by omega), sI_row _ _ _ _ _ (by omega)]) rfl (fun k hk => by rw [sI_at, if_neg (by omega), sI_at, if_neg (by omega)]) (fun a ha => by rw [sI_row _ _ _ _ _ (by omega), sI_row _ _ _ _ _ (by omega)])⟩
theorem rel_torn {S M : St} (v : Int32) (h : Rel9 S M) : Rel9 (sI S 0 7 v) (sI M 0 36 v) := by
  obtain ⟨⟨n, hp⟩, ht, hf, hh, hc, hd⟩ := h
  refine ⟨⟨n, ?_⟩, ?_, ?_, ?_, ?_, ?_⟩
  · unfold RelP at hp ⊢
    simpa [sI_at] using hp
  · unfold RelT at ht ⊢
    simpa [sI_at] using ht
  · unfold RelF at hf ⊢
    simpa [sI_at] using hf.1
  · intro k hk
    have := hh k hk
    have q1 : 22 + 2 * k ≠ 0 ∧ 23 + 2 * k ≠ 0 := by omega
    simpa [sI_at, q1] using this
  · unfold RelC at hc ⊢
    simpa [sI_at, sI_2] using hc
  · unfold RelD at hd ⊢
    simpa [sI_at] using hd
theorem P_append_e {F l : Nat} {S : St} {v : Int32} (sl : S.1 1 4 = nI l) (hl : l < 40) : P_append F 1 S v = some (1, sI (sI S 3 l v) 1 4 (nI (l + 1))) := by
  have a1 : ¬ nI l < 0 := nI_pos (by omega)
  have a2 : nI l < 40 := (nI_ltI (b := 40) (by omega) (by omega)).mpr hl
  unfold P_append
  rw [sl, if_neg a1, if_pos a2, chk_n _ hl (by omega), bnd_e, nI_clamp (by omega)]
  simp only [bnd_e, sI_at]
  simp [sl, nI_1]
/-- what a cell that may be read is -/
def rdG (n k l : Nat) (S : St) (p3 : Int32) (t : Nat) : Prop := ∃ y v, p3 + nI t = nI y ∧ y < 40 ∧ v < 2 ^ n ∧ S.1 (23 + 2 * k) y = nI v ∧ l + t < 40
theorem read_app {F n k l c : Nat} {S0 M0 : St} {p3 v4 v5 : Int32} {k7 k6 : St → Option (Int32 × St)} (hk : k < 4) (hS : RelH S0 M0) (hc : c ≤ 40) (hG : ∀ t, t < c → rdG n k l S0 p3 t) : ∀ (j i f f' : Nat) (S M : St), i + j = c → j < f → j < f' → Rel9 S M → RelP n S M → S.1 1 4 = nI (l + i) → S.1 (23 + 2 * k) = S0.1 (23 + 2 * k) → M.1 16 = M0.1 16 → ∃ S' M', N_read_L121 F (nI k) p3 v4 (nI c) k7 f S (nI i) = k7 S' ∧ M_read_L166 F (nI k) p3 v4 (nI c) k6 f' M (nI i) = k6 M' ∧ Rel9 S' M'
  | 0, i, f + 1, f' + 1, S, M, hi, hf, hf', hR, hP, hl, h1, h2 => by
    refine ⟨S, M, ?_, ?_, hR⟩
    · rw [N_read_L121, if_neg (by rw [nI_ltI (by omega) (by omega)]; omega)]
    · rw [M_read_L166, if_neg (by rw [nI_ltI (by omega) (by omega)]; omega)]
  | j + 1, i, f + 1, f' + 1, S, M, hi, hf, hf', hR, hP, hl, h1, h2 => by
    obtain ⟨y, v, g1, g2, g3, g4, g5⟩ := hG i (by omega)
    have cell : M.1 16 (40 * k + y) = nI v := by rw [h2, ← (hS k hk).2.2 y g2, g4]
    have ml : M.1 0 4 = nI (l + i) := by
      obtain ⟨l', l40, a1, a2, -⟩ := hP.2.2.2.2.2.2.2.1
      rw [a2, ← a1, hl]
    have ra := rel_app hR hP hl (by omega) g3
    obtain ⟨S', M', e1, e2, e3⟩ := read_app (F := F) (v4 := v4) (v5 := v5) (k7 := k7) (k6 := k6) hk hS hc hG j (i + 1) f f' _ _ (by omega) (by omega) (by omega) ra.2 ra.1 (by rw [sI_at, if_pos ⟨rfl, rfl⟩]; rfl) (by rw [sI_row _ _ _ _ _ (by omega), sI_row _ _ _ _ _ (by omega), h1]) (by rw [sI_row _ _ _ _ _ (by omega), sI_row _ _ _ _ _ (by omega), h2])
    refine ⟨S', M', ?_, ?_, e3⟩
    · rw [N_read_L121, if_pos (by rw [nI_ltI (by omega) (by omega)]; omega), nI_clamp (by omega), g1, H_cell, jn_e, if_neg (nI_pos (by omega)), if_pos (show nI y < 40 from (nI_ltI (b := 40) (by omega) (by omega)).mpr g2), chk_n _ g2 (by decide), crd_s, nI_clamp (by omega), show 22 + 2 * k + 1 = 23 + 2 * k by omega, h1, g4, P_append_e hl (by omega), cal_s, bnd_e, nI_1]
      exact e1
    · rw [M_read_L166, if_pos (by rw [nI_ltI (by omega) (by omega)]; omega), Int32.add_assoc, g1, nI_40, chk_n _ (by omega) (by decide), ml, chk_n _ (by omega) (by decide), bnd_e, bnd_e, bnd_e, nI_1, nI_clamp (by omega), nI_clamp (by omega), cell]
      rw [show (sI M 1 (l + i) (nI v)).1 0 4 + 1 = nI (l + i + 1) by rw [sI_at, if_neg (by omega), ml, nI_1]]
      exact e2
theorem read_loop {F n k l c z : Nat} {S M : St} {p2 p3 : Int32} {J6 k16 k3 : Int32 → Int32 → Option (Int32 × St)} {k19 k14 : Int32 → Option (Int32 × St)} (h : Rel9 S M) (hp : RelP n S M) (hk : k < 4) (hc : c ≤ 40) (sl : S.1 1 4 = nI l) (ml : M.1 0 4 = nI l) (l40 : l ≤ 40) (hz : z ≤ 40) (sz : S.1 (22 + 2 * k) 1 = nI z) (mz : M.1 15 k = nI z) (hK : ∀ (t : Nat) (v : Int32), t ≤ c → (∀ i, i < t → rdG n k l S p3 i) → ∃ r S1 M1, J6 v (nI t) = some (r, S1) ∧ k3 v (nI t) = some (r, M1) ∧ Rel9 S1 M1) (hJ : ∀ a b, k16 a b = J6 a b) (h19 : ∀ v, k19 v = some ((-20) - v, S)) (h14 : ∀ v, k14 v = some ((-20) - v, M)) : ∀ (j i f f' : Nat), i + j = c → j < f → j + 1 < f' → (∀ t, t < i → rdG n k l S p3 t) → ∃ r S1 M1, N_read_L42 F (nI k) p2 p3 (nI c) S J6 k16 k19 f 0 (nI i) = some (r, S1) ∧ M_read_L32 F (nI k) p2 p3 (nI c) M k3 k14 f' 0 (nI i) (nI i) = some (r, M1) ∧ Rel9 S1 M1
  | 0, i, f + 1, f' + 1, hi, hf, hf', hG => by
    obtain ⟨r, S1, M1, e1, e2, e3⟩ := hK i 0 (by omega) hG
    refine ⟨r, S1, M1, ?_, ?_, e3⟩
    · rw [N_read_L42, if_neg (by rw [nI_ltI (by omega) (by omega)]; omega), e1]
    · rw [M_read_L32, if_neg (by rw [nI_ltI (by omega) (by omega)]; omega), e2]
  | j + 1, i, f + 1, f' + 2, hi, hf, hf', hG => by
    obtain ⟨n2, n8, sn, mn, -⟩ := id hp
    have hw := pw_hi n8
    obtain ⟨hlane, -, hcell⟩ := h.2.2.2.1 k hk
    have hI := i_wrap (x := p3) (f := i) (by omega)
    have lo := i_lo p3
    have hi3 := i_hi p3
    have u1 : (p3.toInt64 + (nI i).toInt64).toInt = p3.toInt + i := by
      rw [fb_addL (by rw [Int32.toInt_toInt64, Int32.toInt_toInt64, nI_toInt (by omega)]; omega) (by rw [Int32.toInt_toInt64, Int32.toInt_toInt64, nI_toInt (by omega)]; omega), Int32.toInt_toInt64, Int32.toInt_toInt64, nI_toInt (by omega)]
    have cond : (0 ≤ (p3 + nI i).toInt ∧ (p3 + nI i).toInt < z) ↔ (0 ≤ p3.toInt + i ∧ p3.toInt + i < z) := by
      rw [hI]
      split <;> omega
    have lA : lg_cmp (p3.toInt64 + (nI i).toInt64) 0 < 0 ↔ p3.toInt + i < 0 := by rw [lgl, u1]; rfl
    have lB : lg_cmp (p3.toInt64 + (nI i).toInt64) (nI z).toInt64 < 0 ↔ p3.toInt + i < z := by rw [lgl, u1, Int32.toInt_toInt64, nI_toInt (by omega)]
    have bad : ∀ w : Int32, ¬ w = 0 → ∃ r S1 M1, J6 w (nI i) = some (r, S1) ∧ M_read_L32 F (nI k) p2 p3 (nI c) M k3 k14 (f' + 1) w (nI i) (nI (i + 1)) = some (r, M1) ∧ Rel9 S1 M1 := by
      intro w hw0
      obtain ⟨r, S1, M1, e1, e2, e3⟩ := hK i w (by omega) hG
      refine ⟨r, S1, M1, e1, ?_, e3⟩
      rw [M_read_L32, if_neg hw0]
      split <;> exact e2
    rw [N_read_L42, if_pos (by rw [nI_ltI (by omega) (by omega)]; omega), M_read_L32, if_pos (by rw [nI_ltI (by omega) (by omega)]; omega), if_pos rfl, nI_clamp (show k < 2 ^ 31 by omega), H_faultAs_e hz sz, crd_s]
    simp only [bnd_e, jn_e, chk_n _ hk (show 4 < 2 ^ 31 by decide), nI_1, hJ, h19, h14]
    rcases hlane with ⟨a1, a2⟩ | ⟨v, v3, a1, a2⟩
    · rw [a1, a2, if_pos rfl, if_neg (show ¬ (1 : Int32) = 0 by decide), if_pos rfl]
      rw [if_neg (show ¬ (1 : Int32) = 0 by decide)]
      exact bad 1 (by decide)
    · have f1 : ¬ nI v = -1 := by
        rcases (show v = 0 ∨ v = 1 ∨ v = 2 by omega) with rfl | rfl | rfl <;> decide
      have f4 : ¬ nI v = -4 := by
        rcases (show v = 0 ∨ v = 1 ∨ v = 2 by omega) with rfl | rfl | rfl <;> decide
      rw [a1, a2, if_neg f1, if_neg f4]
      by_cases g1 : p2 = nI v
      · rw [if_pos g1, if_pos g1.symm, mz]
        by_cases g2 : 0 ≤ p3.toInt + i ∧ p3.toInt + i < z
        · rw [if_pos (cond.mpr g2), if_pos rfl, if_neg (c := lg_cmp (p3.toInt64 + (nI i).toInt64) 0 < 0) (fun q => by rw [lA] at q; omega), if_pos (lB.mpr g2.2), if_pos True.intro]
          obtain ⟨y, hy⟩ : ∃ y : Nat, p3.toInt + i = y := ⟨(p3.toInt + i).toNat, by omega⟩
          have ey : p3 + nI i = nI y := by
            rw [ieq, nI_toInt (by omega), hI, if_pos (by omega), hy]
          have eu : (p3.toInt64 + (nI i).toInt64).toInt32 = nI y := by
            rw [show p3.toInt64 + (nI i).toInt64 = lN y by rw [← Int64.toInt_inj, u1, hy, lN_toInt (by omega)], lN_i]
          have ec : M.1 16 (40 * k + y) = S.1 (23 + 2 * k) y := (hcell y (by omega)).symm
          rw [ey, eu, H_cell, jn_e, if_neg (nI_pos (by omega)), if_pos (show nI y < 40 from (nI_ltI (b := 40) (by omega) (by omega)).mpr (by omega)), chk_n _ (by omega) (by decide), crd_s, nI_clamp (by omega), show 22 + 2 * k + 1 = 23 + 2 * k by omega, nI_40, chk_n _ (by omega) (by decide), nI_clamp (by omega), ec, P_isWord_e 1 n8 sn, M_isWord_e n8 mn, crd_s, crd_s, sl, ml, nI_add]
          simp only [i10]
          by_cases g3 : 0 ≤ (S.1 (23 + 2 * k) y).toInt ∧ (S.1 (23 + 2 * k) y).toInt < 2 ^ n
          · rw [if_pos g3, if_pos g3]
            obtain ⟨w, hw1, hw2, hw3⟩ := i_nat g3.1
            have lw : w < 2 ^ n := by have := g3.2; rw [hw3] at this; exact_mod_cast this
            have lt40 : nI (l + i) < 40 ↔ l + i < 40 := nI_ltI (b := 40) (by omega) (by omega)
            by_cases g4 : l + i < 40
            · rw [if_pos (lt40.mpr g4), if_pos (lt40.mpr g4)]
              exact read_loop h hp hk hc sl ml l40 hz sz mz hK hJ h19 h14 j (i + 1) f (f' + 1) (by omega) (by omega) (by omega) (fun t ht => by
                by_cases e : t = i
                · rw [e]
                  exact ⟨y, w, ey, by omega, lw, hw2, g4⟩
                · exact hG t (by omega))
            · rw [if_neg (fun q => g4 (lt40.mp q)), if_neg (fun q => g4 (lt40.mp q))]
              exact ⟨-3, S, M, rfl, rfl, h⟩
          · rw [if_neg g3, if_neg g3]
            exact ⟨_, S, M, rfl, rfl, h⟩
        · rw [if_neg (fun q => g2 (cond.mp q)), if_neg (show ¬ (2 : Int32) = 0 by decide), if_neg (show ¬ (2 : Int32) = 0 by decide)]
          have b2 := bad 2 (by decide)
          by_cases g3 : p3.toInt + i < 0
          · rw [if_pos (lA.mpr g3)]
            exact b2
          · rw [if_neg (fun q => g3 (lA.mp q)), if_neg (fun q => g2 ⟨by omega, lB.mp q⟩)]
            exact b2
      · rw [if_neg g1, if_neg (show ¬ (3 : Int32) = 0 by decide), if_neg (c := nI v = p2) (fun q => g1 q.symm), if_neg (show ¬ (3 : Int32) = 0 by decide)]
        exact bad 3 (by decide)
theorem ok_read : st_read F9 Rel9 := by
  intro S M h x la p3 y
  obtain ⟨n, hp⟩ := h.1
  obtain ⟨n2, n8, sn, mn, ho, hs, hsh, ⟨l, l40, sl, ml, hrow⟩, hord, hperm⟩ := id hp
  have h0 : (0 : Int64) = (0 : Int32).toInt64 := by decide
  have h40 : (40 : Int64) = (40 : Int32).toInt64 := by decide
  have t40 : (40 : Int32).toInt = 40 := by decide
  unfold N_read M_read
  rw [N_isSheet_e, N_isLane_e, M_isSheet_e, h0, h40, M_in_e]
  simp only [crd_s, i10, c0, t40]
  by_cases g1 : 0 ≤ x.toInt ∧ x.toInt < 4
  · rw [if_pos g1]
    by_cases g2 : 0 ≤ la.toInt ∧ la.toInt < 3
    · rw [if_pos g2, if_pos (c := (0 ≤ x.toInt ∧ x.toInt < 4) ∧ (0 ≤ la.toInt ∧ la.toInt < 3)) ⟨g1, g2⟩]
      simp only [ilt, c0, t40]
      by_cases g3 : 0 ≤ y.toInt ∧ y.toInt ≤ 40
      · rw [if_neg (by omega), if_neg (by omega), if_pos g3]
        obtain ⟨k, hk, rfl, hk2⟩ := i_nat g1.1
        obtain ⟨c, hc, rfl, hc2⟩ := i_nat g3.1
        have k4 : k < 4 := by omega
        have c40 : c ≤ 40 := by omega
        obtain ⟨-, ⟨z, z40, sz, mz⟩, -⟩ := h.2.2.2.1 k k4
        rw [chk_n _ k4 (by decide), jn_e]
        have := read_loop (F := F9) (p2 := la) (p3 := p3) (J6 := fun v4 v5 => N_read_L121 F9 (nI k) p3 v4 v5 (fun S8 => bnd (sI S8 0 7 v4) fun S9 => some (v5, S9)) F9 S 0) (k16 := fun v17 v18 => N_read_L121 F9 (nI k) p3 v17 v18 (fun S8 => bnd (sI S8 0 7 v17) fun S9 => some (v18, S9)) F9 S 0) (k3 := fun v4 v5 => M_read_L166 F9 (nI k) p3 v4 v5 (fun S7 => bnd (sI S7 0 36 v4) fun S8 => some (v5, S8)) F9 M 0) (k19 := fun v20 => some ((-20) - v20, S)) (k14 := fun v15 => some ((-20) - v15, M)) h hp k4 c40 sl ml l40 z40 sz mz (fun t v ht hG => by
          obtain ⟨S', M', e1, e2, e3⟩ := read_app (F := F9) (v4 := v) (v5 := v) (k7 := fun S8 => bnd (sI S8 0 7 v) fun S9 => some (nI t, S9)) (k6 := fun S7 => bnd (sI S7 0 36 v) fun S8 => some (nI t, S8)) k4 h.2.2.2.1 (by omega) hG t 0 F9 F9 S M (by omega) (by unfold F9; omega) (by unfold F9; omega) h hp sl rfl rfl
          rw [nI_0] at e1 e2
          exact ⟨nI t, _, _, e1, e2, rel_torn v e3⟩) (fun _ _ => rfl) (fun _ => rfl) (fun _ => rfl) c 0 F9 F9 (by omega) (by unfold F9; omega) (by unfold F9; omega) (fun t ht => absurd ht (Nat.not_lt_zero t))
        rw [nI_0] at this
        exact this
      · rw [if_neg g3]
        refine ⟨-1, S, M, ?_, rfl, h⟩
        by_cases g4 : y.toInt < 0
        · rw [if_pos g4]
        · rw [if_neg g4, if_pos (by omega)]
    · rw [if_neg g2, if_neg (fun q => g2 q.2)]
      exact ⟨-1, S, M, rfl, rfl, h⟩
  · rw [if_neg g1, if_neg (fun q => g1 q.1)]
    exact ⟨-1, S, M, rfl, rfl, h⟩
