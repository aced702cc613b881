/-! B: text, the call -/
theorem text_loop {B : Nat → Nat} {t : Nat} {k11 : St → Int32 → Option (Int32 × St)} : ∀ (k p i f f' n T : Nat) (S M : St), p + k = t → k < f → k < f' → i ≤ p → BN S B t → BM M B t → S.1 7 5 = nI p → S.1 6 2 = 0 → TokM M B t p → DrR n T S M → ∃ r S' M' v, R_readText_L26 F9 (fun S5 => some ((-10) - (S5.1 7 2), S5)) (fun S8 => some ((-10) - (S8.1 7 2), S8)) f S (nI i) = some (r, S') ∧ M_text_L62 F9 k11 f' M (nI i) = k11 M' v ∧ FN S S' ∧ FM M M' ∧ ((M'.1 0 20 = 0 ∧ ∃ i' n' T', i' ≤ 240 ∧ r = nI i' ∧ v = nI i' ∧ S'.1 6 2 = 0 ∧ DrR n' T' S' M') ∨ ∃ c s, s ≤ 240 ∧ Flt M' c s ∧ r = (-10) - nI s ∧ S'.1 6 2 = nI c)
  | k, p, i, f + 1, f' + 1, n, T, S, M, hk, hf, hf', hi, hN, hM, h5, h6, hT, hD => by
    have t240 := hN.2.1
    have hE := tkE_x B (show p ≤ t by omega)
    have hs := tkS_x B (show p ≤ t by omega)
    have kle := tkK_le B t p
    obtain ⟨S1, a1, a2, a3, a4, a5, a6⟩ := T_next_e hN (show p ≤ t by omega) h5
    have e0 : nI (tkK B t p) = 0 ↔ tkK B t p = 0 := nI_eq (b := 0) (by omega) (by omega)
    rw [R_readText_L26, if_neg (show ¬ (240 : Int32) < nI i by rw [show (240 : Int32) = nI 240 from rfl, nI_ltI (by omega) (by omega)]; omega), a1, cav_s, a4]
    by_cases g4 : tkK B t p = 4
    · have fl := hT.f4 g4
      have out : R_readLine F9 S1 = some (1, S1) := by
        unfold R_readLine R_outOfPlace
        rw [a4, g4, if_neg (by decide), if_pos (by decide), crd_s]
      rw [if_neg (fun z => by have := e0.mp z; omega), out, cal_s, bnd_e, show (sI S1 6 2 1).1 6 2 = 1 by rw [sI_at, if_pos ⟨rfl, rfl⟩], if_neg (by decide)]
      refine ⟨_, _, M, nI i, rfl, ?_, a2.n.tr (FN.s (by omega)), FM.rf, Or.inr ⟨1, tkS B t p, by omega, fl, ?_, ?_⟩⟩
      · rw [M_text_L62, if_neg fl.n0]
      · rw [sI_row _ _ _ _ _ (by decide), a3]
      · rw [sI_at, if_pos ⟨rfl, rfl⟩]; rfl
    · obtain ⟨h17, h20, h18, q1, q2, h16⟩ := hT.ok g4
      rw [M_text_L62, if_pos h20, h18]
      by_cases g0 : tkK B t p = 0
      · rw [if_pos (e0.mpr g0), if_pos (e0.mpr g0)]
        exact ⟨_, S1, M, nI i, rfl, rfl, a2.n, FM.rf, Or.inl ⟨h20, i, n, T, by omega, rfl, rfl, by rw [a2.1 6 (by decide), h6], hD.t a2 FrR.rf⟩⟩
      · have less : tkS B t p < t := by
          refine Nat.lt_of_not_le fun z => g0 ?_
          unfold tkK
          rw [if_neg (by omega)]
        have more := hE.2.2 less
        obtain ⟨T', c, S', M', b1, b2, b3, b4, b5⟩ := line_e (hN.fr a2) hM (show p ≤ t by omega) a3 a4 a5 a6 hT g4 (hD.t a2 FrR.rf)
        rw [if_neg (fun z => g0 (e0.mp z)), if_neg (fun z => g0 (e0.mp z)), b1, b2, cal_s, cav_s]
        simp only [bnd_e, nI_1]
        have fn2 : FN S (sI S' 6 2 c) := (a2.n.tr b3).tr (FN.s (by omega))
        rcases b5 with ⟨rfl, p', n', p1, p2, p3, p4, p5⟩ | ⟨c0, s, rfl, s1, s2, s3⟩
        · rw [show (sI S' 6 2 0).1 6 2 = 0 by rw [sI_at, if_pos ⟨rfl, rfl⟩], if_pos rfl]
          obtain ⟨r, S2, M2, v, d1, d2, d3, d4, d5⟩ := text_loop (k11 := k11) (t - p') p' (i + 1) f f' n' T' (sI S' 6 2 0) M' (by omega) (by omega) (by omega) (by omega) (hN.fn fn2) (hM.fm b4) (by rw [sI_row _ _ _ _ _ (by decide), p3]) (by rw [sI_at, if_pos ⟨rfl, rfl⟩]) p4 (p5.fr (sI_row _ _ _ _ _ (by decide)) (sI_row _ _ _ _ _ (by decide)) (by rw [sI_at, if_neg (by decide)]) (fun _ _ _ => rfl) rfl rfl)
          exact ⟨r, S2, M2, v, d1, d2, fn2.tr d3, b4.tr d4, d5⟩
        · have c0' : ¬ nI c0 = 0 := nI_ne0 (by have := s2.1; omega) (by have := s2.2.1; omega)
          rw [show (sI S' 6 2 (nI c0)).1 6 2 = nI c0 by rw [sI_at, if_pos ⟨rfl, rfl⟩], if_neg c0']
          obtain ⟨f0, rfl⟩ : ∃ f0, f' = f0 + 1 := ⟨f' - 1, by omega⟩
          refine ⟨_, _, M', nI (i + 1), rfl, ?_, fn2, b4, Or.inr ⟨c0, s, by omega, s2, ?_, ?_⟩⟩
          · rw [M_text_L62, if_neg s2.n0]
          · rw [sI_row _ _ _ _ _ (by decide), s3]
          · rw [sI_at, if_pos ⟨rfl, rfl⟩]
def rsF (S : St) : Nat → St
  | 0 => sI (sI (sI (sI (sI S 9 0 4) 9 1 1) 9 2 1) 9 3 0) 9 4 0
  | i + 1 => sI (rsF S i) 10 i (nI i)
theorem rsF_row (S : St) (q : Nat) (h : q ≠ 9 ∧ q ≠ 10) : ∀ i, (rsF S i).1 q = S.1 q
  | 0 => by rw [rsF, sI_row _ _ _ _ _ h.1, sI_row _ _ _ _ _ h.1, sI_row _ _ _ _ _ h.1, sI_row _ _ _ _ _ h.1, sI_row _ _ _ _ _ h.1]
  | i + 1 => by rw [rsF, sI_row _ _ _ _ _ h.2, rsF_row S q h i]
theorem rsF_2 (S : St) : ∀ i, (rsF S i).2 = S.2
  | 0 => rfl
  | i + 1 => by rw [rsF, sI_2, rsF_2 S i]
theorem rsF_9 (S : St) (k : Nat) : ∀ i, (rsF S i).1 9 k = (rsF S 0).1 9 k
  | 0 => rfl
  | i + 1 => by
    show (sI (rsF S i) 10 i (nI i)).1 9 k = _
    rw [sI_row _ _ _ _ _ (by decide), rsF_9 S k i]
theorem rsF_in (S : St) (j : Nat) : ∀ i, j < i → (rsF S i).1 10 j = nI j
  | i + 1, h => by
    rw [rsF, sI_at]
    by_cases g : j = i
    · rw [if_pos ⟨rfl, g⟩, g]
    · rw [if_neg (fun z => g z.2), rsF_in S j i (by omega)]
theorem reset_loop (S : St) : ∀ (k i f : Nat), i + k = 8 → k < f → P_reset_L27 F9 9 f (rsF S i) (nI i) = some (rsF S 8)
  | 0, i, f + 1, hi, hf => by
    rw [P_reset_L27, if_neg (show ¬ nI i < 8 by rw [show (8 : Int32) = nI 8 from rfl, nI_ltI (by omega) (by omega)]; omega), show i = 8 by omega]
  | k + 1, i, f + 1, hi, hf => by
    rw [P_reset_L27, if_pos (lt_8 (by omega)), chk_n _ (by omega) (by decide), nI_clamp (by omega), bnd_e, bnd_e, nI_1]
    exact reset_loop S k (i + 1) f (by omega) (by omega)
theorem reset_e (S : St) : P_reset F9 9 S = some (rsF S 8) := by
  unfold P_reset
  rw [bnd_e, bnd_e, bnd_e, bnd_e, bnd_e]
  exact reset_loop S 8 0 F9 (by omega) (by unfold F9; omega)
theorem flagsM {k8 : St → Option (Int32 × St)} : ∀ (k i f : Nat) (M : St), i + k = 6 → k < f → (∀ j, j < i → M.1 4 j = 0) → ∃ M', M_text_L39 F9 k8 f M (nI i) = k8 M' ∧ Sq9 4 M M' ∧ ∀ j, j < 6 → M'.1 4 j = 0
  | 0, i, f + 1, M, hi, hf, hz => by
    refine ⟨M, ?_, Sq9.rf, fun j hj => hz j (by omega)⟩
    rw [M_text_L39, if_neg (show ¬ nI i < 6 by rw [show (6 : Int32) = nI 6 from rfl, nI_ltI (by omega) (by omega)]; omega)]
  | k + 1, i, f + 1, M, hi, hf, hz => by
    obtain ⟨M', a1, a2, a3⟩ := flagsM (k8 := k8) k (i + 1) f (sI M 4 i 0) (by omega) (by omega) (fun t ht => by
      rw [sI_at]
      by_cases e : t = i
      · rw [if_pos ⟨rfl, e⟩]
      · rw [if_neg (fun z => e z.2), hz t (by omega)])
    refine ⟨M', ?_, Sq9.sI.tr a2, a3⟩
    rw [M_text_L39, if_pos (show nI i < 6 from (nI_ltI (b := 6) (by omega) (by omega)).mpr (by omega)), chk_n _ (by omega) (by decide), nI_clamp (by omega), bnd_e, bnd_e, nI_1]
    exact a1
theorem copyM {v13 : Int32} {k20 : St → Option (Int32 × St)} : ∀ (k i f : Nat) (M : St), i + k = 40 → k < f → (∀ j, j < i → M.1 1 j = M.1 3 j) → ∃ M', M_text_L148 F9 v13 k20 f M (nI i) = k20 M' ∧ Sq9 1 M M' ∧ ∀ j, j < 40 → M'.1 1 j = M'.1 3 j
  | 0, i, f + 1, M, hi, hf, hz => by
    refine ⟨M, ?_, Sq9.rf, fun j hj => hz j (by omega)⟩
    rw [M_text_L148, if_neg (show ¬ nI i < 40 by rw [show (40 : Int32) = nI 40 from rfl, nI_ltI (by omega) (by omega)]; omega)]
  | k + 1, i, f + 1, M, hi, hf, hz => by
    obtain ⟨M', a1, a2, a3⟩ := copyM (v13 := v13) (k20 := k20) k (i + 1) f (sI M 1 i (M.1 3 i)) (by omega) (by omega) (fun t ht => by
      rw [sI_at, sI_row _ _ _ _ _ (by decide)]
      by_cases e : t = i
      · rw [if_pos ⟨rfl, e⟩, e]
      · rw [if_neg (fun z => e z.2), hz t (by omega)])
    refine ⟨M', ?_, Sq9.sI.tr a2, a3⟩
    rw [M_text_L148, if_pos (show nI i < 40 from (nI_ltI (b := 40) (by omega) (by omega)).mpr (by omega)), chk_n _ (by omega) (by decide), chk_n _ (by omega) (by decide), nI_clamp (by omega), bnd_e, bnd_e, nI_1]
    exact a1
theorem ordM {v13 : Int32} : ∀ (k i f : Nat) (M : St), i + k = 9 → k < f → (∀ j, j < i → M.1 2 j = nI j) → ∃ M', M_text_L174 F9 v13 f M (nI i) = some (v13, M') ∧ Sq9 2 M M' ∧ ∀ j, j < 9 → M'.1 2 j = nI j
  | 0, i, f + 1, M, hi, hf, hz => by
    refine ⟨M, ?_, Sq9.rf, fun j hj => hz j (by omega)⟩
    rw [M_text_L174, if_neg (show ¬ nI i < 9 by rw [show (9 : Int32) = nI 9 from rfl, nI_ltI (by omega) (by omega)]; omega)]
  | k + 1, i, f + 1, M, hi, hf, hz => by
    obtain ⟨M', a1, a2, a3⟩ := ordM (v13 := v13) k (i + 1) f (sI M 2 i (nI i)) (by omega) (by omega) (fun t ht => by
      rw [sI_at]
      by_cases e : t = i
      · rw [if_pos ⟨rfl, e⟩, e]
      · rw [if_neg (fun z => e z.2), hz t (by omega)])
    refine ⟨M', ?_, Sq9.sI.tr a2, a3⟩
    rw [M_text_L174, if_pos (show nI i < 9 from (nI_ltI (b := 9) (by omega) (by omega)).mpr (by omega)), chk_n _ (by omega) (by decide), nI_clamp (by omega), bnd_e, bnd_e, nI_1]
    exact a1
theorem cut0 {t : Nat} {S : St} (h : S.1 7 0 = nI t) (ht : t ≤ 240) : T_cut F9 S 0 = some (1, sI S 7 0 0) := by
  unfold T_cut
  rw [if_neg (by decide), h, if_neg (nI_pos (by omega)), bnd_e]
theorem copyN (S : St) : ∃ S', P_copy F9 1 9 S = some S' ∧ (∀ q, q ≠ 1 → q ≠ 2 → q ≠ 3 → S'.1 q = S.1 q) ∧ S'.2 = S.2 ∧ (∀ k, k < 5 → S'.1 1 k = S.1 9 k) ∧ (∀ j, j < 8 → S'.1 2 j = S.1 10 j) ∧ ∀ j, j < 40 → S'.1 3 j = S.1 11 j := by
  have c8 : Int32.toNatClampNeg 8 = 8 := by decide
  have c40 : Int32.toNatClampNeg 40 = 40 := by decide
  unfold P_copy
  simp only [bnd_e, c8, c40]
  refine ⟨_, rfl, fun q h1 h2 h3 => ?_, rfl, fun k hk => ?_, fun j hj => ?_, fun j hj => ?_⟩
  · rw [sA_1, if_neg h3, sA_1, if_neg h2, sI_row _ _ _ _ _ h1, sI_row _ _ _ _ _ h1, sI_row _ _ _ _ _ h1, sI_row _ _ _ _ _ h1, sI_row _ _ _ _ _ h1]
  · rw [sA_1, if_neg (by decide), sA_1, if_neg (by decide)]
    rcases (show k = 0 ∨ k = 1 ∨ k = 2 ∨ k = 3 ∨ k = 4 by omega) with rfl | rfl | rfl | rfl | rfl <;> simp [sI_at]
  · rw [sA_1, if_neg (by decide), sA_1, if_pos rfl, pk_cpy_in (by omega) (by omega), Nat.sub_zero, Nat.zero_add, sI_row _ _ _ _ _ (by decide), sI_row _ _ _ _ _ (by decide), sI_row _ _ _ _ _ (by decide), sI_row _ _ _ _ _ (by decide), sI_row _ _ _ _ _ (by decide)]
  · rw [sA_1, if_pos rfl, pk_cpy_in (by omega) (by omega), Nat.sub_zero, Nat.zero_add, sA_1, if_neg (by decide), sI_row _ _ _ _ _ (by decide), sI_row _ _ _ _ _ (by decide), sI_row _ _ _ _ _ (by decide), sI_row _ _ _ _ _ (by decide), sI_row _ _ _ _ _ (by decide)]
theorem rel_text {n : Nat} {S M S' M' : St} (h : Rel9 S M) (hP : RelP n S' M') (s7 : S'.1 7 0 = 0) (m15 : M'.1 0 15 = 0) (f2 : S'.1 6 2 = M'.1 0 20) (n0 : S'.1 0 = S.1 0) (n22 : ∀ a, (a = 17 ∨ 22 ≤ a) → S'.1 a = S.1 a) (n2 : S'.2 = S.2) (m36 : M'.1 0 36 = M.1 0 36) (m31 : M'.1 0 31 = M.1 0 31) (m13 : ∀ a, 13 ≤ a → M'.1 a = M.1 a) : Rel9 S' M' := by
  obtain ⟨-, ht, hf, hh, hc, hd⟩ := h
  refine ⟨⟨n, hP⟩, ⟨0, by omega, by rw [s7]; rfl, by rw [m15]; rfl, fun k hk => absurd hk (Nat.not_lt_zero k)⟩, ⟨f2, by rw [n0, m36]; exact hf.2⟩, ?_, ?_, ?_⟩
  · intro k hk
    rw [n22 (22 + 2 * k) (by omega), n22 (23 + 2 * k) (by omega), m13 14 (by omega), m13 15 (by omega), m13 16 (by omega)]
    exact hh k hk
  · unfold RelC at hc ⊢
    rw [n22 17 (by omega), n2]
    exact hc
  · unfold RelD at hd ⊢
    rw [m31, m13 13 (by omega)]
    exact hd
theorem ok_text : st_text F9 Rel9 := by
  intro S M h
  obtain ⟨⟨n, hp⟩, ⟨t, t240, st, mt, hb⟩, hf, hh, hc, hd⟩ := id h
  -- the bytes
  have hB : ∀ k, k < t → (M.1 5 k).toNatClampNeg < 256 ∧ M.1 5 k = nI (M.1 5 k).toNatClampNeg ∧ S.1 8 k = jb (nI (M.1 5 k).toNatClampNeg) := fun k hk => by
    obtain ⟨v, hv, e1, e2⟩ := hb k hk
    rw [e1, nI_clamp (by omega)]
    exact ⟨hv, rfl, e2⟩
  generalize hBdef : (fun k => (M.1 5 k).toNatClampNeg) = B
  have hB' : ∀ k, k < t → B k < 256 ∧ M.1 5 k = nI (B k) ∧ S.1 8 k = jb (nI (B k)) := fun k hk => by rw [← hBdef]; exact hB k hk
  -- the class's start
  generalize hS0 : sI (sI (sI (rsF S 8) 7 5 0) 6 2 0) 6 3 0 = S0
  have rN : ∀ q, q ≠ 6 → q ≠ 7 → q ≠ 9 → q ≠ 10 → S0.1 q = S.1 q := fun q q6 q7 q9 q10 => by
    rw [← hS0, sI_row _ _ _ _ _ q6, sI_row _ _ _ _ _ q6, sI_row _ _ _ _ _ q7, rsF_row S q ⟨q9, q10⟩]
  have r70 : S0.1 7 0 = nI t := by rw [← hS0, sI_row _ _ _ _ _ (by decide), sI_row _ _ _ _ _ (by decide), sI_at, if_neg (by decide), rsF_row S 7 ⟨by decide, by decide⟩, st]
  have r75 : S0.1 7 5 = nI 0 := by rw [← hS0, sI_row _ _ _ _ _ (by decide), sI_row _ _ _ _ _ (by decide), sI_at, if_pos ⟨rfl, rfl⟩]; rfl
  have r62 : S0.1 6 2 = 0 := by rw [← hS0, sI_at, if_neg (by decide), sI_at, if_pos ⟨rfl, rfl⟩]
  have r63 : S0.1 6 3 = nI 0 := by rw [← hS0, sI_at, if_pos ⟨rfl, rfl⟩]; rfl
  have r9 : ∀ k, S0.1 9 k = (rsF S 0).1 9 k := fun k => by rw [← hS0, sI_row _ _ _ _ _ (by decide), sI_row _ _ _ _ _ (by decide), sI_row _ _ _ _ _ (by decide), rsF_9]
  have r10 : ∀ j, j < 8 → S0.1 10 j = nI j := fun j hj => by rw [← hS0, sI_row _ _ _ _ _ (by decide), sI_row _ _ _ _ _ (by decide), sI_row _ _ _ _ _ (by decide), rsF_in S j 8 hj]
  have r2 : S0.2 = S.2 := by rw [← hS0, sI_2, sI_2, sI_2, rsF_2]
  have eN : R_readText F9 S = R_readText_L26 F9 (fun S5 => some ((-10) - (S5.1 7 2), S5)) (fun S8 => some ((-10) - (S8.1 7 2), S8)) F9 S0 0 := by
    unfold R_readText
    rw [reset_e, cav_s, T_rewind, bnd_e, cav_s, bnd_e, bnd_e, hS0, jn_e]
  have hN0 : BN S0 B t := ⟨r70, t240, fun k hk => by rw [rN 8 (by decide) (by decide) (by decide) (by decide)]; exact ⟨(hB' k hk).1, (hB' k hk).2.2⟩⟩
  -- the reference's start
  generalize hM7 : sI (sI (sI (sI (sI (sI (sI M 0 20 0) 0 16 0) 0 7 4) 0 8 1) 0 9 1) 0 10 0) 0 11 0 = M7
  have mR : ∀ q, q ≠ 0 → M7.1 q = M.1 q := fun q hq => by
    rw [← hM7, sI_row _ _ _ _ _ hq, sI_row _ _ _ _ _ hq, sI_row _ _ _ _ _ hq, sI_row _ _ _ _ _ hq, sI_row _ _ _ _ _ hq, sI_row _ _ _ _ _ hq, sI_row _ _ _ _ _ hq]
  have m0 : ∀ k, k ≠ 20 → k ≠ 16 → k ≠ 7 → k ≠ 8 → k ≠ 9 → k ≠ 10 → k ≠ 11 → M7.1 0 k = M.1 0 k := fun k a b c d e f g => by
    rw [← hM7, sI_at, if_neg (by omega), sI_at, if_neg (by omega), sI_at, if_neg (by omega), sI_at, if_neg (by omega), sI_at, if_neg (by omega), sI_at, if_neg (by omega), sI_at, if_neg (by omega)]
  have m20 : M7.1 0 20 = 0 := by rw [← hM7]; simp [sI_at]
  have m16 : M7.1 0 16 = nI 0 := by rw [← hM7]; simp [sI_at]; rfl
  have m7 : M7.1 0 7 = 4 ∧ M7.1 0 8 = 1 ∧ M7.1 0 9 = 1 ∧ M7.1 0 10 = 0 ∧ M7.1 0 11 = 0 := by rw [← hM7]; simp [sI_at]
  obtain ⟨M8, a1, a2, a3⟩ := flagsM (k8 := fun S9 => cav (M_next F9 S9) fun S10 => M_text_L62 F9 (fun S12 v13 => bnd (sI S12 0 15 0) fun S14 => (if 0 < (S14.1 0 20) then some ((-10) - (S14.1 0 21), S14) else bnd (sI S14 0 0 (S14.1 0 7)) fun S15 => bnd (sI S15 0 1 (S15.1 0 8)) fun S16 => bnd (sI S16 0 2 (S16.1 0 9)) fun S17 => bnd (sI S17 0 3 (S17.1 0 10)) fun S18 => bnd (sI S18 0 4 (S18.1 0 11)) fun S19 => M_text_L148 F9 v13 (fun S21 => M_text_L174 F9 v13 F9 S21 0) F9 S19 0)) F9 S10 0) 6 0 F9 M7 (by omega) (by unfold F9; omega) (fun j hj => by omega)
  have hM8 : BM M8 B t := ⟨by rw [a2 0 (by decide), m0 15 (by decide) (by decide) (by decide) (by decide) (by decide) (by decide) (by decide), mt], t240, fun k hk => by rw [a2 5 (by decide), mR 5 (by decide)]; exact ⟨(hB' k hk).1, (hB' k hk).2.1⟩⟩
  obtain ⟨M9, n1, n2, n3⟩ := M_next_e (p := 0) hM8 (Nat.zero_le _) (by rw [a2 0 (by decide), m20]) (by rw [a2 0 (by decide), m16])
  have dr : DrR 4 0 S0 M9 := by
    have d8 : DrR 4 0 S0 M8 := by
      refine ⟨by omega, by omega, ?_, ?_, ⟨1, by omega, ?_, ?_⟩, ⟨1, by omega, ?_, ?_⟩, ⟨0, by decide, ?_, ?_, fun _ => rfl⟩, ⟨0, by omega, ?_, ?_, fun k hk => absurd hk (Nat.not_lt_zero k), fun _ _ => rfl⟩, by omega, r63, fun k hk => ?_⟩
      · rw [r9]; simp [rsF, sI_at]; rfl
      · rw [a2 0 (by decide), m7.1]; rfl
      · rw [r9]; simp [rsF, sI_at]; rfl
      · rw [a2 0 (by decide), m7.2.1]; rfl
      · rw [r9]; simp [rsF, sI_at]; rfl
      · rw [a2 0 (by decide), m7.2.2.1]; rfl
      · rw [r9]; simp [rsF, sI_at]; rfl
      · rw [a2 0 (by decide), m7.2.2.2.1]; rfl
      · rw [r9]; simp [rsF, sI_at]; rfl
      · rw [a2 0 (by decide), m7.2.2.2.2]; rfl
      · rw [a3 k hk, Nat.zero_testBit]; rfl
    exact d8.t FrT.rf n2
  obtain ⟨r, S1, M1, v, c1, c2, c3, c4, c5⟩ := text_loop (B := B) (t := t) (k11 := fun S12 v13 => bnd (sI S12 0 15 0) fun S14 => (if 0 < (S14.1 0 20) then some ((-10) - (S14.1 0 21), S14) else bnd (sI S14 0 0 (S14.1 0 7)) fun S15 => bnd (sI S15 0 1 (S15.1 0 8)) fun S16 => bnd (sI S16 0 2 (S16.1 0 9)) fun S17 => bnd (sI S17 0 3 (S17.1 0 10)) fun S18 => bnd (sI S18 0 4 (S18.1 0 11)) fun S19 => M_text_L148 F9 v13 (fun S21 => M_text_L174 F9 v13 F9 S21 0) F9 S19 0)) t 0 0 F9 F9 4 0 S0 M9 (by omega) (by unfold F9; omega) (by unfold F9; omega) (by omega) hN0 (hM8.fr n2) r75 r62 n3 dr
  have eM : M_text F9 M = (fun S12 v13 => bnd (sI S12 0 15 0) fun S14 => (if 0 < (S14.1 0 20) then some ((-10) - (S14.1 0 21), S14) else bnd (sI S14 0 0 (S14.1 0 7)) fun S15 => bnd (sI S15 0 1 (S15.1 0 8)) fun S16 => bnd (sI S16 0 2 (S16.1 0 9)) fun S17 => bnd (sI S17 0 3 (S17.1 0 10)) fun S18 => bnd (sI S18 0 4 (S18.1 0 11)) fun S19 => M_text_L148 F9 v13 (fun S21 => M_text_L174 F9 v13 F9 S21 0) F9 S19 0)) M1 v := by
    rw [nI_0] at a1 c2
    unfold M_text
    rw [bnd_e, bnd_e, bnd_e, bnd_e, bnd_e, bnd_e, bnd_e, hM7, a1, n1, cav_s, c2]
  rw [nI_0] at c1
  have s1 : ∀ q, q ≠ 6 → q ≠ 7 → q ≠ 9 → q ≠ 10 → q ≠ 11 → S1.1 q = S.1 q := fun q q6 q7 q9 q10 q11 => by rw [c3.1 q q6 q7 q9 q11, rN q q6 q7 q9 q10]
  have s70 : S1.1 7 0 = nI t := by rw [c3.2.1, r70]
  have s2 : S1.2 = S.2 := by rw [c3.2.2, r2]
  have fm : FM M8 M1 := n2.m.tr c4
  have mm : ∀ a, a ≠ 0 → a ≠ 3 → a ≠ 4 → M1.1 a = M.1 a := fun a h0 h3 h4 => by rw [fm.1 a h0 h3 h4, a2 a h4, mR a h0]
  have mk : ∀ k, (k < 7 ∨ 21 < k) → M1.1 0 k = M.1 0 k := fun k hk => by rw [fm.2 k (by omega), a2 0 (by decide), m0 k (by omega) (by omega) (by omega) (by omega) (by omega) (by omega) (by omega)]
  unfold N_text
  rw [eN, c1, cal_s, eM]
  simp only [jn_e, bnd_e]
  rcases c5 with ⟨d1, i', n', T', d2, rfl, rfl, d3, d4⟩ | ⟨c, s, d1, d2, rfl, d3⟩
  · rw [if_neg (nI_pos (by omega)), show (sI M1 0 15 0).1 0 20 = 0 by rw [sI_at, if_neg (by decide), d1], if_neg (show ¬ (0 : Int32) < 0 by decide)]
    obtain ⟨S2, e1, e2, e3, e4, e5, e6⟩ := copyN S1
    generalize hM2 : sI (sI (sI (sI (sI (sI M1 0 15 0) 0 0 ((sI M1 0 15 0).1 0 7)) 0 1 ((sI (sI M1 0 15 0) 0 0 ((sI M1 0 15 0).1 0 7)).1 0 8)) 0 2 ((sI (sI (sI M1 0 15 0) 0 0 ((sI M1 0 15 0).1 0 7)) 0 1 ((sI (sI M1 0 15 0) 0 0 ((sI M1 0 15 0).1 0 7)).1 0 8)).1 0 9)) 0 3 ((sI (sI (sI (sI M1 0 15 0) 0 0 ((sI M1 0 15 0).1 0 7)) 0 1 ((sI (sI M1 0 15 0) 0 0 ((sI M1 0 15 0).1 0 7)).1 0 8)) 0 2 ((sI (sI (sI M1 0 15 0) 0 0 ((sI M1 0 15 0).1 0 7)) 0 1 ((sI (sI M1 0 15 0) 0 0 ((sI M1 0 15 0).1 0 7)).1 0 8)).1 0 9)).1 0 10)) 0 4 ((sI (sI (sI (sI (sI M1 0 15 0) 0 0 ((sI M1 0 15 0).1 0 7)) 0 1 ((sI (sI M1 0 15 0) 0 0 ((sI M1 0 15 0).1 0 7)).1 0 8)) 0 2 ((sI (sI (sI M1 0 15 0) 0 0 ((sI M1 0 15 0).1 0 7)) 0 1 ((sI (sI M1 0 15 0) 0 0 ((sI M1 0 15 0).1 0 7)).1 0 8)).1 0 9)) 0 3 ((sI (sI (sI (sI M1 0 15 0) 0 0 ((sI M1 0 15 0).1 0 7)) 0 1 ((sI (sI M1 0 15 0) 0 0 ((sI M1 0 15 0).1 0 7)).1 0 8)) 0 2 ((sI (sI (sI M1 0 15 0) 0 0 ((sI M1 0 15 0).1 0 7)) 0 1 ((sI (sI M1 0 15 0) 0 0 ((sI M1 0 15 0).1 0 7)).1 0 8)).1 0 9)).1 0 10)).1 0 11) = M2
    have g0 : M2.1 0 0 = M1.1 0 7 ∧ M2.1 0 1 = M1.1 0 8 ∧ M2.1 0 2 = M1.1 0 9 ∧ M2.1 0 3 = M1.1 0 10 ∧ M2.1 0 4 = M1.1 0 11 ∧ M2.1 0 15 = 0 := by rw [← hM2]; simp [sI_at]
    have gk : ∀ k, 16 ≤ k → M2.1 0 k = M1.1 0 k := fun k hk => by
      rw [← hM2]
      rw [sI_at, if_neg (by omega), sI_at, if_neg (by omega), sI_at, if_neg (by omega), sI_at, if_neg (by omega), sI_at, if_neg (by omega), sI_at, if_neg (by omega)]
    have gr : ∀ q, q ≠ 0 → M2.1 q = M1.1 q := fun q hq => by
      rw [← hM2, sI_row _ _ _ _ _ hq, sI_row _ _ _ _ _ hq, sI_row _ _ _ _ _ hq, sI_row _ _ _ _ _ hq, sI_row _ _ _ _ _ hq, sI_row _ _ _ _ _ hq]
    obtain ⟨M3, x1, x2, x3⟩ := copyM (v13 := nI i') (k20 := fun S21 => M_text_L174 F9 (nI i') F9 S21 0) 40 0 F9 M2 (by omega) (by unfold F9; omega) (fun j hj => by omega)
    obtain ⟨M4, y1, y2, y3⟩ := ordM (v13 := nI i') 9 0 F9 M3 (by omega) (by unfold F9; omega) (fun j hj => by omega)
    rw [nI_0] at x1 y1
    rw [e1, cav_s, cut0 (t := t) (by rw [e2 7 (by decide) (by decide) (by decide), s70]) t240, cal_s, x1, y1]
    refine ⟨nI i', _, M4, rfl, rfl, ?_⟩
    obtain ⟨p2, p8, q0, w0, ⟨o, o1, o2, o3⟩, ⟨d, z1, z2, z3⟩, ⟨hh', u1, u2, u3, -⟩, ⟨l, l1, l2, l3, l4, -⟩, -⟩ := d4
    have k0 : ∀ k, M4.1 0 k = M2.1 0 k := fun k => by rw [y2 0 (by decide), x2 0 (by decide)]
    refine rel_text (n := n') h ⟨p2, p8, ?_, ?_, ⟨o, o1, ?_, ?_⟩, ⟨d, z1, ?_, ?_⟩, ⟨hh', u1, ?_, ?_⟩, ⟨l, l1, ?_, ?_, fun k hk => ?_⟩, fun p hp' => ⟨p, hp', ?_, ?_⟩, fun p q hp' hq' e => ?_⟩ ?_ ?_ ?_ ?_ ?_ ?_ ?_ ?_ ?_
    · rw [sI_row _ _ _ _ _ (by decide), e4 0 (by decide), q0]
    · rw [k0, g0.1, w0]
    · rw [sI_row _ _ _ _ _ (by decide), e4 1 (by decide), o2]
    · rw [k0, g0.2.1, o3]
    · rw [sI_row _ _ _ _ _ (by decide), e4 2 (by decide), z2]
    · rw [k0, g0.2.2.1, z3]
    · rw [sI_row _ _ _ _ _ (by decide), e4 3 (by decide), u2]
    · rw [k0, g0.2.2.2.1, u3]
    · rw [sI_row _ _ _ _ _ (by decide), e4 4 (by decide), l2]
    · rw [k0, g0.2.2.2.2.1, l3]
    · obtain ⟨v, v1, v2, v3⟩ := l4 k hk
      refine ⟨v, v1, by rw [sI_row _ _ _ _ _ (by decide), e6 k (by omega), v2], ?_⟩
      rw [y2 1 (by decide), x3 k (by omega), x2 3 (by decide), gr 3 (by decide), v3]
    · rw [sI_row _ _ _ _ _ (by decide), e5 p (by omega), c3.1 10 (by decide) (by decide) (by decide) (by decide), r10 p (by omega)]
    · exact y3 p (by omega)
    · rw [sI_row _ _ _ _ _ (by decide), e5 p (by omega), e5 q (by omega), c3.1 10 (by decide) (by decide) (by decide) (by decide), r10 p (by omega), r10 q (by omega)] at e
      exact (nI_eq (by omega) (by omega)).mp e
    · rw [sI_at, if_pos ⟨rfl, rfl⟩]
    · rw [k0, g0.2.2.2.2.2]
    · rw [sI_row _ _ _ _ _ (by decide), e2 6 (by decide) (by decide) (by decide), d3, k0, gk 20 (by omega), d1]
    · rw [sI_row _ _ _ _ _ (by decide), e2 0 (by decide) (by decide) (by decide), s1 0 (by decide) (by decide) (by decide) (by decide) (by decide)]
    · intro a ha
      rw [sI_row _ _ _ _ _ (by omega), e2 a (by omega) (by omega) (by omega), s1 a (by omega) (by omega) (by omega) (by omega) (by omega)]
    · rw [sI_2, e3, s2]
    · rw [k0, gk 36 (by omega), mk 36 (by omega)]
    · rw [k0, gk 31 (by omega), mk 31 (by omega)]
    · intro a ha
      rw [y2 a (by omega), x2 a (by omega), gr a (by omega), mm a (by omega) (by omega) (by omega)]
  · have neg : (-10 - nI s : Int32) < 0 := by
      rw [ilt, c0, isub (by rw [nI_toInt (by omega), show (-10 : Int32).toInt = -10 by decide]; omega) (by rw [nI_toInt (by omega), show (-10 : Int32).toInt = -10 by decide]; omega), nI_toInt (by omega), show (-10 : Int32).toInt = -10 by decide]
      omega
    rw [if_pos neg, cut0 s70 t240, cal_s, show (sI M1 0 15 0).1 0 20 = M1.1 0 20 by rw [sI_at, if_neg (by decide)], if_pos d2.pos, show (sI M1 0 15 0).1 0 21 = nI s by rw [sI_at, if_neg (by decide), d2.2.2.2]]
    refine ⟨_, _, _, rfl, rfl, ?_⟩
    refine rel_text (n := n) h ?_ ?_ ?_ ?_ ?_ ?_ ?_ ?_ ?_ ?_
    · unfold RelP at hp ⊢
      have k0 : ∀ k, k < 7 → (sI M1 0 15 0).1 0 k = M.1 0 k := fun k hk => by rw [sI_at, if_neg (by omega), mk k (by omega)]
      rw [sI_row _ _ _ _ 1 (by decide), sI_row _ _ _ _ 2 (by decide), sI_row _ _ _ _ 3 (by decide), s1 1 (by decide) (by decide) (by decide) (by decide) (by decide), s1 2 (by decide) (by decide) (by decide) (by decide) (by decide), s1 3 (by decide) (by decide) (by decide) (by decide) (by decide), k0 0 (by omega), k0 1 (by omega), k0 2 (by omega), k0 3 (by omega), k0 4 (by omega), sI_row _ _ _ _ 1 (by decide), sI_row _ _ _ _ 2 (by decide), mm 1 (by decide) (by decide) (by decide), mm 2 (by decide) (by decide) (by decide)]
      exact hp
    · rw [sI_at, if_pos ⟨rfl, rfl⟩]
    · rw [sI_at, if_pos ⟨rfl, rfl⟩]
    · rw [sI_row _ _ _ _ _ (by decide), d3, sI_at, if_neg (by decide), d2.2.2.1]
    · rw [sI_row _ _ _ _ _ (by decide), s1 0 (by decide) (by decide) (by decide) (by decide) (by decide)]
    · intro a ha
      rw [sI_row _ _ _ _ _ (by omega), s1 a (by omega) (by omega) (by omega) (by omega) (by omega)]
    · rw [sI_2, s2]
    · rw [sI_at, if_neg (by decide), mk 36 (by omega)]
    · rw [sI_at, if_neg (by decide), mk 31 (by omega)]
    · intro a ha
      rw [sI_row _ _ _ _ _ (by omega), mm a (by omega) (by omega) (by omega)]
