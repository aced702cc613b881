/-! B: slowest -/
theorem Sq5.tr {S T U : St} (h : Sq5 S T) (g : Sq5 T U) : Sq5 S U := ⟨fun q hq => (g.1 q hq).trans (h.1 q hq), g.2.trans h.2⟩
theorem Sq7.tr {S T U : St} (h : Sq7 S T) (g : Sq7 T U) : Sq7 S U := ⟨fun k k1 k2 => (g.1 k k1 k2).trans (h.1 k k1 k2), fun q k1 k2 => (g.2.1 q k1 k2).trans (h.2.1 q k1 k2), g.2.2.trans h.2.2⟩
theorem near_N {F n a b : Nat} {S : St} (n1 : 1 ≤ n) (n8 : n ≤ 8) (ha : a < 2 ^ n) (hb : b < 2 ^ n) : ∃ S', C_between F S (nI a) (nI b) (nI n) 0 = some S' ∧ Sq5 S S' ∧ C_greatestSlow F S' = some (nI (slw n 0 a b)) := by
  obtain ⟨S', u, w, x, y, c1, c2, c3⟩ := C_between_e (F := F) (S := S) (sh := 0) n1 n8 (Nat.two_pow_pos _) ha hb
  rw [nI_0] at c1
  exact ⟨S', c1, c2, C_greatestSlow_e n8 c3⟩
theorem near_M {F n a b : Nat} {M : St} (hF : 20 ≤ F) (n1 : 1 ≤ n) (n8 : n ≤ 8) (hs : M.1 0 0 = nI n) (ha : a < 2 ^ n) (hb : b < 2 ^ n) : ∃ M', M_slowBy F M (nI a) (nI b) = some (nI (slw n 0 a b), M') ∧ Sq7 M M' := by
  have hw := pw_hi n8
  obtain ⟨M', d1, d2, d3⟩ := M_moves_e (F := F) (n := n) (a := a) (b := b) (c := n) (g := 0) (M := M) (e := fun p => p) (p4 := 0) hF n1 (by omega) n8 (by omega) (by omega) (by omega) hs (fun p hp => ⟨by omega, fun _ => rfl, fun z => absurd (Or.inl rfl) z⟩)
  rw [nI_0] at d1
  refine ⟨M', ?_, d2⟩
  unfold M_slowBy
  rw [hs, d1, cav_s, M_slowNow_e hF d3, crd_s]
  rfl
theorem jmax_n {a b : Nat} (ha : a < 2 ^ 31) (hb : b < 2 ^ 31) : jmax (nI a) (nI b) = nI (max a b) := by
  unfold jmax
  have lt := nI_ltI ha hb
  by_cases g : a < b
  · rw [if_pos (lt.mpr g), Nat.max_eq_right (by omega)]
  · rw [if_neg (fun z => g (lt.mp z)), Nat.max_eq_left (by omega)]
theorem into_loop {F n kd b : Nat} {S : St} (hs : S.1 1 0 = nI n) (n2 : 2 ≤ n) (n8 : n ≤ 8) (hk : kd < 2) (hb : b < 2 ^ n) : ∀ (k i f X : Nat) (S0 : St), i + k = b → k < f → X ≤ 4 → Sq5 S S0 → ∃ Y S1, N_slowestInto_L5 F (nI kd) (nI b) f S0 (nI X) (nI i) = some (nI Y, S1) ∧ Sq5 S S1 ∧ Y ≤ 4 ∧ ∀ t, Y ≤ t ↔ X ≤ t ∧ ∀ a, i ≤ a → a < b → inB n kd a = true → slw n 0 a b ≤ t
  | 0, i, f + 1, X, S0, hi, hf, hX, h5 => by
    have hw := pw_hi n8
    refine ⟨X, S0, ?_, h5, hX, fun t => ⟨fun h => ⟨h, fun a h1 h2 => by omega⟩, fun h => h.1⟩⟩
    rw [N_slowestInto_L5, if_neg (by rw [nI_ltI (by omega) (by omega)]; omega)]
  | k + 1, i, f + 1, X, S0, hi, hf, hX, h5 => by
    have hw := pw_hi n8
    have hs0 : S0.1 1 0 = nI n := by rw [h5.1 1 (by decide), hs]
    obtain ⟨S', c1, c2, c3⟩ := near_N (F := F) (S := S0) (a := i) (by omega) n8 (by omega) hb
    have b4 := slw_le4 n 0 i b
    rw [N_slowestInto_L5, if_pos (by rw [nI_ltI (by omega) (by omega)]; omega), N_isInBook_e hs0 n2 n8 hk (by omega), crd_s]
    simp only [jn_e, bnd_e, i10, nI_1]
    by_cases g : inB n kd i = true
    · rw [if_pos g, hs0, c1, cav_s, c3, crd_s, jmax_n (by omega) (by omega)]
      obtain ⟨Y, S1, e1, e2, e3, e4⟩ := into_loop (F := F) hs n2 n8 hk hb k (i + 1) f (max X (slw n 0 i b)) S' (by omega) (by omega) (by omega) (h5.tr c2)
      refine ⟨Y, S1, e1, e2, e3, fun t => ?_⟩
      rw [e4, Nat.max_le]
      constructor
      · rintro ⟨⟨h1, h2⟩, h3⟩
        refine ⟨h1, fun a q1 q2 q3 => ?_⟩
        by_cases e : a = i
        · rw [e]; exact h2
        · exact h3 a (by omega) q2 q3
      · rintro ⟨h1, h3⟩
        exact ⟨⟨h1, h3 i (Nat.le_refl _) (by omega) g⟩, fun a q1 q2 q3 => h3 a (by omega) q2 q3⟩
    · rw [if_neg g]
      obtain ⟨Y, S1, e1, e2, e3, e4⟩ := into_loop (F := F) hs n2 n8 hk hb k (i + 1) f X S0 (by omega) (by omega) hX h5
      refine ⟨Y, S1, e1, e2, e3, fun t => ?_⟩
      rw [e4]
      constructor
      · rintro ⟨h1, h3⟩
        refine ⟨h1, fun a q1 q2 q3 => ?_⟩
        by_cases e : a = i
        · rw [e] at q3; exact absurd q3 g
        · exact h3 a (by omega) q2 q3
      · rintro ⟨h1, h3⟩
        exact ⟨h1, fun a q1 q2 q3 => h3 a (by omega) q2 q3⟩
theorem slowest_N {F n kd : Nat} {S : St} (hF : 300 ≤ F) (hs : S.1 1 0 = nI n) (n2 : 2 ≤ n) (n8 : n ≤ 8) (hk : kd < 2) : ∀ (k i f X : Nat) (S0 : St), i + k = 2 ^ n → k < f → X ≤ 4 → Sq5 S S0 → ∃ Y S1, N_slowest_L13 F (nI kd) f S0 (nI X) (nI i) = some (nI Y, S1) ∧ Sq5 S S1 ∧ Y ≤ 4 ∧ ∀ t, Y ≤ t ↔ X ≤ t ∧ ∀ b, i ≤ b → b < 2 ^ n → inB n kd b = true → ∀ a, a < b → inB n kd a = true → slw n 0 a b ≤ t
  | 0, i, f + 1, X, S0, hi, hf, hX, h5 => by
    have hw := pw_hi n8
    have hs0 : S0.1 1 0 = nI n := by rw [h5.1 1 (by decide), hs]
    refine ⟨X, S0, ?_, h5, hX, fun t => ⟨fun h => ⟨h, fun a h1 h2 => by omega⟩, fun h => h.1⟩⟩
    rw [N_slowest_L13, P_words, hs0, pw_n n (by omega), crd_s, if_neg (by rw [nI_ltI (by omega) (by omega)]; omega)]
  | k + 1, i, f + 1, X, S0, hi, hf, hX, h5 => by
    have hw := pw_hi n8
    have hs0 : S0.1 1 0 = nI n := by rw [h5.1 1 (by decide), hs]
    rw [N_slowest_L13, P_words, hs0, pw_n n (by omega), crd_s, if_pos (by rw [nI_ltI (by omega) (by omega)]; omega), N_isInBook_e hs0 n2 n8 hk (by omega), crd_s]
    simp only [jn_e, bnd_e, i10, nI_1]
    by_cases g : inB n kd i = true
    · obtain ⟨Z, S', c1, c2, c3, c4⟩ := into_loop (F := F) (b := i) hs n2 n8 hk (by omega) i 0 F 0 S0 (by omega) (by omega) (by omega) h5
      rw [nI_0] at c1
      rw [if_pos g, N_slowestInto, c1, cal_s, jmax_n (by omega) (by omega)]
      obtain ⟨Y, S1, e1, e2, e3, e4⟩ := slowest_N hF hs n2 n8 hk k (i + 1) f (max X Z) S' (by omega) (by omega) (by omega) c2
      refine ⟨Y, S1, e1, e2, e3, fun t => ?_⟩
      rw [e4, Nat.max_le, c4]
      constructor
      · rintro ⟨⟨h1, h2, h4⟩, h3⟩
        refine ⟨h1, fun b q1 q2 q3 => ?_⟩
        by_cases e : b = i
        · rw [e]; exact fun a r1 r2 => h4 a (Nat.zero_le _) r1 r2
        · exact h3 b (by omega) q2 q3
      · rintro ⟨h1, h3⟩
        exact ⟨⟨h1, Nat.zero_le _, fun a _ r1 r2 => h3 i (Nat.le_refl _) (by omega) g a r1 r2⟩, fun b q1 q2 q3 => h3 b (by omega) q2 q3⟩
    · rw [if_neg g]
      obtain ⟨Y, S1, e1, e2, e3, e4⟩ := slowest_N hF hs n2 n8 hk k (i + 1) f X S0 (by omega) (by omega) hX h5
      refine ⟨Y, S1, e1, e2, e3, fun t => ?_⟩
      rw [e4]
      constructor
      · rintro ⟨h1, h3⟩
        refine ⟨h1, fun b q1 q2 q3 => ?_⟩
        by_cases e : b = i
        · rw [e] at q3; exact absurd q3 g
        · exact h3 b (by omega) q2 q3
      · rintro ⟨h1, h3⟩
        exact ⟨h1, fun b q1 q2 q3 => h3 b (by omega) q2 q3⟩
theorem from_loop {F n kd a : Nat} {M : St} {k6 : St → Int32 → Option (Int32 × St)} (hF : 20 ≤ F) (hs : M.1 0 0 = nI n) (n2 : 2 ≤ n) (n8 : n ≤ 8) (hk : kd < 2) (ha : a < 2 ^ n) (ga : inB n kd a = true) : ∀ (k i f X : Nat) (M0 : St), i + k = 2 ^ n → k < f → X ≤ 4 → Sq7 M M0 → ∃ Y M1, M_slowest_L31 F (nI kd) (nI a) k6 f M0 (nI X) (nI i) = k6 M1 (nI Y) ∧ Sq7 M M1 ∧ Y ≤ 4 ∧ ∀ t, Y ≤ t ↔ X ≤ t ∧ ∀ b, i ≤ b → b < 2 ^ n → inB n kd b = true → slw n 0 a b ≤ t
  | 0, i, f + 1, X, M0, hi, hf, hX, h7 => by
    have hw := pw_hi n8
    have hs0 : M0.1 0 0 = nI n := by rw [h7.1 0 (by decide) (by decide), hs]
    refine ⟨X, M0, ?_, h7, hX, fun t => ⟨fun h => ⟨h, fun a h1 h2 => by omega⟩, fun h => h.1⟩⟩
    rw [M_slowest_L31, hs0, pw_n n (by omega), if_neg (by rw [nI_ltI (by omega) (by omega)]; omega)]
  | k + 1, i, f + 1, X, M0, hi, hf, hX, h7 => by
    have hw := pw_hi n8
    have hs0 : M0.1 0 0 = nI n := by rw [h7.1 0 (by decide) (by decide), hs]
    rw [M_slowest_L31, hs0, pw_n n (by omega), if_pos (by rw [nI_ltI (by omega) (by omega)]; omega), M_isIn_e (by omega) hs0 n2 n8 hk (by omega), M_isIn_e (by omega) hs0 n2 n8 hk (by omega), crd_s, crd_s]
    simp only [jn_e, bnd_e, i10, nI_1]
    rw [if_pos ga]
    by_cases g : inB n kd i = true
    · obtain ⟨M', c1, c2⟩ := near_M (F := F) (M := M0) (b := i) hF (by omega) n8 hs0 ha (by omega)
      have b4 := slw_le4 n 0 a i
      rw [if_pos g, c1, cal_s]
      have e0 : ∀ (K : Int32 → Option (Int32 × St)), (if nI X < nI (slw n 0 a i) then K (nI (slw n 0 a i)) else K (nI X)) = K (nI (max X (slw n 0 a i))) := fun K => by
        rw [← jmax_n (by omega) (by omega)]
        unfold jmax
        split <;> rfl
      rw [e0 fun v => M_slowest_L31 F (nI kd) (nI a) k6 f M' v (nI (i + 1))]
      obtain ⟨Y, S1, e1, e2, e3, e4⟩ := from_loop (k6 := k6) hF hs n2 n8 hk ha ga k (i + 1) f (max X (slw n 0 a i)) M' (by omega) (by omega) (by omega) (h7.tr c2)
      refine ⟨Y, S1, e1, e2, e3, fun t => ?_⟩
      rw [e4, Nat.max_le]
      constructor
      · rintro ⟨⟨h1, h2⟩, h3⟩
        refine ⟨h1, fun b q1 q2 q3 => ?_⟩
        by_cases e : b = i
        · rw [e]; exact h2
        · exact h3 b (by omega) q2 q3
      · rintro ⟨h1, h3⟩
        exact ⟨⟨h1, h3 i (Nat.le_refl _) (by omega) g⟩, fun a q1 q2 q3 => h3 a (by omega) q2 q3⟩
    · rw [if_neg g]
      obtain ⟨Y, S1, e1, e2, e3, e4⟩ := from_loop (k6 := k6) hF hs n2 n8 hk ha ga k (i + 1) f X M0 (by omega) (by omega) hX h7
      refine ⟨Y, S1, e1, e2, e3, fun t => ?_⟩
      rw [e4]
      constructor
      · rintro ⟨h1, h3⟩
        refine ⟨h1, fun a q1 q2 q3 => ?_⟩
        by_cases e : a = i
        · rw [e] at q3; exact absurd q3 g
        · exact h3 a (by omega) q2 q3
      · rintro ⟨h1, h3⟩
        exact ⟨h1, fun a q1 q2 q3 => h3 a (by omega) q2 q3⟩
theorem slowest_M {F n kd : Nat} {M : St} (hF : 300 ≤ F) (hs : M.1 0 0 = nI n) (n2 : 2 ≤ n) (n8 : n ≤ 8) (hk : kd < 2) : ∀ (k i f X : Nat) (M0 : St), i + k = 2 ^ n → k < f → X ≤ 4 → Sq7 M M0 → ∃ Y M1, M_slowest_L16 F (nI kd) f M0 (nI X) (nI i) = some (nI Y, M1) ∧ Sq7 M M1 ∧ Y ≤ 4 ∧ ∀ t, Y ≤ t ↔ X ≤ t ∧ ∀ a, i ≤ a → a < 2 ^ n → inB n kd a = true → ∀ b, a < b → b < 2 ^ n → inB n kd b = true → slw n 0 a b ≤ t
  | 0, i, f + 1, X, M0, hi, hf, hX, h7 => by
    have hw := pw_hi n8
    have hs0 : M0.1 0 0 = nI n := by rw [h7.1 0 (by decide) (by decide), hs]
    refine ⟨X, M0, ?_, h7, hX, fun t => ⟨fun h => ⟨h, fun a h1 h2 => by omega⟩, fun h => h.1⟩⟩
    rw [M_slowest_L16, hs0, pw_n n (by omega), if_neg (by rw [nI_ltI (by omega) (by omega)]; omega)]
  | k + 1, i, f + 1, X, M0, hi, hf, hX, h7 => by
    have hw := pw_hi n8
    have hs0 : M0.1 0 0 = nI n := by rw [h7.1 0 (by decide) (by decide), hs]
    rw [M_slowest_L16, hs0, pw_n n (by omega), if_pos (by rw [nI_ltI (by omega) (by omega)]; omega)]
    simp only [bnd_e, nI_1]
    by_cases g : inB n kd i = true
    · obtain ⟨Z, M', c1, c2, c3, c4⟩ := from_loop (F := F) (k6 := fun S7 v8 => M_slowest_L16 F (nI kd) f S7 v8 (nI (i + 1))) (by omega) hs n2 n8 hk (show i < 2 ^ n by omega) g k (i + 1) F X M0 (by omega) (by omega) hX h7
      rw [c1]
      obtain ⟨Y, M1, e1, e2, e3, e4⟩ := slowest_M hF hs n2 n8 hk k (i + 1) f Z M' (by omega) (by omega) c3 c2
      refine ⟨Y, M1, e1, e2, e3, fun t => ?_⟩
      rw [e4, c4]
      constructor
      · rintro ⟨⟨h1, h2⟩, h3⟩
        refine ⟨h1, fun a q1 q2 q3 b r1 r2 r3 => ?_⟩
        by_cases e : a = i
        · rw [e] at r1 ⊢; exact h2 b (by omega) r2 r3
        · exact h3 a (by omega) q2 q3 b r1 r2 r3
      · rintro ⟨h1, h3⟩
        exact ⟨⟨h1, fun b q1 q2 q3 => h3 i (Nat.le_refl _) (by omega) g b (by omega) q2 q3⟩, fun a q1 q2 q3 => h3 a (by omega) q2 q3⟩
    · have e0 : M_slowest_L31 F (nI kd) (nI i) (fun S7 v8 => M_slowest_L16 F (nI kd) f S7 v8 (nI (i + 1))) F M0 (nI X) (nI (i + 1)) = M_slowest_L16 F (nI kd) f M0 (nI X) (nI (i + 1)) := by
        obtain ⟨F', rfl⟩ : ∃ F', F = F' + 1 := ⟨F - 1, by omega⟩
        rw [M_slowest_L31, hs0, pw_n n (by omega), M_isIn_e (by omega) hs0 n2 n8 hk (by omega), crd_s, i10, if_neg g]
        split <;> rfl
      rw [e0]
      obtain ⟨Y, S1, e1, e2, e3, e4⟩ := slowest_M hF hs n2 n8 hk k (i + 1) f X M0 (by omega) (by omega) hX h7
      refine ⟨Y, S1, e1, e2, e3, fun t => ?_⟩
      rw [e4]
      constructor
      · rintro ⟨h1, h3⟩
        refine ⟨h1, fun a q1 q2 q3 => ?_⟩
        by_cases e : a = i
        · rw [e] at q3; exact absurd q3 g
        · exact h3 a (by omega) q2 q3
      · rintro ⟨h1, h3⟩
        exact ⟨h1, fun a q1 q2 q3 => h3 a (by omega) q2 q3⟩
theorem ok_slowest : st_slowest F9 Rel9 := by
  intro S M h x
  obtain ⟨n, hp⟩ := h.1
  obtain ⟨n2, n8, sn, mn, -⟩ := id hp
  have h0 : (0 : Int64) = (0 : Int32).toInt64 := by decide
  have h1 : (1 : Int64) = (1 : Int32).toInt64 := by decide
  have hw := pw_hi n8
  unfold N_slowest M_slowest
  rw [N_isKind_e, h0, h1, M_in_e]
  simp only [crd_s, i10, c0, c1]
  by_cases g : 0 ≤ x.toInt ∧ x.toInt ≤ 1
  · obtain ⟨kd, hk, rfl, hk2⟩ := i_nat g.1
    rw [if_pos g, if_pos g]
    have hk3 : kd < 2 := by omega
    obtain ⟨Y, S1, a1, a2, a3, a4⟩ := slowest_N (F := F9) (by decide) sn n2 n8 hk3 (2 ^ n) 0 F9 0 S (by omega) (by unfold F9; omega) (by omega) Sq5.rf
    obtain ⟨Z, M1, b1, b2, b3, b4⟩ := slowest_M (F := F9) (by decide) mn n2 n8 hk3 (2 ^ n) 0 F9 0 M (by omega) (by unfold F9; omega) (by omega) Sq7.rf
    rw [nI_0] at a1 b1
    have e : Y = Z := by
      refine Nat.le_antisymm ?_ ?_
      · rw [a4]
        have := (b4 Z).mp (Nat.le_refl _)
        exact ⟨Nat.zero_le _, fun b _ q2 q3 a r1 r2 => this.2 a (Nat.zero_le _) (by omega) r2 b r1 q2 q3⟩
      · rw [b4]
        have := (a4 Y).mp (Nat.le_refl _)
        exact ⟨Nat.zero_le _, fun a _ q2 q3 b r1 r2 r3 => this.2 b (Nat.zero_le _) r2 r3 a r1 q3⟩
    rw [e] at a1
    exact ⟨_, S1, M1, a1, b1, rel_sq h a2.sq b2.sq⟩
  · rw [if_neg g, if_neg g]
    exact ⟨-1, S, M, rfl, rfl, h⟩
