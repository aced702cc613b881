/-! B: WHICH WORDS LIE NEAR WHICH: both caches -/
theorem mvz_neg (a b p : Nat) : mvz b a p = -mvz a b p := by unfold mvz; omega
theorem sdz_sym (sh a b g : Nat) : sdz sh b a g = sdz sh a b g := by
  unfold sdz
  rw [mvz_neg a b g, mvz_neg a b (g + 1)]
  congr 1
  omega
theorem slz_sym (n sh a b p : Nat) : slz n sh b a p = slz n sh a b p := by
  unfold slz
  rw [sdz_sym sh a b, sdz_sym sh a b, mvz_neg a b p]
  by_cases g : mvz a b p = 0
  · rw [if_pos g, if_pos (by omega)]
  · rw [if_neg g, if_neg (by omega)]
theorem slw_sym (n sh a b : Nat) : slw n sh b a = slw n sh a b := mxz_cong fun p _ => slz_sym n sh a b p
def nb (S : St) (k a b : Nat) : Bool := (S.2 18 ((k * 256 + a) * 4 + b / 64)).toBitVec.getLsbD (b % 64)
theorem one64 : ∀ j, j < 64 → ∀ i, i < 64 → (jlshl 1 (nI j)).toBitVec.getLsbD i = decide (i = j) := by decide +kernel
theorem jr64 {x : Nat} (h : x < 2 ^ 31) : jrem (nI x) 64 = nI (x % 64) := pk_rem (a := x) (d := 64) h (by decide) (by decide)
theorem jd64 {x : Nat} (h : x < 2 ^ 31) : nI x / 64 = nI (x / 64) := pk_div (a := x) (d := 64) h (by decide) (by decide)
theorem K_rowOf_e {F k a : Nat} {S : St} : K_rowOf F S (nI k) (nI a) = some (nI ((k * 256 + a) * 4)) := by
  unfold K_rowOf
  rw [show (256 : Int32) = nI 256 from rfl, show (4 : Int32) = nI 4 from rfl, pk_mul, nI_add, pk_mul]
theorem addWay_e {F k a b : Nat} {S : St} (hk : k < 5) (ha : a < 256) (hb : b < 256) : ∃ S', K_addWay F S (nI k) (nI a) (nI b) = some S' ∧ S'.1 = S.1 ∧ (∀ q, q ≠ 18 → S'.2 q = S.2 q) ∧ ∀ k' a' b', k' < 5 → a' < 256 → b' < 256 → nb S' k' a' b' = (nb S k' a' b' || decide (k' = k ∧ a' = a ∧ b' = b)) := by
  refine ⟨sL S 18 ((k * 256 + a) * 4 + b / 64) (S.2 18 ((k * 256 + a) * 4 + b / 64) ||| jlshl 1 (nI (b % 64))), ?_, rfl, fun q hq => ?_, fun k' a' b' hk' ha' hb' => ?_⟩
  · unfold K_addWay
    rw [K_rowOf_e, crd_s, bnd_e, jd64 (by omega), nI_add, jr64 (by omega), if_neg (nI_pos (by omega)), if_pos (show _ < (5120 : Int32) from (nI_ltI (b := 5120) (by omega) (by omega)).mpr (by omega)), chk_n _ (by omega) (by decide), chk_n _ (by omega) (by decide), nI_clamp (by omega), bnd_e]
  · funext j
    rw [sL_at, if_neg (fun z => hq z.1)]
  · unfold nb
    rw [sL_at]
    by_cases g : (k' * 256 + a') * 4 + b' / 64 = (k * 256 + a) * 4 + b / 64
    · rw [if_pos ⟨rfl, g⟩, Int64.toBitVec_or, BitVec.getLsbD_or, one64 _ (Nat.mod_lt _ (by decide)) _ (Nat.mod_lt _ (by decide)), g]
      congr 1
      exact decide_eq_decide.mpr (by omega)
    · rw [if_neg (fun z => g z.2), decide_eq_false (show ¬ (k' = k ∧ a' = a ∧ b' = b) by rintro ⟨rfl, rfl, rfl⟩; exact g rfl), Bool.or_false]
def SqL (S S' : St) : Prop := (∀ q, q ≠ 5 → S'.1 q = S.1 q) ∧ ∀ q, q ≠ 18 → S'.2 q = S.2 q
theorem SqL.rf {S : St} : SqL S S := ⟨fun _ _ => rfl, fun _ _ => rfl⟩
theorem SqL.tr {S T U : St} (h : SqL S T) (g : SqL T U) : SqL S U := ⟨fun q hq => (g.1 q hq).trans (h.1 q hq), fun q hq => (g.2 q hq).trans (h.2 q hq)⟩
theorem link_loop {F a b : Nat} (ha : a < 256) (hb : b < 256) : ∀ (j i f : Nat) (S : St), i + j = 5 → j < f → ∃ S', K_link_L3 F (nI a) (nI b) f S (nI i) = some S' ∧ S'.1 = S.1 ∧ (∀ q, q ≠ 18 → S'.2 q = S.2 q) ∧ ∀ k x y, k < 5 → x < 256 → y < 256 → nb S' k x y = (nb S k x y || decide (i ≤ k ∧ (x = a ∧ y = b ∨ x = b ∧ y = a)))
  | 0, i, f + 1, S, hi, hf => by
    refine ⟨S, ?_, rfl, fun _ _ => rfl, fun k x y hk _ _ => ?_⟩
    · rw [K_link_L3, if_pos (show (4 : Int32) < nI i from (nI_ltI (a := 4) (by omega) (by omega)).mpr (by omega))]
    · rw [decide_eq_false (by omega), Bool.or_false]
  | j + 1, i, f + 1, S, hi, hf => by
    obtain ⟨S1, a1, a2, a3, a4⟩ := addWay_e (F := F) (S := S) (show i < 5 by omega) ha hb
    obtain ⟨S2, b1, b2, b3, b4⟩ := addWay_e (F := F) (S := S1) (show i < 5 by omega) hb ha
    obtain ⟨S', c1, c2, c3, c4⟩ := link_loop (F := F) ha hb j (i + 1) f S2 (by omega) (by omega)
    refine ⟨S', ?_, by rw [c2, b2, a2], fun q hq => by rw [c3 q hq, b3 q hq, a3 q hq], fun k x y hk hx hy => ?_⟩
    · rw [K_link_L3, if_neg (show ¬ (4 : Int32) < nI i by rw [show (4 : Int32) = nI 4 from rfl, nI_ltI (by omega) (by omega)]; omega), a1, cav_s, b1, cav_s, bnd_e, nI_1, c1]
    · rw [c4 k x y hk hx hy, b4 k x y hk hx hy, a4 k x y hk hx hy, Bool.or_assoc, Bool.or_assoc]
      congr 1
      rw [← Bool.decide_or, ← Bool.decide_or]
      exact decide_eq_decide.mpr (by omega)
theorem prep_in {F m c : Nat} {k7 : St → Option St} (hF : 20 ≤ F) (m1 : 1 ≤ m) (m8 : m ≤ 8) (hc : c < 2 ^ m) : ∀ (j i f : Nat) (S : St), i + j = c + 1 → j < f → S.1 17 4 = nI m → ∃ S', K_prepare_L57 F (nI c) k7 f S (nI i) = k7 S' ∧ SqL S S' ∧ ∀ k x y, k < 5 → x < 256 → y < 256 → nb S' k x y = (nb S k x y || decide ((x = c ∧ i ≤ y ∧ y ≤ c ∨ y = c ∧ i ≤ x ∧ x ≤ c) ∧ slw m 0 x y ≤ k))
  | 0, i, f + 1, S, hi, hf, hs => by
    have hw := pw_hi m8
    refine ⟨S, ?_, SqL.rf, fun k x y _ _ _ => ?_⟩
    · rw [K_prepare_L57, if_pos (show nI c < nI i from (nI_ltI (by omega) (by omega)).mpr (by omega))]
    · rw [decide_eq_false (by omega), Bool.or_false]
  | j + 1, i, f + 1, S, hi, hf, hs => by
    have hw := pw_hi m8
    obtain ⟨S1, a1, a2, a3⟩ := near_N (F := F) (S := S) (a := i) (b := c) m1 m8 (by omega) hc
    have b4 := slw_le4 m 0 i c
    obtain ⟨S2, b1, b2, b3, b5⟩ := link_loop (F := F) (a := i) (b := c) (by omega) (by omega) (5 - slw m 0 i c) (slw m 0 i c) F S1 (by omega) (by omega)
    have sq2 : SqL S S2 := ⟨fun q hq => by rw [b2, a2.1 q hq], fun q hq => by rw [b3 q hq, a2.2]⟩
    obtain ⟨S', c1, c2, c3⟩ := prep_in (k7 := k7) hF m1 m8 hc j (i + 1) f S2 (by omega) (by omega) (by rw [sq2.1 17 (by decide), hs])
    refine ⟨S', ?_, sq2.tr c2, fun k x y hk hx hy => ?_⟩
    · rw [K_prepare_L57, if_neg (show ¬ nI c < nI i by rw [nI_ltI (by omega) (by omega)]; omega), hs, a1, cav_s, a3, crd_s, K_link, b1, cav_s, bnd_e, nI_1, c1]
    · have n1 : nb S1 k x y = nb S k x y := by unfold nb; rw [a2.2]
      rw [c3 k x y hk hx hy, b5 k x y hk hx hy, n1, Bool.or_assoc]
      congr 1
      rw [← Bool.decide_or]
      refine decide_eq_decide.mpr ?_
      constructor
      · rintro (⟨h1, h2 | h2⟩ | h)
        · rw [h2.1, h2.2]
          exact ⟨Or.inr ⟨rfl, by omega⟩, h1⟩
        · rw [h2.1, h2.2, slw_sym]
          exact ⟨Or.inl ⟨rfl, by omega⟩, h1⟩
        · exact ⟨by omega, h.2⟩
      · rintro ⟨h1, h2⟩
        by_cases e : (x = i ∧ y = c ∨ x = c ∧ y = i)
        · refine Or.inl ⟨?_, e⟩
          rcases e with ⟨rfl, rfl⟩ | ⟨rfl, rfl⟩
          · exact h2
          · rw [slw_sym]; exact h2
        · exact Or.inr ⟨by omega, h2⟩
theorem prep_out {F m : Nat} (hF : 300 ≤ F) (m1 : 1 ≤ m) (m8 : m ≤ 8) : ∀ (j i f : Nat) (S : St), i + j = 2 ^ m → j < f → S.1 17 4 = nI m → S.1 17 5 = nI (2 ^ m) → ∃ S', K_prepare_L47 F f S (nI i) = some S' ∧ SqL S S' ∧ ∀ k x y, k < 5 → x < 256 → y < 256 → nb S' k x y = (nb S k x y || decide ((i ≤ x ∨ i ≤ y) ∧ x < 2 ^ m ∧ y < 2 ^ m ∧ slw m 0 x y ≤ k))
  | 0, i, f + 1, S, hi, hf, h4, h5 => by
    have hw := pw_hi m8
    refine ⟨S, ?_, SqL.rf, fun k x y _ _ _ => ?_⟩
    · rw [K_prepare_L47, h5, if_neg (by rw [nI_ltI (by omega) (by omega)]; omega)]
    · rw [decide_eq_false (by omega), Bool.or_false]
  | j + 1, i, f + 1, S, hi, hf, h4, h5 => by
    have hw := pw_hi m8
    obtain ⟨S1, a1, a2, a3⟩ := prep_in (F := F) (k7 := fun S8 => bnd (nI i + 1) fun v9 => K_prepare_L47 F f S8 v9) (by omega) m1 m8 (show i < 2 ^ m by omega) (i + 1) 0 F S (by omega) (by omega) h4
    obtain ⟨S', c1, c2, c3⟩ := prep_out hF m1 m8 j (i + 1) f S1 (by omega) (by omega) (by rw [a2.1 17 (by decide), h4]) (by rw [a2.1 17 (by decide), h5])
    refine ⟨S', ?_, a2.tr c2, fun k x y hk hx hy => ?_⟩
    · rw [nI_0] at a1
      rw [K_prepare_L47, h5, if_pos (by rw [nI_ltI (by omega) (by omega)]; omega), a1, bnd_e, nI_1, c1]
    · rw [c3 k x y hk hx hy, a3 k x y hk hx hy, Bool.or_assoc]
      congr 1
      rw [← Bool.decide_or]
      refine decide_eq_decide.mpr ?_
      constructor
      · rintro (⟨h1, h2⟩ | h)
        · exact ⟨by omega, by omega, by omega, h2⟩
        · exact ⟨by omega, h.2⟩
      · rintro ⟨h1, h2, h3, h4⟩
        by_cases e : x = i ∧ y ≤ i ∨ y = i ∧ x ≤ i
        · exact Or.inl ⟨by omega, h4⟩
        · exact Or.inr ⟨by omega, h2, h3, h4⟩
theorem zero_loop {F : Nat} {k3 : St → Option St} : ∀ (j i f : Nat) (S : St), i + j = 5120 → j < f → (∀ t, t < i → S.2 18 t = 0) → ∃ S', K_prepare_L23 F k3 f S (nI i) = k3 S' ∧ S'.1 = S.1 ∧ (∀ q, q ≠ 18 → S'.2 q = S.2 q) ∧ ∀ t, t < 5120 → S'.2 18 t = 0
  | 0, i, f + 1, S, hi, hf, hz => by
    refine ⟨S, ?_, rfl, fun _ _ => rfl, fun t ht => hz t (by omega)⟩
    rw [K_prepare_L23, if_neg (show ¬ nI i < 5120 by rw [show (5120 : Int32) = nI 5120 from rfl, nI_ltI (by omega) (by omega)]; omega)]
  | j + 1, i, f + 1, S, hi, hf, hz => by
    obtain ⟨S', c1, c2, c3, c4⟩ := zero_loop (F := F) (k3 := k3) j (i + 1) f (sL S 18 i 0) (by omega) (by omega) (fun t ht => by
      rw [sL_at]
      by_cases g : t = i
      · rw [if_pos ⟨rfl, g⟩]
      · rw [if_neg (fun z => g z.2), hz t (by omega)])
    refine ⟨S', ?_, c2, fun q hq => ?_, c4⟩
    · rw [K_prepare_L23, if_pos (show nI i < 5120 from (nI_ltI (b := 5120) (by omega) (by omega)).mpr (by omega)), chk_n _ (by omega) (by decide), nI_clamp (by omega), bnd_e, bnd_e, nI_1, c1]
    · rw [c3 q hq]
      funext t
      rw [sL_at, if_neg (fun z => hq z.1)]
/-- the class's machine made ready for n wires -/
theorem prepare_e {n : Nat} {S : St} (n2 : 2 ≤ n) (n8 : n ≤ 8) (h : RelC S) : ∃ S', K_prepare F9 S (nI n) = some S' ∧ (∀ q, q ≠ 5 → q ≠ 17 → S'.1 q = S.1 q) ∧ (∀ q, q ≠ 18 → S'.2 q = S.2 q) ∧ S'.1 17 4 = nI n ∧ S'.1 17 5 = nI (2 ^ n) ∧ ∀ k a b, k < 5 → a < 256 → b < 256 → nb S' k a b = decide (a < 2 ^ n ∧ b < 2 ^ n ∧ slw n 0 a b ≤ k) := by
  have make : ¬ S.1 17 4 = nI n → ∃ S', K_prepare F9 S (nI n) = some S' ∧ (∀ q, q ≠ 5 → q ≠ 17 → S'.1 q = S.1 q) ∧ (∀ q, q ≠ 18 → S'.2 q = S.2 q) ∧ S'.1 17 4 = nI n ∧ S'.1 17 5 = nI (2 ^ n) ∧ ∀ k a b, k < 5 → a < 256 → b < 256 → nb S' k a b = decide (a < 2 ^ n ∧ b < 2 ^ n ∧ slw n 0 a b ≤ k) := by
    intro hne
    have hF9 : F9 = 1000000000 := rfl
    have hw := pw_hi n8
    obtain ⟨S1, a1, a2, a3, a4⟩ := zero_loop (F := F9) (k3 := fun S4 => K_prepare_L47 F9 F9 S4 0) 5120 0 F9 (sI (sI S 17 4 (nI n)) 17 5 (nI (2 ^ n))) (by omega) (by omega) (fun t ht => by omega)
    have q4 : S1.1 17 4 = nI n := by rw [a2, sI_at, if_neg (by decide), sI_at, if_pos ⟨rfl, rfl⟩]
    have q5 : S1.1 17 5 = nI (2 ^ n) := by rw [a2, sI_at, if_pos ⟨rfl, rfl⟩]
    obtain ⟨S', c1, c2, c3⟩ := prep_out (F := F9) (by omega) (by omega) n8 (2 ^ n) 0 F9 S1 (by omega) (by omega) q4 q5
    rw [nI_0] at a1 c1
    refine ⟨S', ?_, fun q h1 h2 => ?_, fun q hq => ?_, ?_, ?_, fun k a b hk ha hb => ?_⟩
    · unfold K_prepare
      rw [if_neg hne, bnd_e, pw_n n (by omega), bnd_e, a1, c1]
    · rw [c2.1 q h1, a2, sI_row _ _ _ _ _ h2, sI_row _ _ _ _ _ h2]
    · rw [c2.2 q hq, a3 q hq]
      rfl
    · rw [c2.1 17 (by decide), q4]
    · rw [c2.1 17 (by decide), q5]
    · rw [c3 k a b hk ha hb]
      have z : nb S1 k a b = false := by
        unfold nb
        rw [a4 _ (by omega)]
        exact BitVec.getLsbD_zero
      rw [z, Bool.false_or]
      exact decide_eq_decide.mpr (by omega)
  by_cases g : S.1 17 4 = nI n
  · rcases h with h | ⟨m, m2, m8, e1, e2, e3⟩
    · rw [h] at g
      exact absurd g.symm (nI_ne0 (by omega) (by omega))
    · have : m = n := (nI_eq (by omega) (by omega)).mp (e1.symm.trans g)
      subst this
      exact ⟨S, by unfold K_prepare; rw [if_pos g], fun _ _ _ => rfl, fun _ _ => rfl, e1, e2, e3⟩
  · exact make g
def SqS (M M' : St) : Prop := (∀ k, k ≠ 24 → k ≠ 25 → M'.1 0 k = M.1 0 k) ∧ ∀ a, a ≠ 0 → a ≠ 7 → a ≠ 13 → M'.1 a = M.1 a
theorem SqS.rf {M : St} : SqS M M := ⟨fun _ _ _ => rfl, fun _ _ _ _ => rfl⟩
theorem SqS.tr {S T U : St} (h : SqS S T) (g : SqS T U) : SqS S U := ⟨fun k k1 k2 => (g.1 k k1 k2).trans (h.1 k k1 k2), fun q k1 k2 k3 => (g.2 q k1 k2 k3).trans (h.2 q k1 k2 k3)⟩
theorem slows_in {F n a : Nat} {k4 : St → Option St} (hF : 20 ≤ F) (n2 : 2 ≤ n) (n8 : n ≤ 8) (ha : a < 2 ^ n) : ∀ (j i f : Nat) (M : St), i + j = 2 ^ n → j < f → M.1 0 0 = nI n → ∃ M', M_findSlows_L34 F (nI a) k4 f M (nI i) = k4 M' ∧ SqS M M' ∧ (∀ b, i ≤ b → b < 2 ^ n → M'.1 13 (256 * a + b) = nI (slw n 0 a b)) ∧ ∀ t, (∀ b, i ≤ b → b < 2 ^ n → t ≠ 256 * a + b) → M'.1 13 t = M.1 13 t
  | 0, i, f + 1, M, hi, hf, hs => by
    have hw := pw_hi n8
    refine ⟨M, ?_, SqS.rf, fun b h1 h2 => by omega, fun t _ => rfl⟩
    rw [M_findSlows_L34, hs, pw_n n (by omega), if_neg (by rw [nI_ltI (by omega) (by omega)]; omega)]
  | j + 1, i, f + 1, M, hi, hf, hs => by
    have hw := pw_hi n8
    obtain ⟨M1, a1, a2⟩ := near_M (F := F) (M := M) (a := a) (b := i) hF (by omega) n8 hs ha (by omega)
    have hs1 : (sI M1 13 (256 * a + i) (nI (slw n 0 a i))).1 0 0 = nI n := by rw [sI_row _ _ _ _ _ (by decide), a2.1 0 (by decide) (by decide), hs]
    obtain ⟨M', c1, c2, c3, c4⟩ := slows_in (k4 := k4) hF n2 n8 ha j (i + 1) f (sI M1 13 (256 * a + i) (nI (slw n 0 a i))) (by omega) (by omega) hs1
    refine ⟨M', ?_, SqS.tr ⟨fun k h1 h2 => by rw [sI_row _ _ _ _ _ (by decide)]; exact a2.1 k h1 h2, fun q h1 h2 h3 => by rw [sI_row _ _ _ _ _ h3]; exact a2.2.1 q h1 h2⟩ c2, fun b h1 h2 => ?_, fun t ht => ?_⟩
    · rw [M_findSlows_L34, hs, pw_n n (by omega), if_pos (by rw [nI_ltI (by omega) (by omega)]; omega), a1, cal_s, show (256 : Int32) = nI 256 from rfl, pk_mul, nI_add, chk_n _ (by omega) (by decide), nI_clamp (by omega), bnd_e, bnd_e, nI_1, c1]
    · by_cases e : b = i
      · subst e
        rw [c4 _ (fun b' h1' _ => by omega), sI_at, if_pos ⟨rfl, rfl⟩]
      · exact c3 b (by omega) h2
    · rw [c4 t (fun b h1 h2 => ht b (by omega) h2), sI_at, if_neg (fun z => ht i (Nat.le_refl _) (by omega) z.2), a2.2.1 13 (by decide) (by decide)]
theorem slows_out {F n : Nat} (hF : 300 ≤ F) (n2 : 2 ≤ n) (n8 : n ≤ 8) : ∀ (j i f : Nat) (M : St), i + j = 2 ^ n → j < f → M.1 0 0 = nI n → (∀ a b, a < i → b < 2 ^ n → M.1 13 (256 * a + b) = nI (slw n 0 a b)) → ∃ M', M_findSlows_L22 F f M (nI i) = some M' ∧ SqS M M' ∧ ∀ a b, a < 2 ^ n → b < 2 ^ n → M'.1 13 (256 * a + b) = nI (slw n 0 a b)
  | 0, i, f + 1, M, hi, hf, hs, hd => by
    have hw := pw_hi n8
    refine ⟨M, ?_, SqS.rf, fun a b ha hb => hd a b (by omega) hb⟩
    rw [M_findSlows_L22, hs, pw_n n (by omega), if_neg (by rw [nI_ltI (by omega) (by omega)]; omega)]
  | j + 1, i, f + 1, M, hi, hf, hs, hd => by
    have hw := pw_hi n8
    obtain ⟨M1, a1, a2, a3, a4⟩ := slows_in (F := F) (a := i) (k4 := fun S5 => bnd (nI i + 1) fun v6 => M_findSlows_L22 F f S5 v6) (by omega) n2 n8 (by omega) (2 ^ n) 0 F M (by omega) (by omega) hs
    obtain ⟨M', c1, c2, c3⟩ := slows_out hF n2 n8 j (i + 1) f M1 (by omega) (by omega) (by rw [a2.1 0 (by decide) (by decide), hs]) (fun a b ha hb => by
      by_cases e : a = i
      · rw [e]; exact a3 b (Nat.zero_le _) hb
      · rw [a4 _ (fun b' _ h2 => by omega)]
        exact hd a b (by omega) hb)
    refine ⟨M', ?_, a2.tr c2, c3⟩
    rw [nI_0] at a1
    rw [M_findSlows_L22, hs, pw_n n (by omega), if_pos (by rw [nI_ltI (by omega) (by omega)]; omega), a1, bnd_e, nI_1, c1]
theorem findSlows_e {n : Nat} {M : St} (n2 : 2 ≤ n) (n8 : n ≤ 8) (hs : M.1 0 0 = nI n) (h : RelD M) : ∃ M', M_findSlows F9 M = some M' ∧ (∀ k, k ≠ 24 → k ≠ 25 → k ≠ 31 → M'.1 0 k = M.1 0 k) ∧ (∀ a, a ≠ 0 → a ≠ 7 → a ≠ 13 → M'.1 a = M.1 a) ∧ M'.1 0 31 = nI n ∧ ∀ a b, a < 2 ^ n → b < 2 ^ n → M'.1 13 (256 * a + b) = nI (slw n 0 a b) := by
  have hw := pw_hi n8
  have hF9 : F9 = 1000000000 := rfl
  by_cases g : M.1 0 31 = nI n
  · rcases h with h | ⟨m, m2, m8, e1, e2⟩
    · rw [h] at g
      exact absurd g.symm (nI_ne0 (by omega) (by omega))
    · have : m = n := (nI_eq (by omega) (by omega)).mp (e1.symm.trans g)
      subst this
      exact ⟨M, by unfold M_findSlows; rw [hs, if_pos g], fun _ _ _ _ => rfl, fun _ _ _ _ => rfl, e1, e2⟩
  · obtain ⟨M', c1, c2, c3⟩ := slows_out (F := F9) (by omega) n2 n8 (2 ^ n) 0 F9 (sI M 0 31 (nI n)) (by omega) (by omega) (by rw [sI_at, if_neg (by decide), hs]) (fun a b ha hb => by omega)
    rw [nI_0] at c1
    refine ⟨M', ?_, fun k h1 h2 h3 => ?_, fun a h1 h2 h3 => ?_, ?_, c3⟩
    · unfold M_findSlows
      rw [hs, if_neg g, bnd_e, c1]
    · rw [c2.1 k h1 h2, sI_at, if_neg (fun z => h3 z.2)]
    · rw [c2.2 a h1 h2 h3, sI_row _ _ _ _ _ h1]
    · rw [c2.1 31 (by decide) (by decide), sI_at, if_pos ⟨rfl, rfl⟩]
theorem rel_cd {S M S' M' : St} (h : Rel9 S M) (hN : ∀ a, (a = 0 ∨ a = 1 ∨ a = 2 ∨ a = 3 ∨ a = 6 ∨ a = 7 ∨ a = 8 ∨ 22 ≤ a) → S'.1 a = S.1 a) (hc' : RelC S') (hM : ∀ k, k ≠ 24 → k ≠ 25 → k ≠ 31 → M'.1 0 k = M.1 0 k) (hM2 : ∀ a, (a = 1 ∨ a = 2 ∨ a = 5 ∨ 14 ≤ a) → M'.1 a = M.1 a) (hd' : RelD M') : Rel9 S' M' := by
  obtain ⟨⟨n, hp⟩, ht, hf, hh, hc, hd⟩ := h
  refine ⟨⟨n, ?_⟩, ?_, ?_, ?_, hc', hd'⟩
  · unfold RelP at hp ⊢
    rw [hN 1 (by omega), hN 2 (by omega), hN 3 (by omega), hM 0 (by omega) (by omega) (by omega), hM 1 (by omega) (by omega) (by omega), hM 2 (by omega) (by omega) (by omega), hM 3 (by omega) (by omega) (by omega), hM 4 (by omega) (by omega) (by omega), hM2 1 (by omega), hM2 2 (by omega)]
    exact hp
  · unfold RelT at ht ⊢
    rw [hN 7 (by omega), hN 8 (by omega), hM 15 (by omega) (by omega) (by omega), hM2 5 (by omega)]
    exact ht
  · unfold RelF at hf ⊢
    rw [hN 6 (by omega), hN 0 (by omega), hM 20 (by omega) (by omega) (by omega), hM 36 (by omega) (by omega) (by omega)]
    exact hf
  · intro k hk
    rw [hN (22 + 2 * k) (by omega), hN (23 + 2 * k) (by omega), hM2 14 (by omega), hM2 15 (by omega), hM2 16 (by omega)]
    exact hh k hk
