/-! B: ways, kept, bits, encode, decode -/
theorem keep_both {n q b : Nat} {S M : St} (h : Rel9 S M) (n2 : 2 ≤ n) (n8 : n ≤ 8) (sn : S.1 1 0 = nI n) (mn : M.1 0 0 = nI n) (hq : q < 5) (hb : b ≤ 8) : ∃ S' M' kp, N_keep F9 S (nI q) (nI b) = some (nI (fb_ct kp (2 ^ n)), S') ∧ M_findKept F9 M (nI q) (nI b) = some (nI (fb_ct kp (2 ^ n)), M') ∧ GS n q (2 ^ b) kp ∧ Rel9 S' M' ∧ S'.1 1 0 = nI n ∧ M'.1 0 0 = nI n ∧ S'.1 17 5 = nI (2 ^ n) ∧ nbs n S' ∧ L4 (S'.2 19) kp ∧ L4 (S'.2 20) kp ∧ slM n M' ∧ K12 M' kp := by
  have hw := pw_hi n8
  obtain ⟨S', kp, a1, a2, a3, a4, a5, a6, a7, a8⟩ := keep_N n2 n8 hq hb sn h.2.2.2.2.1
  obtain ⟨M', kp', b1, b2, b3, b4, b5, b6⟩ := keep_M n2 n8 hq hb mn h.2.2.2.2.2
  have e := GS_one b2 a2
  subst e
  rw [ct_cut hw (fun t ht => (a2.1 t ht).1)] at a1
  refine ⟨S', M', kp', a1, b1, a2, ?_, by rw [a3 1 (by decide) (by decide), sn], by rw [b3.1 0 (by decide) (by decide) (by decide), mn], a5, a6, a7, a8, b5, b6⟩
  exact rel_cd h (fun a ha => a3 a (by omega) (by omega)) (Or.inr ⟨n, n2, n8, a4, a5, a6⟩) b3.1 (fun a ha => b3.2 a (by omega) (by omega) (by omega) (by omega)) (Or.inr ⟨n, n2, n8, b4, b5⟩)
def nthF (kp : Nat → Bool) : Nat → Nat → Nat → Option Nat
  | 0, _, _ => none
  | k + 1, v, i => if kp v = true then (if i = 0 then some v else nthF kp k (v + 1) (i - 1)) else nthF kp k (v + 1) i
def ofO : Option Nat → Int32
  | some v => nI v
  | none => -4
theorem ct_front (f : Nat → Bool) (k : Nat) : fb_ct f (k + 1) = (if f 0 = true then 1 else 0) + fb_ct (fun t => f (1 + t)) k := by
  rw [Nat.add_comm k 1, fb_ct_split, fb_ct_succ]
  congr 1
  exact Nat.zero_add _
theorem nthF_x (kp : Nat → Bool) : ∀ (k v i : Nat), (∃ w, nthF kp k v i = some w ∧ i < fb_ct (fun t => kp (v + t)) k ∧ kp w = true ∧ v ≤ w ∧ w < v + k) ∨ (nthF kp k v i = none ∧ fb_ct (fun t => kp (v + t)) k ≤ i)
  | 0, v, i => Or.inr ⟨rfl, Nat.zero_le _⟩
  | k + 1, v, i => by
    have e : fb_ct (fun t => kp (v + t)) (k + 1) = (if kp v = true then 1 else 0) + fb_ct (fun t => kp (v + 1 + t)) k := by
      rw [ct_front, Nat.add_zero]
      congr 1
      exact fb_ct_cong fun t _ => by rw [Nat.add_assoc]
    rw [e, nthF]
    by_cases g : kp v = true
    · rw [if_pos g, if_pos g]
      by_cases g2 : i = 0
      · rw [if_pos g2]
        exact Or.inl ⟨v, rfl, by omega, g, Nat.le_refl _, by omega⟩
      · rw [if_neg g2]
        rcases nthF_x kp k (v + 1) (i - 1) with ⟨w, h1, h2, h3, h4, h5⟩ | ⟨h1, h2⟩
        · exact Or.inl ⟨w, h1, by omega, h3, by omega, by omega⟩
        · exact Or.inr ⟨h1, by omega⟩
    · rw [if_neg g, if_neg g]
      rcases nthF_x kp k (v + 1) i with ⟨w, h1, h2, h3, h4, h5⟩ | ⟨h1, h2⟩
      · exact Or.inl ⟨w, h1, by omega, h3, by omega, by omega⟩
      · exact Or.inr ⟨h1, by omega⟩
theorem seen_e {F n i : Nat} {S : St} {sn : Nat → Bool} (hF : 300 ≤ F) (n8 : n ≤ 8) (hi : i < 2 ^ 31) (h5 : S.1 17 5 = nI (2 ^ n)) (hs : L4 (S.2 20) sn) : K_seenNumbered F S (nI i) = some (ofO (nthF sn (2 ^ n) 0 i)) := by
  have hw := pw_hi n8
  have loop : ∀ (j v f c : Nat), v + j = 2 ^ n → j < f → c ≤ i → K_seenNumbered_L4 F (nI i) S f (nI c) (nI v) = some (ofO (nthF sn j v (i - c))) := by
    intro j
    induction j with
    | zero =>
      intro v f c hv hf hc
      obtain ⟨f', rfl⟩ : ∃ f', f = f' + 1 := ⟨f - 1, by omega⟩
      rw [K_seenNumbered_L4, h5, if_neg (by rw [nI_ltI (by omega) (by omega)]; omega)]
      rfl
    | succ j ih =>
      intro v f c hv hf hc
      obtain ⟨f', rfl⟩ : ∃ f', f = f' + 1 := ⟨f - 1, by omega⟩
      have e1 : lbit (S.2 20 (v / 64)) (v % 64) = sn v := hs v (by omega)
      rw [K_seenNumbered_L4, h5, if_pos (by rw [nI_ltI (by omega) (by omega)]; omega), K_isSeen, K_isIn_e (by decide) (by omega), crd_s, crd_s, e1, jn_e, nthF]
      simp only [bnd_e, nI_1]
      by_cases g : sn v = true
      · rw [if_pos g, if_pos g, if_neg (show ¬ (1 : Int32) = 0 by decide)]
        have eq : nI c = nI i ↔ c = i := nI_eq (by omega) hi
        by_cases g2 : c = i
        · rw [if_pos (eq.mpr g2), if_pos (by omega)]
          rfl
        · rw [if_neg (fun z => g2 (eq.mp z)), if_neg (by omega), ih (v + 1) f' (c + 1) (by omega) (by omega) (by omega), show i - (c + 1) = i - c - 1 by omega]
      · rw [if_neg g, if_neg g, if_pos (show (0 : Int32) = 0 from rfl)]
        exact ih (v + 1) f' c (by omega) (by omega) hc
  unfold K_seenNumbered
  exact loop (2 ^ n) 0 F 0 (by omega) (by omega) (Nat.zero_le _)
theorem least_e {F n : Nat} {M : St} {kp : Nat → Bool} (hF : 300 ≤ F) (n8 : n ≤ 8) (hs : M.1 0 0 = nI n) (hk : K12 M kp) : M_leastKept F M = some (ofO (nthF kp (2 ^ n) 0 0)) := by
  have hw := pw_hi n8
  have loop : ∀ (j v f : Nat), v + j = 2 ^ n → j < f → M_leastKept_L2 F M f (nI v) = some (ofO (nthF kp j v 0)) := by
    intro j
    induction j with
    | zero =>
      intro v f hv hf
      obtain ⟨f', rfl⟩ : ∃ f', f = f' + 1 := ⟨f - 1, by omega⟩
      rw [M_leastKept_L2, hs, pw_n n (by omega), if_neg (by rw [nI_ltI (by omega) (by omega)]; omega)]
      rfl
    | succ j ih =>
      intro v f hv hf
      obtain ⟨f', rfl⟩ : ∃ f', f = f' + 1 := ⟨f - 1, by omega⟩
      rw [M_leastKept_L2, hs, pw_n n (by omega), if_pos (by rw [nI_ltI (by omega) (by omega)]; omega), chk_n _ (by omega) (by decide), nI_clamp (by omega), hk v (by omega), nthF]
      by_cases g : kp v = true
      · rw [if_pos g, if_pos g, if_neg (show ¬ nI 1 = 0 by decide), if_pos rfl]
        rfl
      · rw [if_neg g, if_neg g, if_pos (show nI 0 = 0 from rfl), bnd_e, nI_1]
        exact ih (v + 1) f' (by omega) (by omega)
  unfold M_leastKept
  exact loop (2 ^ n) 0 F (by omega) (by omega)
theorem N_isBits_e {F : Nat} {S : St} {x : Int32} : N_isBits F S x = some (if 0 ≤ x.toInt ∧ x.toInt ≤ 8 then 1 else 0) := by
  have ti8 : (8 : Int32).toInt = 8 := by decide
  unfold N_isBits
  rw [jn_e]
  simp only [ilt, c0, ti8]
  by_cases g1 : x.toInt < 0
  · rw [if_pos g1, if_neg (by omega)]
  · rw [if_neg g1]
    by_cases g2 : 8 < x.toInt
    · rw [if_pos g2, if_neg (by omega)]
    · rw [if_neg g2, if_pos (by omega)]
theorem l0 : (0 : Int64) = (0 : Int32).toInt64 := by decide
theorem l1 : (1 : Int64) = (1 : Int32).toInt64 := by decide
theorem l4 : (4 : Int64) = (4 : Int32).toInt64 := by decide
theorem l8 : (8 : Int64) = (8 : Int32).toInt64 := by decide
theorem ti4 : (4 : Int32).toInt = 4 := by decide
theorem ti8 : (8 : Int32).toInt = 8 := by decide
theorem ok_ways : st_ways F9 Rel9 := by
  intro S M h x y
  obtain ⟨n, hp⟩ := h.1
  obtain ⟨n2, n8, sn, mn, -⟩ := id hp
  have hw := pw_hi n8
  unfold N_ways M_ways
  rw [N_isSlow_e, P_isWord_e 1 n8 sn, M_isWord_e n8 mn, l0, l4, M_in_e]
  simp only [crd_s, i10, c0, ti4]
  by_cases g1 : 0 ≤ x.toInt ∧ x.toInt ≤ 4
  · rw [if_pos g1, if_pos g1]
    by_cases g2 : 0 ≤ y.toInt ∧ y.toInt < 2 ^ n
    · rw [if_pos g2, if_pos g2]
      obtain ⟨q, hq, rfl, eq⟩ := i_nat g1.1
      obtain ⟨v, hv, rfl, ev⟩ := i_nat g2.1
      have lv : v < 2 ^ n := by have := g2.2; rw [ev] at this; exact_mod_cast this
      obtain ⟨S', a1, a2, a3, a4, a5, a6⟩ := prepare_e n2 n8 h.2.2.2.2.1
      obtain ⟨M', b1, b2, b3, b4, b5⟩ := allKept_e n2 n8 mn h.2.2.2.2.2
      have fin : Rel9 S' M' := rel_cd h (fun a ha => a2 a (by omega) (by omega)) (Or.inr ⟨n, n2, n8, a4, a5, a6⟩) b2.1 (fun a ha => b2.2 a (by omega) (by omega) (by omega) (by omega)) (Or.inr ⟨n, n2, n8, b3, b4⟩)
      have e1 : fb_ct (fun b => nb S' q v b) 256 = wyC n q (fun _ => true) v := wy_nb (kp := fun _ => true) n8 (by omega) lv a6
      have e2 : wyC n q (fun _ => true) v = wyC n q (fun v => decide (v < 2 ^ n)) v := fb_ct_cong fun b hb => by dsimp only; rw [decide_eq_true hb]
      rw [sn, a1, cav_s, waysFrom_e (by decide) (by omega) (by omega), crd_s, b1, cav_s, M_waysFrom_e (by decide) n8 (by omega) lv (by rw [b2.1 0 (by decide) (by decide) (by decide), mn]) b4 b5, crd_s, e1, e2]
      exact ⟨_, S', M', rfl, rfl, fin⟩
    · rw [if_neg g2, if_neg g2]
      exact ⟨-1, S, M, rfl, rfl, h⟩
  · rw [if_neg g1, if_neg g1]
    exact ⟨-1, S, M, rfl, rfl, h⟩
theorem ok_kept : st_kept F9 Rel9 := by
  intro S M h x y z
  obtain ⟨n, hp⟩ := h.1
  obtain ⟨n2, n8, sn, mn, -⟩ := id hp
  have hw := pw_hi n8
  unfold N_kept M_kept
  rw [N_isSlow_e, N_isBits_e, l0, l1, l4, l8, M_in_e, M_in_e, M_in_e]
  simp only [crd_s, i10, c0, c1, ti4, ti8]
  by_cases g1 : 0 ≤ x.toInt ∧ x.toInt ≤ 4
  · rw [if_pos g1, if_pos g1]
    by_cases g2 : 0 ≤ y.toInt ∧ y.toInt ≤ 8
    · rw [if_pos g2, if_pos g2]
      simp only [ilt, c0, c1]
      by_cases g3 : 0 ≤ z.toInt ∧ z.toInt ≤ 1
      · rw [if_neg (by omega), if_neg (by omega), if_pos g3]
        obtain ⟨q, hq, rfl, eq⟩ := i_nat g1.1
        obtain ⟨b, hb, rfl, eb⟩ := i_nat g2.1
        obtain ⟨S', M', kp, a1, a2, a3, a4, a5, a6, a7, a8, a9, a10, a11, a12⟩ := keep_both h n2 n8 sn mn (q := q) (b := b) (by omega) (by omega)
        have s1 := seen_e (F := F9) (i := 0) (by decide) n8 (by decide) a7 a10
        rw [nI_0] at s1
        rw [a1, a2, cal_s, cal_s, s1, least_e (by decide) n8 a6 a12, crd_s, crd_s]
        by_cases gz : z = 0
        · rw [if_pos gz, if_pos gz]
          exact ⟨_, S', M', rfl, rfl, a4⟩
        · rw [if_neg gz, if_neg gz]
          refine ⟨ofO (nthF kp (2 ^ n) 0 0), S', M', ?_, rfl, a4⟩
          by_cases g : nI (fb_ct kp (2 ^ n)) = 0
          · rw [if_pos g]
            have c256 := fb_ct_le kp (2 ^ n)
            have e := (nI_eq (b := 0) (by omega) (by omega)).mp g
            rcases nthF_x kp (2 ^ n) 0 0 with ⟨w, h1, h2, -⟩ | ⟨h1, -⟩
            · have : fb_ct (fun t => kp (0 + t)) (2 ^ n) = fb_ct kp (2 ^ n) := fb_ct_cong fun t _ => by rw [Nat.zero_add]
              omega
            · rw [h1]; rfl
          · rw [if_neg g]
      · rw [if_neg g3]
        refine ⟨-1, S, M, ?_, rfl, h⟩
        by_cases g4 : z.toInt < 0
        · rw [if_pos g4]
        · rw [if_neg g4, if_pos (by omega)]
    · rw [if_neg g2, if_neg g2]
      exact ⟨-1, S, M, rfl, rfl, h⟩
  · rw [if_neg g1, if_neg g1]
    exact ⟨-1, S, M, rfl, rfl, h⟩
/-- some set of words has ways enough for b bits -/
def NE (n q b : Nat) : Prop := ∃ T, stb n q (2 ^ b) T ∧ ∃ v, T v = true
theorem NE_kp {n q b : Nat} {kp : Nat → Bool} (h : GS n q (2 ^ b) kp) : 0 < fb_ct kp (2 ^ n) ↔ NE n q b := by
  rw [fb_ct_pos]
  constructor
  · rintro ⟨k, -, hk⟩
    exact ⟨kp, h.1, k, hk⟩
  · rintro ⟨T, hT, v, hv⟩
    exact ⟨v, (hT v hv).1, h.2 T hT v hv⟩
theorem NE_down {n q b c : Nat} (hbc : b ≤ c) (h : NE n q c) : NE n q b := by
  obtain ⟨T, hT, hv⟩ := h
  have : 2 ^ b ≤ 2 ^ c := Nat.pow_le_pow_right (by decide) hbc
  exact ⟨T, fun v hv => ⟨(hT v hv).1, by have := (hT v hv).2; omega⟩, hv⟩
theorem bits_N {n q : Nat} {M0 : St} (n2 : 2 ≤ n) (n8 : n ≤ 8) (hq : q < 5) (hM : M0.1 0 0 = nI n) : ∀ (j i f x : Nat) (S : St), i + j = 9 → j < f → Rel9 S M0 → S.1 1 0 = nI n → ∃ y S', N_bits_L13 F9 (nI q) f S (nI x) (nI i) = some (nI y, S') ∧ Rel9 S' M0 ∧ ((y = x ∧ ∀ b, i ≤ b → b ≤ 8 → ¬ NE n q b) ∨ (i ≤ y ∧ y ≤ 8 ∧ NE n q y ∧ ∀ b, y < b → b ≤ 8 → ¬ NE n q b))
  | 0, i, f + 1, x, S, hi, hf, hR, hs => by
    refine ⟨x, S, ?_, hR, Or.inl ⟨rfl, fun b h1 h2 => by omega⟩⟩
    rw [N_bits_L13, if_pos (show (8 : Int32) < nI i from (nI_ltI (a := 8) (by omega) (by omega)).mpr (by omega))]
  | j + 1, i, f + 1, x, S, hi, hf, hR, hs => by
    have hw := pw_hi n8
    obtain ⟨S1, M1, kp, a1, a2, a3, a4, a5, a6, a7, a8, a9, a10, a11, a12⟩ := keep_both hR n2 n8 hs hM (q := q) (b := i) hq (by omega)
    obtain ⟨S1', kp', b1, b2, b3, b4, b5, b6, b7, b8⟩ := keep_N n2 n8 hq (show i ≤ 8 by omega) hs hR.2.2.2.2.1
    have eS : S1 = S1' := by
      rw [a1] at b1
      injection b1 with e
      exact (Prod.mk.inj e).2
    have r1 : Rel9 S1 M0 := by
      rw [eS]
      exact rel_cd hR (fun a ha => b3 a (by omega) (by omega)) (Or.inr ⟨n, n2, n8, b4, b5, b6⟩) (fun _ _ _ _ => rfl) (fun _ _ => rfl) hR.2.2.2.2.2
    have c256 := fb_ct_le kp (2 ^ n)
    have ne := NE_kp a3
    have lt : (0 : Int32) < nI (fb_ct kp (2 ^ n)) ↔ 0 < fb_ct kp (2 ^ n) := nI_ltI (a := 0) (by omega) (by omega)
    have ih := fun x => bits_N n2 n8 hq hM j (i + 1) f x S1 (by omega) (by omega) r1 a5
    rw [N_bits_L13, if_neg (show ¬ (8 : Int32) < nI i by rw [show (8 : Int32) = nI 8 from rfl, nI_ltI (by omega) (by omega)]; omega), a1, cal_s, jn_e]
    simp only [bnd_e, nI_1]
    by_cases g : 0 < fb_ct kp (2 ^ n)
    · rw [if_pos (lt.mpr g)]
      obtain ⟨y, S', d1, d2, d3⟩ := ih i
      refine ⟨y, S', d1, d2, Or.inr ?_⟩
      rcases d3 with ⟨rfl, d3⟩ | ⟨d3, d4, d5, d6⟩
      · exact ⟨Nat.le_refl _, by omega, ne.mp g, fun b h1 h2 => d3 b (by omega) h2⟩
      · exact ⟨by omega, d4, d5, d6⟩
    · rw [if_neg (fun z => g (lt.mp z))]
      obtain ⟨y, S', d1, d2, d3⟩ := ih x
      refine ⟨y, S', d1, d2, ?_⟩
      rcases d3 with ⟨rfl, d3⟩ | ⟨d3, d4, d5, d6⟩
      · refine Or.inl ⟨rfl, fun b h1 h2 => ?_⟩
        by_cases e : b = i
        · rw [e]; exact fun z => g (ne.mpr z)
        · exact d3 b (by omega) h2
      · exact Or.inr ⟨by omega, d4, d5, d6⟩
theorem bits_M {n q : Nat} {S0 : St} (n2 : 2 ≤ n) (n8 : n ≤ 8) (hq : q < 5) : ∀ (j i f : Nat) (M : St), i + j = 8 → j < f → Rel9 S0 M → M.1 0 0 = nI n → ∃ y M', M_bits_L16 F9 (nI q) f M (nI i) = some (nI y, M') ∧ Rel9 S0 M' ∧ i ≤ y ∧ y ≤ 8 ∧ (∀ b, i < b → b ≤ y → NE n q b) ∧ (y = 8 ∨ ¬ NE n q (y + 1))
  | 0, i, f + 1, M, hi, hf, hR, hs => by
    refine ⟨i, M, ?_, hR, Nat.le_refl _, by omega, fun b h1 h2 => by omega, Or.inl (by omega)⟩
    rw [M_bits_L16, if_neg (show ¬ nI i < 8 by rw [show (8 : Int32) = nI 8 from rfl, nI_ltI (by omega) (by omega)]; omega)]
  | j + 1, i, f + 1, M, hi, hf, hR, hs => by
    have hw := pw_hi n8
    obtain ⟨M1, kp, b1, b2, b3, b4, b5, b6⟩ := keep_M n2 n8 hq (show i + 1 ≤ 8 by omega) hs hR.2.2.2.2.2
    have r1 : Rel9 S0 M1 := rel_cd hR (fun _ _ => rfl) hR.2.2.2.2.1 b3.1 (fun a ha => b3.2 a (by omega) (by omega) (by omega) (by omega)) (Or.inr ⟨n, n2, n8, b4, b5⟩)
    have c256 := fb_ct_le kp (2 ^ n)
    have ne := NE_kp b2
    have lt : (0 : Int32) < nI (fb_ct kp (2 ^ n)) ↔ 0 < fb_ct kp (2 ^ n) := nI_ltI (a := 0) (by omega) (by omega)
    rw [M_bits_L16, if_pos (lt_8 (by omega)), nI_1, b1, cal_s]
    by_cases g : 0 < fb_ct kp (2 ^ n)
    · rw [if_pos (lt.mpr g), bnd_e]
      obtain ⟨y, M', d1, d2, d3, d4, d5, d6⟩ := bits_M n2 n8 hq j (i + 1) f M1 (by omega) (by omega) r1 (by rw [b3.1 0 (by decide) (by decide) (by decide), hs])
      refine ⟨y, M', d1, d2, by omega, d4, fun b h1 h2 => ?_, d6⟩
      by_cases e : b = i + 1
      · rw [e]; exact ne.mp g
      · exact d5 b (by omega) h2
    · rw [if_neg (fun z => g (lt.mp z))]
      exact ⟨i, M1, rfl, r1, Nat.le_refl _, by omega, fun b h1 h2 => by omega, Or.inr fun z => g (ne.mpr z)⟩
theorem ok_bits : st_bits F9 Rel9 := by
  intro S M h x
  obtain ⟨n, hp⟩ := h.1
  obtain ⟨n2, n8, sn, mn, -⟩ := id hp
  unfold N_bits M_bits
  rw [N_isSlow_e, l0, l4, M_in_e]
  simp only [crd_s, i10, c0, ti4]
  by_cases g1 : 0 ≤ x.toInt ∧ x.toInt ≤ 4
  · rw [if_pos g1, if_pos g1]
    obtain ⟨q, hq, rfl, eq⟩ := i_nat g1.1
    obtain ⟨y, S', a1, a2, a3⟩ := bits_N (q := q) n2 n8 (by omega) mn 8 1 F9 0 S (by omega) (by decide) h sn
    obtain ⟨w, M', b1, b2, b3, b4, b5, b6⟩ := bits_M (q := q) n2 n8 (by omega) 8 0 F9 M (by omega) (by decide) a2 mn
    rw [nI_0] at a1 b1
    have e : y = w := by
      rcases a3 with ⟨a3, a4⟩ | ⟨a3, a4, a5, a6⟩
      · by_cases g : w = 0
        · omega
        · exact absurd (b5 1 (by omega) (by omega)) (a4 1 (by omega) (by omega))
      · rcases Nat.lt_trichotomy y w with g | g | g
        · exact absurd (b5 w (by omega) (Nat.le_refl _)) (a6 w g b4)
        · exact g
        · rcases b6 with b6 | b6
          · omega
          · exact absurd (NE_down (by omega) a5) b6
    rw [e] at a1
    exact ⟨_, S', M', a1, b1, b2⟩
  · rw [if_neg g1, if_neg g1]
    exact ⟨-1, S, M, rfl, rfl, h⟩
def nk (n q : Nat) (kp : Nat → Bool) (v : Nat) : Nat → Bool := fun b => kp b && decide (slw n 0 v b ≤ q)
theorem look_e {F n q w : Nat} {S : St} {kp : Nat → Bool} (hF : 20 ≤ F) (n8 : n ≤ 8) (hq : q < 5) (hw : w < 2 ^ n) (hn : nbs n S) (hk : L4 (S.2 19) kp) (hl : ∀ t, kp t = true → t < 2 ^ n) : ∃ S', K_lookFrom F S (nI q) (nI w) = some S' ∧ S'.1 = S.1 ∧ (∀ q, q ≠ 20 → S'.2 q = S.2 q) ∧ L4 (S'.2 20) (nk n q kp w) := by
  have hp := pw_hi n8
  have loop : ∀ (j i f : Nat) (S0 : St), i + j = 4 → j < f → S0.1 = S.1 → (∀ q, q ≠ 20 → S0.2 q = S.2 q) → (∀ t, t < i → S0.2 20 t = (S.2 19 t &&& S.2 18 ((q * 256 + w) * 4 + t))) → ∃ S', K_lookFrom_L2 F (nI q) (nI w) f S0 (nI i) = some S' ∧ S'.1 = S.1 ∧ (∀ q, q ≠ 20 → S'.2 q = S.2 q) ∧ ∀ t, t < 4 → S'.2 20 t = (S.2 19 t &&& S.2 18 ((q * 256 + w) * 4 + t)) := by
    intro j
    induction j with
    | zero =>
      intro i f S0 hi hf h1 h2 h3
      obtain ⟨f', rfl⟩ : ∃ f', f = f' + 1 := ⟨f - 1, by omega⟩
      refine ⟨S0, ?_, h1, h2, fun t ht => h3 t (by omega)⟩
      rw [K_lookFrom_L2, if_neg (show ¬ nI i < 4 by rw [show (4 : Int32) = nI 4 from rfl, nI_ltI (by omega) (by omega)]; omega)]
    | succ j ih =>
      intro i f S0 hi hf h1 h2 h3
      obtain ⟨f', rfl⟩ : ∃ f', f = f' + 1 := ⟨f - 1, by omega⟩
      have i4 : nI i < 4 := (nI_ltI (b := 4) (by omega) (by omega)).mpr (by omega)
      rw [K_lookFrom_L2, if_pos i4, if_pos i4, chk_n _ (by omega) (by decide), nearPart_e hq (by omega) (by omega), crd_s, chk_n _ (by omega) (by decide), nI_clamp (by omega), bnd_e, bnd_e, nI_1]
      refine ih (i + 1) f' _ (by omega) (by omega) h1 (fun q hq => ?_) (fun t ht => ?_)
      · rw [← h2 q hq]
        funext t
        rw [sL_at, if_neg (fun z => hq z.1)]
      · rw [sL_at]
        by_cases g : t = i
        · rw [if_pos ⟨rfl, g⟩, g, h2 19 (by decide), h2 18 (by decide)]
        · rw [if_neg (fun z => g z.2), h3 t (by omega)]
  obtain ⟨S', a1, a2, a3, a4⟩ := loop 4 0 F S (by omega) (by omega) rfl (fun _ _ => rfl) (fun t ht => by omega)
  refine ⟨S', a1, a2, a3, fun v hv => ?_⟩
  have h1 := hk v hv
  have h2 := nb_part (S := S) (q := q) (v := w) (i := v / 64) (j := v % 64) (Nat.mod_lt _ (by decide))
  rw [a4 _ (by omega)]
  unfold lbit at h1 h2 ⊢
  rw [Int64.toBitVec_and, BitVec.getLsbD_and, h1, h2, show 64 * (v / 64) + v % 64 = v by omega, hn q w v hq (by omega) hv, nk]
  cases g : kp v
  · rfl
  · rw [Bool.true_and, Bool.true_and]
    exact decide_eq_decide.mpr ⟨fun h => h.2.2, fun h => ⟨hw, hl v g, h⟩⟩
theorem enc_M {F n q b w : Nat} {p4 : Int32} {M : St} {v9 v12 : Int32} {kp : Nat → Bool} {k13 : Int32 → Option (Int32 × St)} (n8 : n ≤ 8) (hq : q < 5) (hw : w < 2 ^ n) (hl : slM n M) (hk : K12 M kp) : ∀ (j v r f z : Nat), v + j = 2 ^ n → j < f → r < 2 ^ 31 → nthF (nk n q kp w) j v r = some z → M_encode_L100 F (nI q) (nI b) p4 M (nI w) v9 v12 k13 f (nI r) (nI v) = k13 (nI z)
  | 0, v, r, f + 1, z, hv, hf, hr, hz => by cases hz
  | j + 1, v, r, f + 1, z, hv, hf, hr, hz => by
    have hp := pw_hi n8
    have ih := fun r => enc_M (F := F) (b := b) (p4 := p4) (v9 := v9) (v12 := v12) (k13 := k13) n8 hq hw hl hk j (v + 1) r f z (by omega) (by omega)
    have b4 := slw_le4 n 0 w v
    rw [nthF, nk] at hz
    rw [M_encode_L100, show (256 : Int32) = nI 256 from rfl, pk_mul, nI_add]
    simp only [jn_e, bnd_e, nI_1, chk_n _ (show v < 256 by omega) (show 256 < 2 ^ 31 by decide), nI_clamp (show v < 2 ^ 31 by omega), hk v (show v < 256 by omega), chk_n _ (show 256 * w + v < 65536 by omega) (show 65536 < 2 ^ 31 by decide), nI_clamp (show 256 * w + v < 2 ^ 31 by omega), hl w v hw (show v < 2 ^ n by omega)]
    have lt := nI_ltI (a := q) (b := slw n 0 w v) (by omega) (by omega)
    have lt0 : (0 : Int32) < nI r ↔ 0 < r := nI_ltI (a := 0) (by omega) hr
    have r0 : nI r - 0 = nI r := pk_sub (a := r) (b := 0) (Nat.zero_le _)
    cases g : kp v
    · rw [g] at hz
      rw [if_neg (show ¬ (false && decide (slw n 0 w v ≤ q)) = true by simp)] at hz
      have key := ih r hr hz
      rw [if_pos (show nI (if false = true then 1 else 0) = 0 from rfl), r0, key]
      split <;> rfl
    · rw [g, Bool.true_and] at hz
      rw [if_neg (show ¬ nI (if true = true then 1 else 0) = 0 by decide)]
      by_cases g2 : q < slw n 0 w v
      · rw [if_neg (fun z => by have := of_decide_eq_true z; omega)] at hz
        have key := ih r hr hz
        rw [if_pos (lt.mpr g2), r0, key]
        split
        · rfl
        · rw [if_neg (show ¬ nI (if true = true then 1 else 0) = 0 by decide), if_pos (lt.mpr g2)]
      · rw [if_pos (decide_eq_true (by omega))] at hz
        rw [if_neg (fun z => g2 (lt.mp z)), if_neg (fun z => g2 (lt.mp z))]
        by_cases g3 : r = 0
        · rw [if_pos g3] at hz
          rw [if_neg (fun z => by have := lt0.mp z; omega)]
          cases hz
          rfl
        · rw [if_neg g3] at hz
          rw [if_pos (lt0.mpr (by omega)), show nI r - 1 = nI (r - 1) from pk_sub (a := r) (b := 1) (by omega)]
          exact ih (r - 1) (by omega) hz
theorem jrn {x d : Nat} (h : x < 2 ^ 31) (h1 : 0 < d) (h2 : d < 2 ^ 31) : jrem (nI x) (nI d) = nI (x % d) := pk_rem (a := x) (d := d) h h1 h2
theorem enc_loop {n q b P c : Nat} {S0 M0 : St} {kp : Nat → Bool} (n8 : n ≤ 8) (hq : q < 5) (hb : b ≤ 8) (hP : P < 2 ^ 31) (hbc : b * c ≤ 31) (hc : c ≤ 8) (hR : Rel9 S0 M0) (hG : GS n q (2 ^ b) kp) (hl : slM n M0) (hk : K12 M0 kp) (h5 : S0.1 17 5 = nI (2 ^ n)) (hn : nbs n S0) (h19 : L4 (S0.2 19) kp) : ∀ (j i f f' w : Nat) (S : St), i + j = c → j < f → j < f' → S.1 = S0.1 → (∀ q, q ≠ 20 → S.2 q = S0.2 q) → kp w = true → ∃ r S1, N_encode_L78 F9 (nI q) (nI b) (nI P) (nI c) f S (nI w) (nI i) = some (r, S1) ∧ M_encode_L76 F9 (nI q) (nI b) (nI c) M0 f' (nI w) (nI (P / 2 ^ (b * i))) (nI i) = some (r, M0) ∧ Rel9 S1 M0
  | 0, i, f + 1, f' + 1, w, S, hi, hf, hf', h1, h2, hw => by
    refine ⟨nI w, S, ?_, ?_, rel_sq hR ⟨fun a _ => by rw [h1], h2 18 (by decide)⟩ SqM.rf⟩
    · rw [N_encode_L78, if_neg (by rw [nI_ltI (by omega) (by omega)]; omega)]
    · rw [M_encode_L76, if_neg (by rw [nI_ltI (by omega) (by omega)]; omega)]
  | j + 1, i, f + 1, f' + 1, w, S, hi, hf, hf', h1, h2, hw => by
    have hp := pw_hi n8
    have hb2 : 2 ^ b ≤ 256 := pw_hi hb
    have bpos := Nat.two_pow_pos b
    have hgw := hG.1 w hw
    have hl' : ∀ t, kp t = true → t < 2 ^ n := fun t ht => (hG.1 t ht).1
    have nbsS : nbs n S := fun k x y hk hx hy => by
      rw [← hn k x y hk hx hy]
      unfold nb
      rw [h2 18 (by decide)]
    obtain ⟨S1, a1, a2, a3, a4⟩ := look_e (F := F9) (q := q) (w := w) (S := S) F9_20 n8 hq hgw.1 nbsS (by rw [h2 19 (by decide)]; exact h19) hl'
    have bi : b * i ≤ 31 := Nat.le_trans (Nat.mul_le_mul_left b (show i ≤ c by omega)) hbc
    have bi1 : b * (i + 1) ≤ 31 := Nat.le_trans (Nat.mul_le_mul_left b (show i + 1 ≤ c by omega)) hbc
    have dP : P / 2 ^ (b * i) < 2 ^ 31 := Nat.lt_of_le_of_lt (Nat.div_le_self _ _) hP
    have idx : P / 2 ^ (b * i) % 2 ^ b < 2 ^ b := Nat.mod_lt _ bpos
    obtain ⟨z, e1, e2⟩ : ∃ z, nthF (nk n q kp w) (2 ^ n) 0 (P / 2 ^ (b * i) % 2 ^ b) = some z ∧ kp z = true := by
      rcases nthF_x (nk n q kp w) (2 ^ n) 0 (P / 2 ^ (b * i) % 2 ^ b) with ⟨z, g1, g2, g3, -⟩ | ⟨g1, g2⟩
      · refine ⟨z, g1, ?_⟩
        unfold nk at g3
        rw [Bool.and_eq_true] at g3
        exact g3.1
      · have e : fb_ct (fun t => nk n q kp w (0 + t)) (2 ^ n) = wyC n q kp w := fb_ct_cong fun t _ => by rw [Nat.zero_add]; rfl
        omega
    have s1 := seen_e (F := F9) (S := S1) (i := P / 2 ^ (b * i) % 2 ^ b) (by decide) n8 (by omega) (by rw [a2, h1]; exact h5) a4
    rw [e1] at s1
    obtain ⟨r, S2, c1, c2, c3⟩ := enc_loop n8 hq hb hP hbc hc hR hG hl hk h5 hn h19 j (i + 1) f f' z S1 (by omega) (by omega) (by omega) (by rw [a2, h1]) (fun q hq => by rw [a3 q hq, h2 q hq]) e2
    refine ⟨r, S2, ?_, ?_, c3⟩
    · rw [N_encode_L78, if_pos (by rw [nI_ltI (by omega) (by omega)]; omega), pk_mul, jshr_n hP (by omega), pw_n b (by omega), pw_1 hb, ni_and, Nat.and_two_pow_sub_one_eq_mod, bnd_e, a1, cav_s, s1, crd_s, bnd_e, nI_1]
      exact c1
    · rw [M_encode_L76, if_pos (by rw [nI_ltI (by omega) (by omega)]; omega), pw_n b (by omega), nz_t _ (nI_ne0 bpos (by omega)), bnd_e, bnd_e, jrn dP bpos (by omega), jshr_n dP (by omega)]
      rw [show (0 : Int32) = nI 0 from rfl, enc_M n8 hq hgw.1 hl hk (2 ^ n) 0 _ F9 z (by omega) (by unfold F9; omega) (by omega) e1, bnd_e, nI_1, Nat.div_div_eq_div_mul, ← Nat.pow_add, ← Nat.mul_succ]
      exact c2
theorem ok_encode : st_encode F9 Rel9 := by
  intro S M h x y z v
  obtain ⟨n, hp⟩ := h.1
  obtain ⟨n2, n8, sn, mn, -⟩ := id hp
  have hw := pw_hi n8
  unfold N_encode M_encode
  rw [N_isSlow_e, N_isBits_e, l0, l4, l8, M_in_e, M_in_e, M_in_e]
  simp only [jn_e, crd_s, i10, c0, ti4, ti8]
  have i11 : ¬ (1 : Int32) = 0 := by decide
  simp only [i11, if_true, if_false]
  have bad : ∀ {A : Option (Int32 × St)}, (if 0 ≤ x.toInt ∧ x.toInt ≤ 4 then if 0 ≤ y.toInt ∧ y.toInt ≤ 8 then if z < 0 then some (-1, S) else some (-1, S) else some (-1, S) else some (-1, S)) = some ((-1 : Int32), S) := by
    intro A
    split
    · split
      · split <;> rfl
      · rfl
    · rfl
  by_cases g1 : 0 ≤ x.toInt ∧ x.toInt ≤ 4
  · simp only [if_pos g1]
    by_cases g2 : 0 ≤ y.toInt ∧ y.toInt ≤ 8
    · simp only [if_pos g2]
      by_cases g3 : z < 0
      · simp only [if_pos g3]
        refine ⟨-1, S, M, ?_, rfl, h⟩
        split
        · rfl
        · split <;> rfl
      · simp only [if_neg g3]
        simp only [ilt, c0, ti8]
        by_cases g4 : 0 ≤ v.toInt ∧ v.toInt ≤ 8
        · rw [if_neg (by omega), if_neg (by omega), if_pos g4]
          obtain ⟨q, hq, rfl, eq⟩ := i_nat g1.1
          obtain ⟨b, hb, rfl, eb⟩ := i_nat g2.1
          obtain ⟨c, hc, rfl, ec⟩ := i_nat g4.1
          obtain ⟨P, hP, rfl, eP⟩ := i_nat (x := z) (by rw [ilt, c0] at g3; omega)
          have hb8 : b ≤ 8 := by omega
          have hc8 : c ≤ 8 := by omega
          have hbc : b * c ≤ 8 * 8 := Nat.mul_le_mul hb8 hc8
          have t31 : (31 : Int32).toInt = 31 := by decide
          rw [pk_mul, nI_toInt (by omega), t31]
          by_cases g5 : 31 < ((b * c : Nat) : Int)
          · rw [if_pos g5, if_pos g5]
            exact ⟨-1, S, M, rfl, rfl, h⟩
          · rw [if_neg g5, if_neg g5]
            obtain ⟨S', M', kp, a1, a2, a3, a4, a5, a6, a7, a8, a9, a10, a11, a12⟩ := keep_both h n2 n8 sn mn (q := q) (b := b) (by omega) (by omega)
            have c256 := fb_ct_le kp (2 ^ n)
            rw [a1, a2, cal_s, cal_s]
            have e0 : nI (fb_ct kp (2 ^ n)) = 0 ↔ fb_ct kp (2 ^ n) = 0 := nI_eq (b := 0) (by omega) (by omega)
            by_cases g6 : fb_ct kp (2 ^ n) = 0
            · rw [if_pos (e0.mpr g6), if_pos (e0.mpr g6)]
              exact ⟨-2, S', M', rfl, rfl, a4⟩
            · rw [if_neg (fun z => g6 (e0.mp z)), if_neg (fun z => g6 (e0.mp z)), show (0 : Int32) = nI 0 from rfl, seen_e (i := 0) (by decide) n8 (by decide) a7 a10, least_e (by decide) n8 a6 a12, crd_s, crd_s]
              obtain ⟨w, e1, e2⟩ : ∃ w, nthF kp (2 ^ n) 0 0 = some w ∧ kp w = true := by
                rcases nthF_x kp (2 ^ n) 0 0 with ⟨w, k1, k2, k3, -⟩ | ⟨k1, k2⟩
                · exact ⟨w, k1, k3⟩
                · have : fb_ct (fun t => kp (0 + t)) (2 ^ n) = fb_ct kp (2 ^ n) := fb_ct_cong fun t _ => by rw [Nat.zero_add]
                  omega
              rw [e1]
              obtain ⟨r, S2, d1, d2, d3⟩ := enc_loop (P := P) (c := c) n8 (show q < 5 by omega) hb8 hP (by omega) hc8 a4 a3 a11 a12 a7 a8 a9 c 0 F9 F9 w S' (by omega) (by unfold F9; omega) (by unfold F9; omega) rfl (fun _ _ => rfl) e2
              rw [Nat.mul_zero, Nat.pow_zero, Nat.div_one] at d2
              exact ⟨r, S2, M', d1, d2, d3⟩
        · rw [if_neg g4]
          refine ⟨-1, S, M, ?_, rfl, h⟩
          by_cases g5 : v.toInt < 0
          · rw [if_pos g5]
          · rw [if_neg g5, if_pos (by omega)]
    · simp only [if_neg g2]
      refine ⟨-1, S, M, ?_, rfl, h⟩
      split
      · rfl
      · split <;> rfl
  · simp only [if_neg g1]
    refine ⟨-1, S, M, ?_, rfl, h⟩
    split
    · rfl
    · split <;> rfl
