/-! B: the row laid out by places; shields -/
def rwN (S : St) (i : Nat) : Nat := (S.1 3 i).toNatClampNeg
/-- the word ahead of a place of the row: 0, then the row -/
def pwN (S : St) (i : Nat) : Nat := if i = 0 then 0 else rwN S (i - 1)
/-- the same by places -/
def lwN (S : St) (n i : Nat) : Nat := wbp (odn S 2) (pwN S i) n
theorem lwN_lt (S : St) (n i : Nat) : lwN S n i < 2 ^ n := wbp_lt _ _ _
theorem lwN_0 (S : St) (n : Nat) : lwN S n 0 = 0 := by
  unfold lwN pwN
  rw [if_pos rfl]
  refine Nat.eq_of_testBit_eq fun p => ?_
  rw [wbp_bit, Nat.zero_testBit, Nat.zero_testBit, Bool.and_false]
theorem rwN_e {n l : Nat} {S M : St} (hrow : ∀ k, k < l → ∃ v, v < 2 ^ n ∧ S.1 3 k = nI v ∧ M.1 1 k = nI v) (n8 : n ≤ 8) {i : Nat} (hi : i < l) : rwN S i < 2 ^ n ∧ S.1 3 i = nI (rwN S i) ∧ M.1 1 i = nI (rwN S i) := by
  have hw := pw_hi n8
  obtain ⟨v, hv, e1, e2⟩ := hrow i hi
  have : rwN S i = v := by unfold rwN; rw [e1, nI_clamp (by omega)]
  rw [this]
  exact ⟨hv, e1, e2⟩
theorem pwN_lt {n l : Nat} {S M : St} (hrow : ∀ k, k < l → ∃ v, v < 2 ^ n ∧ S.1 3 k = nI v ∧ M.1 1 k = nI v) (n8 : n ≤ 8) {i : Nat} (hi : i ≤ l) : pwN S i < 2 ^ n := by
  unfold pwN
  by_cases g : i = 0
  · rw [if_pos g]; exact Nat.two_pow_pos n
  · rw [if_neg g]; exact (rwN_e hrow n8 (by omega)).1
def lyF (S : St) (n l : Nat) : Nat → St
  | 0 => S
  | i + 1 => sI (lyF S n l i) 4 i (if i < l then nI (lwN S n (i + 1)) else 0)
theorem lyF_row (S : St) (n l q : Nat) (h : q ≠ 4) : ∀ i, (lyF S n l i).1 q = S.1 q
  | 0 => rfl
  | i + 1 => by rw [lyF, sI_row _ _ _ _ _ h, lyF_row S n l q h i]
theorem lyF_2 (S : St) (n l : Nat) : ∀ i, (lyF S n l i).2 = S.2
  | 0 => rfl
  | i + 1 => by rw [lyF, sI_2, lyF_2 S n l i]
theorem lyF_in (S : St) (n l j : Nat) (hj : j < l) : ∀ i, j < i → (lyF S n l i).1 4 j = nI (lwN S n (j + 1))
  | i + 1, h => by
    rw [lyF, sI_at]
    by_cases g : j = i
    · subst g
      rw [if_pos ⟨rfl, rfl⟩, if_pos hj]
    · rw [if_neg (fun z => g z.2), lyF_in S n l j hj i (by omega)]
theorem layOut_loop {F n l : Nat} {S M : St} (hF : 20 ≤ F) (h : RelP n S M) (sl : S.1 1 4 = nI l) (l40 : l ≤ 40) (hrow : ∀ k, k < l → ∃ v, v < 2 ^ n ∧ S.1 3 k = nI v ∧ M.1 1 k = nI v) : ∀ (k i f : Nat), i + k = 40 → k < f → P_layOut_L2 F 1 f (lyF S n l i) (nI i) = some (lyF S n l 40)
  | 0, i, f + 1, hi, hf => by
    rw [P_layOut_L2, if_neg (show ¬ nI i < 40 by rw [show (40 : Int32) = nI 40 from rfl, nI_ltI (by omega) (by omega)]; omega), show i = 40 by omega]
  | k + 1, i, f + 1, hi, hf => by
    obtain ⟨n2, n8, sn, -⟩ := id h
    have hw := pw_hi n8
    have ih := layOut_loop hF h sl l40 hrow k (i + 1) f (by omega) (by omega)
    have r1 := lyF_row S n l 1 (by decide) i
    have r2 := lyF_row S n l 2 (by decide) i
    have r3 := lyF_row S n l 3 (by decide) i
    have i40 : nI i < 40 := (nI_ltI (b := 40) (by omega) (by omega)).mpr (by omega)
    rw [P_layOut_L2, if_pos i40, jn_e]
    simp only [nI_1, bnd_e, chk_n _ (show i < 40 by omega) (show 40 < 2 ^ 31 by decide), nI_clamp (show i < 2 ^ 31 by omega), r1, sl]
    have lt := nI_ltI (a := i) (b := l) (by omega) (by omega)
    rw [lyF] at ih
    by_cases g : i < l
    · have re := rwN_e hrow n8 g
      have od : odn (lyF S n l i) 2 = odn S 2 := by funext p; unfold odn; rw [r2]
      have e1 := P_byPlaces_e (F := F) (P := 1) (S := lyF S n l i) (n := n) (a := rwN S i) hF n8 (by omega) (by rw [r1, sn]) (fun p hp => by
        have := odn_S h hp
        show (lyF S n l i).1 2 p = nI (odn (lyF S n l i) 2 p) ∧ odn (lyF S n l i) 2 p < 32
        rw [od, r2]
        exact ⟨this.1, by omega⟩)
      rw [show odn (lyF S n l i) (1 + 1) = odn S 2 from od] at e1
      rw [if_pos (lt.mpr g), P_wordAt, jn_e, if_neg (nI_pos (by omega)), if_pos i40, chk_n _ (by omega) (by decide), crd_s, nI_clamp (by omega), r3, re.2.1, e1, crd_s]
      rw [if_pos g, lwN, pwN, if_neg (by omega), show i + 1 - 1 = i by omega] at ih
      exact ih
    · rw [if_neg (fun z => g (lt.mp z))]
      rw [if_neg g] at ih
      exact ih
theorem layOut_e {n l : Nat} {S M : St} (h : RelP n S M) (sl : S.1 1 4 = nI l) (l40 : l ≤ 40) (hrow : ∀ k, k < l → ∃ v, v < 2 ^ n ∧ S.1 3 k = nI v ∧ M.1 1 k = nI v) : ∃ S1, P_layOut F9 1 S = some S1 ∧ (∀ a, a ≠ 4 → S1.1 a = S.1 a) ∧ S1.2 = S.2 ∧ ∀ i, i < l → S1.1 4 i = nI (lwN S n (i + 1)) := by
  refine ⟨lyF S n l 40, ?_, fun a ha => lyF_row S n l a ha 40, lyF_2 S n l 40, fun i hi => lyF_in S n l i hi 40 (by omega)⟩
  have := layOut_loop (F := F9) F9_20 h sl l40 hrow 40 0 F9 (by omega) (by unfold F9; omega)
  rw [nI_0] at this
  exact this
theorem laid_e {F n l i : Nat} {S S0 : St} (l40 : l ≤ 40) (h4 : ∀ i, i < l → S0.1 4 i = nI (lwN S n (i + 1))) (hi : i ≤ l) : P_laidBefore F 1 S0 (nI i) = some (nI (lwN S n i)) := by
  unfold P_laidBefore
  rw [jn_e]
  by_cases g : i = 0
  · subst g
    rw [if_pos (by decide), lwN_0]
    rfl
  · have e : nI i - 1 = nI (i - 1) := pk_sub (a := i) (b := 1) (by omega)
    rw [if_neg (show ¬ nI i < 1 by rw [show (1 : Int32) = nI 1 from rfl, nI_ltI (by omega) (by omega)]; omega), if_neg (show ¬ 40 < nI i by rw [show (40 : Int32) = nI 40 from rfl, nI_ltI (by omega) (by omega)]; omega), e, chk_n _ (by omega) (by decide), nI_clamp (by omega), h4 (i - 1) (by omega), show i - 1 + 1 = i by omega]
theorem movesW_e {n a b g p4 : Nat} {S M M0 : St} (h : RelP n S M) (hm : Sq7 M M0) (hg : g < 2 ^ 31) (ha : a < 2 ^ n) (hb : b < 2 ^ n) (hp4 : p4 = 1) : ∃ M', M_moves F9 M0 (nI a) (nI b) (nI n) (nI p4) (nI g) = some M' ∧ Sq7 M M' ∧ MoV M' n g (mvz (wbp (odn S 2) a n) (wbp (odn S 2) b n)) := by
  obtain ⟨n2, n8, sn, mn, -⟩ := id h
  have hw := pw_hi n8
  subst hp4
  have m2 : M0.1 2 = M.1 2 := hm.2.1 2 (by decide) (by decide)
  have mn0 : M0.1 0 0 = nI n := by rw [hm.1 0 (by decide) (by decide), mn]
  obtain ⟨M', d1, d2, d3⟩ := M_moves_e (F := F9) (n := n) (a := a) (b := b) (c := n) (g := g) (M := M0) (e := odn S 2) (p4 := nI 1) F9_20 (by omega) (by omega) n8 hg (by omega) (by omega) mn0 (fun p hp => by
    have := odn_S h hp
    refine ⟨by omega, ?_, ?_⟩
    · rintro (z | z)
      · exact absurd z (by decide)
      · exact absurd hp z
    · intro _
      rw [m2]
      exact this.2.2)
  exact ⟨M', d1, hm.tr d2, d3.cong fun p hp => (mvz_wbp hp).symm⟩
theorem behind_loop {n l g : Nat} {S S1 : St} (n1 : 1 ≤ n) (n8 : n ≤ 8) (sn : S1.1 1 0 = nI n) (sl : S1.1 1 4 = nI l) (l40 : l ≤ 40) (hg : g < 2 ^ (n - 1)) (h4 : ∀ i, i < l → S1.1 4 i = nI (lwN S n (i + 1))) : ∀ (k i f X : Nat) (S0 : St), i + k = l → k < f → X ≤ 4 → Sq5 S1 S0 → ∃ Y S', N_slowestBehind_L4 F9 (nI g) f S0 (nI X) (nI i) = some (nI Y, S') ∧ Sq5 S1 S' ∧ Y ≤ 4 ∧ ∀ t, Y ≤ t ↔ X ≤ t ∧ ∀ j, i ≤ j → j < l → slw n g (lwN S n j) (lwN S n (j + 1)) ≤ t
  | 0, i, f + 1, X, S0, hi, hf, hX, h5 => by
    refine ⟨X, S0, ?_, h5, hX, fun t => ⟨fun h => ⟨h, fun a h1 h2 => by omega⟩, fun h => h.1⟩⟩
    rw [N_slowestBehind_L4, h5.1 1 (by decide), sl, if_neg (by rw [nI_ltI (by omega) (by omega)]; omega)]
  | k + 1, i, f + 1, X, S0, hi, hf, hX, h5 => by
    have h4' : ∀ i, i < l → S0.1 4 i = nI (lwN S n (i + 1)) := fun i hi => by rw [h5.1 4 (by decide)]; exact h4 i hi
    obtain ⟨S', u, w, x, y, c1, c2, c3⟩ := C_between_e (F := F9) (S := S0) n1 n8 hg (lwN_lt S n i) (lwN_lt S n (i + 1))
    have b4 := slw_le4 n g (lwN S n i) (lwN S n (i + 1))
    rw [N_slowestBehind_L4, h5.1 1 (by decide), sl, if_pos (by rw [nI_ltI (by omega) (by omega)]; omega), laid_e (S := S) l40 h4' (by omega), crd_s]
    simp only [nI_1]
    rw [laid_e (S := S) l40 h4' (by omega), crd_s, sn, c1, cav_s, C_greatestSlow_e n8 c3, crd_s, bnd_e, bnd_e, jmax_n (by omega) (by omega)]
    obtain ⟨Y, S2, e1, e2, e3, e4⟩ := behind_loop n1 n8 sn sl l40 hg h4 k (i + 1) f (max X (slw n g (lwN S n i) (lwN S n (i + 1)))) S' (by omega) (by omega) (by omega) (h5.tr c2)
    refine ⟨Y, S2, e1, e2, e3, fun t => ?_⟩
    rw [e4, Nat.max_le]
    constructor
    · rintro ⟨⟨h1, h2⟩, h3⟩
      refine ⟨h1, fun b q1 q2 => ?_⟩
      by_cases e : b = i
      · rw [e]; exact h2
      · exact h3 b (by omega) q2
    · rintro ⟨h1, h3⟩
      exact ⟨⟨h1, h3 i (Nat.le_refl _) (by omega)⟩, fun a q1 q2 => h3 a (by omega) q2⟩
theorem under_loop {n l g q : Nat} {p2 v8 : Int32} {S M : St} {k12 : St → Int32 → Option (Int32 × St)} (h : RelP n S M) (ml : M.1 0 4 = nI l) (l40 : l ≤ 40) (hrow : ∀ k, k < l → ∃ v, v < 2 ^ n ∧ S.1 3 k = nI v ∧ M.1 1 k = nI v) (hg : g < 2 ^ 31) (hq : q ≤ 4) : ∀ (k i f : Nat) (M0 : St), i + k = l → k + 1 < f → Sq7 M M0 → ∃ M' r, M_shields_L71 F9 (nI q) p2 v8 (nI g) k12 f M0 1 (nI i) = k12 M' r ∧ Sq7 M M' ∧ ((r = 1 ∧ ∀ j, i ≤ j → j < l → slw n g (lwN S n j) (lwN S n (j + 1)) ≤ q) ∨ (r = 0 ∧ ¬ ∀ j, i ≤ j → j < l → slw n g (lwN S n j) (lwN S n (j + 1)) ≤ q))
  | 0, i, f + 1, M0, hi, hf, h7 => by
    refine ⟨M0, 1, ?_, h7, Or.inl ⟨rfl, fun j h1 h2 => by omega⟩⟩
    rw [M_shields_L71, h7.1 4 (by decide) (by decide), ml, if_neg (by rw [nI_ltI (by omega) (by omega)]; omega)]
  | k + 1, i, f + 2, M0, hi, hf, h7 => by
    have n8 := h.2.1
    have mn := h.2.2.2.1
    have hw := pw_hi n8
    have la := pwN_lt hrow n8 (i := i) (by omega)
    have lb := rwN_e hrow n8 (i := i) (by omega)
    have ea : M_ahead F9 M0 (nI i) = some (nI (pwN S i)) := by
      unfold M_ahead pwN
      by_cases g0 : i = 0
      · subst g0
        rw [if_pos (show nI 0 = 0 from rfl), if_pos rfl]; rfl
      · have e0 : nI i - 1 = nI (i - 1) := pk_sub (a := i) (b := 1) (by omega)
        rw [if_neg (nI_ne0 (by omega) (by omega)), if_neg g0, e0, chk_n _ (by omega) (by decide), nI_clamp (by omega), h7.2.1 1 (by decide) (by decide), (rwN_e hrow n8 (i := i - 1) (by omega)).2.2]
    obtain ⟨M', d1, d2, d3⟩ := movesW_e (p4 := 1) h h7 hg la lb.1 rfl
    have e2 : wbp (odn S 2) (rwN S i) n = lwN S n (i + 1) := by
      unfold lwN pwN
      rw [if_neg (by omega), show i + 1 - 1 = i by omega]
    rw [e2] at d3
    have b4 := slw_le4 n g (lwN S n i) (lwN S n (i + 1))
    rw [M_shields_L71, h7.1 4 (by decide) (by decide), ml, if_pos (by rw [nI_ltI (by omega) (by omega)]; omega), if_neg (by decide), ea, crd_s, chk_n _ (by omega) (by decide), nI_clamp (by omega), h7.2.1 1 (by decide) (by decide), lb.2.2, h7.1 0 (by decide) (by decide), mn, show (1 : Int32) = nI 1 from rfl, d1, cav_s, M_slowNow_e F9_20 d3, crd_s, jn_e]
    simp only [bnd_e, ← show (1 : Int32) = nI 1 from rfl, nI_1]
    have es : mxz (slD n g (mvz (wbp (odn S 2) (pwN S i) n) (lwN S n (i + 1)))) n = slw n g (lwN S n i) (lwN S n (i + 1)) := rfl
    rw [es]
    have lt := nI_ltI (a := q) (b := slw n g (lwN S n i) (lwN S n (i + 1))) (by omega) (by omega)
    by_cases g1 : q < slw n g (lwN S n i) (lwN S n (i + 1))
    · refine ⟨M', 0, ?_, d2, Or.inr ⟨rfl, fun z => by have := z i (Nat.le_refl _) (by omega); omega⟩⟩
      rw [if_pos (lt.mpr g1), M_shields_L71]
      split
      · rw [if_pos rfl]
      · rfl
    · obtain ⟨M2, r, e3, e4, e5⟩ := under_loop (p2 := p2) (v8 := v8) (k12 := k12) h ml l40 hrow hg hq k (i + 1) (f + 1) M' (by omega) (by omega) d2
      refine ⟨M2, r, ?_, e4, ?_⟩
      · rw [if_neg (fun z => g1 (lt.mp z)), e3]
      · rcases e5 with ⟨e6, e7⟩ | ⟨e6, e7⟩
        · refine Or.inl ⟨e6, fun j h1 h2 => ?_⟩
          by_cases e : j = i
          · rw [e]; omega
          · exact e7 j (by omega) h2
        · exact Or.inr ⟨e6, fun z => e7 fun j h1 h2 => z j (by omega) h2⟩
theorem N_isSlow_e {F : Nat} {S : St} {x : Int32} : N_isSlow F S x = some (if 0 ≤ x.toInt ∧ x.toInt ≤ 4 then 1 else 0) := by
  have t4 : (4 : Int32).toInt = 4 := by decide
  unfold N_isSlow
  rw [jn_e]
  simp only [ilt, c0, t4]
  by_cases g1 : x.toInt < 0
  · rw [if_pos g1, if_neg (by omega)]
  · rw [if_neg g1]
    by_cases g2 : 4 < x.toInt
    · rw [if_pos g2, if_neg (by omega)]
    · rw [if_neg g2, if_pos (by omega)]
/-- the two sides' best set of shields so far -/
def shJ (n : Nat) (v v' : Int32) : Prop := (v = -1 ∧ v' = -4) ∨ ∃ g, g < 2 ^ (n - 1) ∧ v = nI g ∧ v' = nI g
theorem shields_loop {n l q : Nat} {p2 : Int32} {S M S1 : St} {k3 : St → Int32 → Option (Int32 × St)} (h : RelP n S M) (sn1 : S1.1 1 0 = nI n) (sl1 : S1.1 1 4 = nI l) (ml : M.1 0 4 = nI l) (l40 : l ≤ 40) (hrow : ∀ k, k < l → ∃ v, v < 2 ^ n ∧ S.1 3 k = nI v ∧ M.1 1 k = nI v) (h4 : ∀ i, i < l → S1.1 4 i = nI (lwN S n (i + 1))) (hq : q ≤ 4) : ∀ (k i f f' : Nat) (S0 M0 : St) (v v' : Int32), i + k = 2 ^ (n - 1) → k < f → k < f' → Sq5 S1 S0 → Sq7 M M0 → shJ n v v' → ∃ S' M' w w', N_leastShields_L11 F9 (nI q) f S0 v (nI i) = some (w, S') ∧ M_shields_L30 F9 (nI q) p2 k3 f' M0 v' (nI i) = k3 M' w' ∧ Sq5 S1 S' ∧ Sq7 M M' ∧ shJ n w w'
  | 0, i, f + 1, f' + 1, S0, M0, v, v', hi, hf, hf', h5, h7, hJ => by
    obtain ⟨n2, n8, sn, mn, -⟩ := id h
    have hw := pw_hi n8
    have hg : 2 ^ (n - 1) ≤ 2 ^ n := Nat.pow_le_pow_right (by decide) (by omega)
    have e1 : nI n - 1 = nI (n - 1) := pk_sub (a := n) (b := 1) (by omega)
    refine ⟨S0, M0, v, v', ?_, ?_, h5, h7, hJ⟩
    · rw [N_leastShields_L11, h5.1 1 (by decide), sn1, e1, pw_n _ (by omega), if_neg (by rw [nI_ltI (by omega) (by omega)]; omega)]
    · rw [M_shields_L30, h7.1 0 (by decide) (by decide), mn, e1, pw_n _ (by omega), if_neg (by rw [nI_ltI (by omega) (by omega)]; omega)]
  | k + 1, i, f + 1, f' + 1, S0, M0, v, v', hi, hf, hf', h5, h7, hJ => by
    obtain ⟨n2, n8, sn, mn, -⟩ := id h
    have hw := pw_hi n8
    have hg : 2 ^ (n - 1) ≤ 2 ^ n := Nat.pow_le_pow_right (by decide) (by omega)
    have e1 : nI n - 1 = nI (n - 1) := pk_sub (a := n) (b := 1) (by omega)
    have hF9 : F9 = 1000000000 := rfl
    obtain ⟨Y, S', b1, b2, b3, b4⟩ := behind_loop (S := S) (g := i) (by omega) n8 sn1 sl1 l40 (by omega) h4 l 0 F9 0 S0 (by omega) (by omega) (by omega) h5
    rw [nI_0] at b1
    have u := fun (k12 : St → Int32 → Option (Int32 × St)) => under_loop (p2 := p2) (v8 := v') (k12 := k12) (g := i) h ml l40 hrow (by omega) hq l 0 F9 M0 (by omega) (by omega) h7
    rw [nI_0] at u
    have take : ∀ (K : St → Int32 → Option (Int32 × St)), (∀ S0 M0 v v', Sq5 S1 S0 → Sq7 M M0 → shJ n v v' → ∃ S' M' w w', N_leastShields_L11 F9 (nI q) f S0 v (nI (i + 1)) = some (w, S') ∧ M_shields_L30 F9 (nI q) p2 k3 f' M0 v' (nI (i + 1)) = k3 M' w' ∧ Sq5 S1 S' ∧ Sq7 M M' ∧ shJ n w w') → ∃ S' M' w w', (cal (N_slowestBehind F9 S0 (nI i)) fun v11 S12 => if nI q < v11 then N_leastShields_L11 F9 (nI q) f S12 v (nI (i + 1)) else N_leastShields_L11 F9 (nI q) f S12 (nI i) (nI (i + 1))) = some (w, S') ∧ M_shields_L71 F9 (nI q) p2 v' (nI i) (fun S13 v14 => if v14 = 0 then M_shields_L30 F9 (nI q) p2 k3 f' S13 v' (nI (i + 1)) else M_shields_L30 F9 (nI q) p2 k3 f' S13 (nI i) (nI (i + 1))) F9 M0 1 0 = k3 M' w' ∧ Sq5 S1 S' ∧ Sq7 M M' ∧ shJ n w w' := by
      intro K ih
      obtain ⟨M', r, u1, u2, u3⟩ := u (fun S13 v14 => if v14 = 0 then M_shields_L30 F9 (nI q) p2 k3 f' S13 v' (nI (i + 1)) else M_shields_L30 F9 (nI q) p2 k3 f' S13 (nI i) (nI (i + 1)))
      rw [u1, N_slowestBehind, b1, cal_s]
      have lt := nI_ltI (a := q) (b := Y) (by omega) (by omega)
      have c := b4 q
      rcases u3 with ⟨rfl, g1⟩ | ⟨rfl, g1⟩
      · rw [if_neg (show ¬ (1 : Int32) = 0 by decide), if_neg (fun z => by have := lt.mp z; have := c.mpr ⟨Nat.zero_le _, g1⟩; omega)]
        exact ih S' M' (nI i) (nI i) b2 u2 (Or.inr ⟨i, by omega, rfl, rfl⟩)
      · rw [if_pos (show (0 : Int32) = 0 from rfl), if_pos (lt.mpr (Nat.lt_of_not_le fun z => g1 (c.mp z).2))]
        exact ih S' M' v v' b2 u2 hJ
    have stay : M_shields_L71 F9 (nI q) p2 v' (nI i) (fun S13 v14 => if v14 = 0 then M_shields_L30 F9 (nI q) p2 k3 f' S13 v' (nI (i + 1)) else M_shields_L30 F9 (nI q) p2 k3 f' S13 (nI i) (nI (i + 1))) F9 M0 0 0 = M_shields_L30 F9 (nI q) p2 k3 f' M0 v' (nI (i + 1)) := by
      rw [show F9 = 999999999 + 1 from rfl, M_shields_L71]
      split
      · rw [if_pos rfl, if_pos rfl]
      · rw [if_pos rfl]
    have ih := shields_loop (p2 := p2) (k3 := k3) h sn1 sl1 ml l40 hrow h4 hq k (i + 1) f f'
    have ih2 := fun S0 M0 v v' => ih S0 M0 v v' (by omega) (by omega) (by omega)
    have tk := take (fun _ _ => none) ih2
    rw [N_leastShields_L11, M_shields_L30, h5.1 1 (by decide), sn1, h7.1 0 (by decide) (by decide), mn, e1, pw_n _ (by omega), if_pos (by rw [nI_ltI (by omega) (by omega)]; omega), if_pos (by rw [nI_ltI (by omega) (by omega)]; omega)]
    simp only [jn_e, bnd_e, nI_1]
    rw [if_neg (show ¬ (1 : Int32) = 0 by decide), if_pos True.intro]
    rcases id hJ with ⟨rfl, rfl⟩ | ⟨g, hg1, rfl, rfl⟩
    · rw [if_pos (show (-1 : Int32) < 0 by decide), if_pos rfl]
      exact tk
    · have ne4 : ¬ nI g = -4 := fun z => by
        have := congrArg Int32.toInt z
        rw [nI_toInt (by omega), show (-4 : Int32).toInt = -4 by decide] at this
        omega
      have p1 : pc i 16 < 2 ^ 31 := by unfold pc; have := fb_ct_le (fun t => i.testBit t) 16; omega
      have p2' : pc g 16 < 2 ^ 31 := by unfold pc; have := fb_ct_le (fun t => g.testBit t) 16; omega
      rw [if_neg (nI_pos (by omega)), if_neg ne4, Ji_small (by omega), Ji_small (by omega), M_countOf_e F9_20 (by omega), M_countOf_e F9_20 (by omega)]
      simp only [crd_s]
      have lt := nI_ltI p1 p2'
      by_cases g1 : pc i 16 < pc g 16
      · rw [if_pos (lt.mpr g1), if_pos (lt.mpr g1)]
        exact tk
      · rw [if_neg (fun z => g1 (lt.mp z)), if_neg (fun z => g1 (lt.mp z)), stay]
        exact ih2 S0 M0 (nI g) (nI g) h5 h7 hJ
theorem ok_shields : st_shields F9 Rel9 := by
  intro S M h x y
  obtain ⟨n, hp⟩ := h.1
  obtain ⟨n2, n8, sn, mn, ho, hs, hsh, ⟨l, l40, sl, ml, hrow⟩, hord, hperm⟩ := id hp
  have h0 : (0 : Int64) = (0 : Int32).toInt64 := by decide
  have h1 : (1 : Int64) = (1 : Int32).toInt64 := by decide
  have h4 : (4 : Int64) = (4 : Int32).toInt64 := by decide
  have t4 : (4 : Int32).toInt = 4 := by decide
  have hF9 : F9 = 1000000000 := rfl
  have hw := pw_hi n8
  have hg : 2 ^ (n - 1) ≤ 2 ^ n := Nat.pow_le_pow_right (by decide) (by omega)
  unfold N_shields M_shields
  rw [N_isSlow_e, h0, h1, h4, M_in_e, M_in_e]
  simp only [crd_s, i10, c0, c1, t4]
  by_cases g1 : 0 ≤ x.toInt ∧ x.toInt ≤ 4
  · rw [if_pos g1, if_pos g1]
    simp only [ilt, c0, c1]
    by_cases g2 : 0 ≤ y.toInt ∧ y.toInt ≤ 1
    · rw [if_neg (by omega), if_neg (by omega), if_pos g2]
      obtain ⟨q, hq, rfl, eq⟩ := i_nat g1.1
      obtain ⟨S1, a1, a2, a3, a4⟩ := layOut_e hp sl l40 hrow
      obtain ⟨S', M', w, w', e1, e2, e3, e4, e5⟩ := shields_loop (q := q) (p2 := y) (k3 := fun S4 v5 => (if v5 = (-4) then some ((-4), S4) else (if y = 0 then crd (M_countOf F9 S4 v5) fun v6 => some (v6, S4) else some (v5, S4)))) hp (by rw [a2 1 (by decide), sn]) (by rw [a2 1 (by decide), sl]) ml l40 hrow a4 (by omega) (2 ^ (n - 1)) 0 F9 F9 S1 M (-1) (-4) (by omega) (by omega) (by omega) Sq5.rf Sq7.rf (Or.inl ⟨rfl, rfl⟩)
      rw [nI_0] at e1 e2
      have sqN : SqN S S' := ⟨fun a ha => (e3.1 a (by omega)).trans (a2 a (by omega)), by rw [e3.2, a3]⟩
      have fin := rel_sq h sqN e4.sq
      rw [N_leastShields, a1, cav_s, e1, cal_s, e2]
      rcases e5 with ⟨rfl, rfl⟩ | ⟨g, hg1, rfl, rfl⟩
      · rw [if_pos (by decide), if_pos rfl]
        exact ⟨-4, S', M', rfl, rfl, fin⟩
      · have ne4 : ¬ nI g = -4 := fun z => by
          have := congrArg Int32.toInt z
          rw [nI_toInt (by omega), show (-4 : Int32).toInt = -4 by decide] at this
          omega
        rw [nI_toInt (by omega), if_neg (by omega), if_neg ne4, Ji_small (by omega), M_countOf_e F9_20 (by omega), crd_s, crd_s]
        by_cases gy : y = 0
        · rw [if_pos gy, if_pos gy]
          exact ⟨_, S', M', rfl, rfl, fin⟩
        · rw [if_neg gy, if_neg gy]
          exact ⟨_, S', M', rfl, rfl, fin⟩
    · rw [if_neg g2]
      refine ⟨-1, S, M, ?_, rfl, h⟩
      by_cases g3 : y.toInt < 0
      · rw [if_pos g3]
      · rw [if_neg g3, if_pos (by omega)]
  · rw [if_neg g1, if_neg g1]
    exact ⟨-1, S, M, rfl, rfl, h⟩
