/-! B: turned, the call -/
def SqU (S S' : St) : Prop := (∀ q, q ≠ 4 → q ≠ 5 → q ≠ 16 → S'.1 q = S.1 q) ∧ S'.2 = S.2
theorem gs_sI (F k : Nat) (S : St) (v : Int32) : C_greatestSlow F (sI S 16 k v) = C_greatestSlow F S := by
  unfold C_greatestSlow
  simp only [sI_row _ _ _ _ 5 (show (5 : Nat) ≠ 16 by decide)]
theorem t01 {t : Nat} (h : t < 2) {α : Type} (J : Int32 → α) : (if nI t = 0 then J 0 else J 1) = J (nI t) := by
  rcases (show t = 0 ∨ t = 1 by omega) with rfl | rfl
  · rw [if_pos (by decide)]; rfl
  · rw [if_neg (by decide)]; rfl
theorem turn_loop {n sh o d l w : Nat} {p2 : Int32} {S M : St} {k6 : St → Int32 → Int32 → Int32 → Int32 → Option (Int32 × St)} (hp : RelP n S M) (hsh : sh < 2 ^ (n - 1)) (ho : o ≤ 99) (hd : d ≤ 99) (l40 : l ≤ 40) (hrow : ∀ k, k < l → ∃ v, v < 2 ^ n ∧ S.1 3 k = nI v ∧ M.1 1 k = nI v) (hw : w < 4) : ∀ (k i f f' x : Nat) (S6 M6 : St) (C T Fi Sl : Int32), i + k = l → k < f → k < f' → x < 2 → SqU S S6 → TN S S6 n sh o d l → S6.1 16 0 = C → S6.1 16 1 = T → S6.1 16 2 = Fi → S6.1 16 3 = Sl → SqX M M6 → TM S M M6 n sh o d l → tcK M6 0 l → ∃ S' M', U_sendAll_L32 F9 (nI w) f S6 (nI x) (nI i) = some S' ∧ M_turned_L84 F9 (nI w) p2 k6 f' M6 (nI (wyM n (pwN S i) x)) C T Fi Sl (nI i) = k6 M' (S'.1 16 0) (S'.1 16 1) (S'.1 16 2) (S'.1 16 3) ∧ SqU S S' ∧ SqX M M'
  | 0, i, f + 1, f' + 1, x, S6, M6, C, T, Fi, Sl, hi, hf, hf', hx, hU, hN, c0, c1, c2, c3, hX, hM, hT => by
    refine ⟨S6, M6, ?_, ?_, hU, hX⟩
    · rw [U_sendAll_L32, hN.2.2.2.2.1, if_neg (by rw [nI_ltI (by omega) (by omega)]; omega)]
    · rw [M_turned_L84, hM.2.2.2.2.1, if_neg (by rw [nI_ltI (by omega) (by omega)]; omega), c0, c1, c2, c3]
  | k + 1, i, f + 1, f' + 1, x, S6, M6, C, T, Fi, Sl, hi, hf, hf', hx, hU, hN, c0, c1, c2, c3, hX, hM, hT => by
    obtain ⟨n2, n8, -⟩ := id hp
    have hil : i < l := by omega
    have pa : pwN S i < 2 ^ n := pwN_lt hrow n8 (by omega)
    have pb : pwN S (i + 1) < 2 ^ n := pwN_lt hrow n8 (by omega)
    have rb := rwN_e hrow n8 hil
    rw [← pwN_s S i] at rb
    obtain ⟨S10, a1, a2⟩ := isTurned_N (x := x) (w := w) (by omega) n8 l40 hsh ho hd hx hw hN hil
    obtain ⟨M20, m1, m2⟩ := isTurned_M (x := x) (w := w) hp hsh ho hd l40 hrow hM hT hx hw hil
    generalize ht : trn S n sh o d w i x = t at a1 m1
    have t2 : t < 2 := by rw [← ht]; exact trn_lt _ _ _ _ _ _ _ _
    have hN10 : TN S S10 n sh o d l := hN.fr (a2.1 1 (by decide)) (a2.1 4 (by decide))
    have hM20 : TM S M M20 n sh o d l := hM.fr m2
    obtain ⟨S14, b1, b2, b3⟩ := costOf_e (x := x) (y := t) (by omega) n8 l40 hsh hx t2 hN10 hil
    obtain ⟨M22, w1, w2, w3⟩ := wider_e (i := i) (x := x) (y := t) hp hsh hM20 pa pb
    have e14 : ∀ q, q ≠ 5 → S14.1 q = S6.1 q := fun q hq => by rw [b2.1 q hq, a2.1 q hq]
    have ly : M_lying F9 M20 (nI (pwN S (i + 1))) (nI t) = some (nI (wyM n (pwN S (i + 1)) t)) := lying_M n8 t2 hM20.1
    have sl4 : slw (n + 1) sh (lyN S n i x) (lyN S n (i + 1) t) ≤ 4 := slw_le4 _ _ _ _
    have co := M_costNow_e (o := o) (s := d) F9_20 w3 (by rw [w2.1 1 (by decide) (by decide), hM20.2.1]) (by rw [w2.1 2 (by decide) (by decide), hM20.2.2.1])
    have so := M_slowNow_e F9_20 w3
    rw [show mxz (slD (n + 1) sh (mvz (lyN S n i x) (lyN S n (i + 1) t))) (n + 1) = slw (n + 1) sh (lyN S n i x) (lyN S n (i + 1) t) from rfl] at so
    rw [show coD (n + 1) sh o d (mvz (lyN S n i x) (lyN S n (i + 1) t)) = cst S n sh o d i x t from rfl] at co
    generalize hs : slw (n + 1) sh (lyN S n i x) (lyN S n (i + 1) t) = s at b3 so sl4
    have sq22 : Sq7 M6 M22 := m2.tr w2
    have go : ∀ (S18 : St) (F' : Int32), (∀ q, q ≠ 16 → S18.1 q = S14.1 q) → S18.2 = S14.2 → S18.1 16 0 = C + nI (cst S n sh o d i x t) → S18.1 16 1 = T → S18.1 16 2 = F' → S18.1 16 3 = jmax Sl (nI s) → ∃ S' M', U_sendAll_L32 F9 (nI w) f (sI S18 16 1 (S18.1 16 1 + nI t)) (nI t) (nI (i + 1)) = some S' ∧ M_turned_L84 F9 (nI w) p2 k6 f' M22 (nI (wyM n (pwN S (i + 1)) t)) (C + nI (cst S n sh o d i x t)) (T + nI t) F' (jmax Sl (nI s)) (nI (i + 1)) = k6 M' (S'.1 16 0) (S'.1 16 1) (S'.1 16 2) (S'.1 16 3) ∧ SqU S S' ∧ SqX M M' := by
      intro S18 F' h1 h2 h3 h4 h5 h6
      have fr : ∀ q, q ≠ 5 → q ≠ 16 → (sI S18 16 1 (S18.1 16 1 + nI t)).1 q = S6.1 q := fun q q5 q16 => by
        rw [sI_row _ _ _ _ _ q16, h1 q q16, e14 q q5]
      refine turn_loop (p2 := p2) (k6 := k6) hp hsh ho hd l40 hrow hw k (i + 1) f f' t _ M22 _ _ _ _ (by omega) (by omega) (by omega) t2 ⟨fun q q4 q5 q16 => by rw [fr q q5 q16, hU.1 q q4 q5 q16], ?_⟩ (hN.fr (fr 1 (by decide) (by decide)) (fr 4 (by decide) (by decide))) ?_ ?_ ?_ ?_ (hX.tr sq22.x) (hM.fr sq22) (fun j j1 j2 => ?_)
      · rw [sI_2, h2, b2.2, a2.2, hU.2]
      · rw [sI_at, if_neg (by decide), h3]
      · rw [sI_at, if_pos ⟨rfl, rfl⟩, h4]
      · rw [sI_at, if_neg (by decide), h5]
      · rw [sI_at, if_neg (by decide), h6]
      · rw [sq22.2.1 10 (by decide) (by decide)]
        exact hT j j1 j2
    have f14 : ∀ q, q ≠ 16 → (sI (sI S14 16 0 (C + nI (cst S n sh o d i x t))) 16 3 (jmax Sl (nI s))).1 q = S14.1 q := fun q hq => by
      rw [sI_row _ _ _ _ _ hq, sI_row _ _ _ _ _ hq]
    rw [U_sendAll_L32, M_turned_L84, hN.2.2.2.2.1, hM.2.2.2.2.1, if_pos (by rw [nI_ltI (by omega) (by omega)]; omega), if_pos (by rw [nI_ltI (by omega) (by omega)]; omega), a1, m1, cal_s, cal_s, jn_e, chk_n _ (by omega) (by decide), nI_clamp (by omega), hM20.2.2.2.2.2.1, rb.2.2, ly, crd_s, w1, cav_s, co, crd_s, so]
    rw [t01 t2 fun v11 => cal (U_costOf F9 S10 (nI i) (nI x) v11) fun v13 S14 => bnd (sI S14 16 0 ((S10.1 16 0) + v13)) fun S15 => crd (C_greatestSlow F9 S15) fun v16 => bnd (sI S15 16 3 (jmax (S15.1 16 3) v16)) fun S17 => jn (fun (S18 : St) => bnd (sI S18 16 1 ((S18.1 16 1) + v11)) fun S20 => bnd (nI i + 1) fun v21 => U_sendAll_L32 F9 (nI w) f S20 v11 v21) fun (J19 : St → Option St) => (if v11 = 1 then (if (S17.1 16 2) = (-4) then bnd (sI S17 16 2 (nI i)) fun S22 => J19 S22 else J19 S17) else J19 S17)]
    rw [b1, cal_s, a2.1 16 (by decide), c0]
    simp only [bnd_e, jn_e, nI_1, crd_s]
    rw [gs_sI, b3, crd_s]
    have e3 : (sI S14 16 0 (C + nI (cst S n sh o d i x t))).1 16 3 = Sl := by rw [sI_at, if_neg (by decide), e14 16 (by decide), c3]
    rw [e3]
    have e2 : (sI (sI S14 16 0 (C + nI (cst S n sh o d i x t))) 16 3 (jmax Sl (nI s))).1 16 2 = Fi := by rw [sI_at, if_neg (by decide), sI_at, if_neg (by decide), e14 16 (by decide), c2]
    rw [e2]
    have ej : ∀ (K : Int32 → Option (Int32 × St)), (if Sl < nI s then K (nI s) else K Sl) = K (jmax Sl (nI s)) := fun K => by
      unfold jmax
      split <;> rfl
    have q0 : (sI (sI S14 16 0 (C + nI (cst S n sh o d i x t))) 16 3 (jmax Sl (nI s))).1 16 0 = C + nI (cst S n sh o d i x t) := by rw [sI_at, if_neg (by decide), sI_at, if_pos ⟨rfl, rfl⟩]
    have q1 : (sI (sI S14 16 0 (C + nI (cst S n sh o d i x t))) 16 3 (jmax Sl (nI s))).1 16 1 = T := by rw [sI_at, if_neg (by decide), sI_at, if_neg (by decide), e14 16 (by decide), c1]
    have q3 : (sI (sI S14 16 0 (C + nI (cst S n sh o d i x t))) 16 3 (jmax Sl (nI s))).1 16 3 = jmax Sl (nI s) := by rw [sI_at, if_pos ⟨rfl, rfl⟩]
    have eM := ej fun v26 => if nI t = 1 then if Fi = -4 then M_turned_L84 F9 (nI w) p2 k6 f' M22 (nI (wyM n (pwN S (i + 1)) t)) (C + nI (cst S n sh o d i x t)) (T + nI t) (nI i) v26 (nI (i + 1)) else M_turned_L84 F9 (nI w) p2 k6 f' M22 (nI (wyM n (pwN S (i + 1)) t)) (C + nI (cst S n sh o d i x t)) (T + nI t) Fi v26 (nI (i + 1)) else M_turned_L84 F9 (nI w) p2 k6 f' M22 (nI (wyM n (pwN S (i + 1)) t)) (C + nI (cst S n sh o d i x t)) (T + nI t) Fi v26 (nI (i + 1))
    rw [eM]
    by_cases g1 : nI t = 1
    · rw [if_pos g1, if_pos g1]
      by_cases g2 : Fi = -4
      · rw [if_pos g2, if_pos g2]
        refine go (sI (sI (sI S14 16 0 (C + nI (cst S n sh o d i x t))) 16 3 (jmax Sl (nI s))) 16 2 (nI i)) (nI i) (fun q hq => by rw [sI_row _ _ _ _ _ hq, f14 q hq]) rfl ?_ ?_ ?_ ?_
        · rw [sI_at, if_neg (by decide), q0]
        · rw [sI_at, if_neg (by decide), q1]
        · rw [sI_at, if_pos ⟨rfl, rfl⟩]
        · rw [sI_at, if_neg (by decide), q3]
      · rw [if_neg g2, if_neg g2]
        exact go _ Fi f14 rfl q0 q1 e2 q3
    · rw [if_neg g1, if_neg g1]
      exact go _ Fi f14 rfl q0 q1 e2 q3
theorem ok_turned : st_turned F9 Rel9 := by
  intro S M h x y
  obtain ⟨n, hp⟩ := h.1
  obtain ⟨n2, n8, sn, mn, ⟨o, o99, so, mo⟩, ⟨d, d99, sd, md⟩, ⟨sh, hsh, sq, mq⟩, ⟨l, l40, sl, ml, hrow⟩, hord, hperm⟩ := id hp
  have l3 : (3 : Int64) = (3 : Int32).toInt64 := by decide
  have ti3 : (3 : Int32).toInt = 3 := by decide
  have h3 : (3 : Int32) = nI 3 := rfl
  unfold N_turned M_turned
  rw [l0, l3, M_in_e, M_in_e]
  simp only [crd_s, i10, c0, ti3, ilt]
  by_cases g1 : 0 ≤ x.toInt ∧ x.toInt ≤ 3
  · rw [if_neg (show ¬ x.toInt < 0 by omega), if_neg (show ¬ 3 < x.toInt by omega), if_pos g1]
    by_cases g2 : 0 ≤ y.toInt ∧ y.toInt ≤ 3
    · rw [if_neg (show ¬ y.toInt < 0 by omega), if_neg (show ¬ 3 < y.toInt by omega), if_pos g2]
      obtain ⟨w, hw, rfl, ew⟩ := i_nat g1.1
      have w4 : w < 4 := by omega
      obtain ⟨S1, a1, a2, a3, a4⟩ := layOut_e hp sl l40 hrow
      generalize hS5 : sI (sI (sI (sI S1 16 0 0) 16 1 0) 16 2 (-4)) 16 3 0 = S5
      have f5 : ∀ q, q ≠ 16 → S5.1 q = S1.1 q := fun q hq => by
        rw [← hS5, sI_row _ _ _ _ _ hq, sI_row _ _ _ _ _ hq, sI_row _ _ _ _ _ hq, sI_row _ _ _ _ _ hq]
      have eU : U_sendAll F9 S (nI w) = U_sendAll_L32 F9 (nI w) F9 S5 0 0 := by
        unfold U_sendAll
        rw [a1, cav_s, bnd_e, bnd_e, bnd_e, bnd_e, hS5]
      have hN : TN S S5 n sh o d l := by
        refine ⟨?_, ?_, ?_, ?_, ?_, fun i hi => ?_⟩
        · rw [f5 1 (by decide), a2 1 (by decide), sn]
        · rw [f5 1 (by decide), a2 1 (by decide), so]
        · rw [f5 1 (by decide), a2 1 (by decide), sd]
        · rw [f5 1 (by decide), a2 1 (by decide), sq]
        · rw [f5 1 (by decide), a2 1 (by decide), sl]
        · rw [f5 4 (by decide), a4 i hi]
      have hU : SqU S S5 := ⟨fun q q4 q5 q16 => by rw [f5 q q16, a2 q q4], by rw [← hS5]; exact a3⟩
      -- the reference's start
      have start : ∀ (K : St → Option (Int32 × St)), ∃ M4, M_turned_L28 F9 (nI w) y K F9 M 0 = K M4 ∧ SqX M M4 ∧ (0 < l → M4.1 10 (2 * l - 2) = 0 ∧ M4.1 10 (2 * l - 1) = 0) := by
        intro K
        by_cases g : 0 < l
        · have p0 : (0 : Int32) < nI l := (nI_ltI (a := 0) (by omega) (by omega)).mpr g
          have e2 : (2 : Int32) * nI l - 2 = nI (2 * l - 2) := by
            rw [show (2 : Int32) * nI l = nI (2 * l) from pk_mul 2 l]
            exact pk_sub (a := 2 * l) (b := 2) (by omega)
          have ml2 : ∀ v, (sI M 10 (2 * l - 2) v).1 0 4 = nI l := fun v => by rw [sI_row _ _ _ _ _ (by decide), ml]
          have ml3 : ∀ v u, (sI (sI M 10 (2 * l - 2) v) 10 (2 * l - 1) u).1 0 4 = nI l := fun v u => by rw [sI_row _ _ _ _ _ (by decide), ml2]
          refine ⟨sI (sI M 10 (2 * l - 2) 0) 10 (2 * l - 1) 0, ?_, (SqX.sI _ _ _).tr (SqX.sI _ _ _), fun _ => ⟨by rw [sI_at, if_neg (by omega), sI_at, if_pos ⟨rfl, rfl⟩], by rw [sI_at, if_pos ⟨rfl, rfl⟩]⟩⟩
          rw [show F9 = 999999997 + 1 + 1 + 1 from rfl, M_turned_L28, if_pos (show (0 : Int32) < 2 by decide), ml, if_pos p0, e2, show nI (2 * l - 2) + 0 = nI (2 * l - 2) from nI_add _ 0, chk_n _ (by omega) (by decide), nI_clamp (by omega), bnd_e, bnd_e, show (0 : Int32) + 1 = nI 1 by decide]
          rw [M_turned_L28, if_pos (show nI 1 < 2 by decide), ml2, if_pos p0, e2, nI_add, show 2 * l - 2 + 1 = 2 * l - 1 by omega, chk_n _ (by omega) (by decide), nI_clamp (by omega), bnd_e, bnd_e, nI_1, M_turned_L28, if_neg (show ¬ nI (1 + 1) < 2 by decide)]
        · refine ⟨M, ?_, SqX.rf, fun z => absurd z g⟩
          have p0 : ¬ (0 : Int32) < nI l := fun z => g ((nI_ltI (a := 0) (by omega) (by omega)).mp z)
          rw [show F9 = 999999999 + 1 from rfl, M_turned_L28, if_pos (show (0 : Int32) < 2 by decide), ml, if_neg p0]
      obtain ⟨M4, m1, m2, m3⟩ := start fun S4 => cav (M_findToCome F9 S4) fun S5 => M_turned_L84 F9 (nI w) y (fun S7 v8 v9 v10 v11 => (if y = 0 then some (v8, S7) else (if y = 1 then some (v9, S7) else (if y = 2 then some (v10, S7) else some (v11, S7))))) F9 S5 0 0 0 (-4) 0 0
      have hM : TM S M M n sh o d l := ⟨mn, mo, md, mq, ml, rfl, rfl⟩
      obtain ⟨M5, t1, t2, t3⟩ := tocome_e hp hsh o99 d99 l40 hrow (hM.x m2) m3
      have z0 : nI (wyM n (pwN S 0) 0) = 0 := rfl
      obtain ⟨S', M', r1, r2, r3, r4⟩ := turn_loop (p2 := y) (k6 := fun S7 v8 v9 v10 v11 => (if y = 0 then some (v8, S7) else (if y = 1 then some (v9, S7) else (if y = 2 then some (v10, S7) else some (v11, S7))))) hp hsh o99 d99 l40 hrow w4 l 0 F9 F9 0 S5 M5 0 0 (-4) 0 (by omega) (by unfold F9; omega) (by unfold F9; omega) (by omega) hU hN (by rw [← hS5]; simp [sI_at]) (by rw [← hS5]; simp [sI_at]) (by rw [← hS5]; simp [sI_at]) (by rw [← hS5]; simp [sI_at]) (m2.tr t2) ((hM.x m2).x t2) t3
      rw [z0, nI_0] at r2
      rw [nI_0] at r1
      have fin : Rel9 S' M' := rel_sq h ⟨fun a ha => r3.1 a (by omega) (by omega) (by omega), by rw [r3.2]⟩ ⟨r4.1, fun a ha => r4.2 a (by omega) (by omega) (by omega)⟩
      rw [eU, r1, cav_s, m1, t1, cav_s, r2]
      by_cases y0 : y = 0
      · rw [if_pos y0, if_pos y0]
        exact ⟨_, S', M', rfl, rfl, fin⟩
      by_cases y1 : y = 1
      · rw [if_neg y0, if_neg y0, if_pos y1, if_pos y1]
        exact ⟨_, S', M', rfl, rfl, fin⟩
      by_cases y2 : y = 2
      · rw [if_neg y0, if_neg y0, if_neg y1, if_neg y1, if_pos y2, if_pos y2]
        exact ⟨_, S', M', rfl, rfl, fin⟩
      · rw [if_neg y0, if_neg y0, if_neg y1, if_neg y1, if_neg y2, if_neg y2]
        exact ⟨_, S', M', rfl, rfl, fin⟩
    · rw [if_neg g2]
      refine ⟨-1, S, M, ?_, rfl, h⟩
      by_cases g3 : y.toInt < 0
      · rw [if_pos g3]
      · rw [if_neg g3, if_pos (by omega)]
  · rw [if_neg g1]
    refine ⟨-1, S, M, ?_, rfl, h⟩
    by_cases g3 : x.toInt < 0
    · rw [if_pos g3]
    · rw [if_neg g3, if_pos (by omega)]
