/-! B: text: send and step -/
theorem app9 {F l : Nat} {S : St} {v : Int32} (sl : S.1 9 4 = nI l) (hl : l < 40) : P_append F 9 S v = some (1, sI (sI S 11 l v) 9 4 (nI (l + 1))) := by
  have a1 : ¬ nI l < 0 := nI_pos (by omega)
  have a2 : nI l < 40 := (nI_ltI (b := 40) (by omega) (by omega)).mpr hl
  unfold P_append
  rw [sl, if_neg a1, if_pos a2, chk_n _ hl (by omega), bnd_e, nI_clamp (by omega)]
  simp only [bnd_e, sI_at]
  simp [sl, nI_1]
theorem DrR.app {n T l v : Nat} {S M : St} (h : DrR n T S M) (sl : S.1 9 4 = nI l) (hl : l < 40) (hv : v < 2 ^ n) (ht : T.testBit 5 = true ∨ T.testBit 6 = true) : DrR n T (sI (sI S 11 l (nI v)) 9 4 (nI (l + 1))) (sI (sI M 3 l (nI v)) 0 11 (nI (l + 1))) := by
  obtain ⟨n2, n8, d0, m0, ⟨o, o1, o2, o3⟩, ⟨d, d1, d2, d3⟩, ⟨h, h1, h2, h3, h4⟩, ⟨l', l1, l2, l3, l4, l5⟩, t1, t2, t3⟩ := h
  have e : l' = l := (nI_eq (by omega) (by omega)).mp (by rw [← l2, sl])
  subst e
  refine ⟨n2, n8, by simpa [sI_at] using d0, by simpa [sI_at] using m0, ⟨o, o1, by simpa [sI_at] using o2, by simpa [sI_at] using o3⟩, ⟨d, d1, by simpa [sI_at] using d2, by simpa [sI_at] using d3⟩, ⟨h, h1, by simpa [sI_at] using h2, by simpa [sI_at] using h3, h4⟩, ⟨l' + 1, by omega, by simp [sI_at], by simp [sI_at], fun k hk => ?_, fun a b => ?_⟩, t1, by simpa [sI_at] using t2, fun k hk => by simpa [sI_at] using t3 k hk⟩
  · by_cases g : k = l'
    · subst g
      exact ⟨v, hv, by simp [sI_at], by simp [sI_at]⟩
    · simpa [sI_at, g] using l4 k (by omega)
  · rcases ht with ht | ht
    · rw [a] at ht; cases ht
    · rw [b] at ht; cases ht
theorem line_send {B : Nat → Nat} {t n T : Nat} (b5 : T.testBit 5 = true) : ∀ (k f f' p j l : Nat) (S M : St), k + l = 40 → k + 1 < f → k + 1 < f' → j ≤ l → (j = 0 ∨ tkK B t p = 2) → S.1 9 4 = nI l → BN S B t → BM M B t → p ≤ t → S.1 7 5 = nI p → TokM M B t p → DrR n T S M → LO B t p T S M (R_readLine_L48 F9 (nI 5) f S (nI j)) (cav (M_readSend_L2 F9 f' M 1) fun S41 => endM F9 S41)
  | k, f + 1, f' + 2, p, j, l, S, M, hk, hf, hf', hj, hjk, sl, hN, hM, hp, h5, hT, hD => by
    have hE := tkE_x B hp
    have hs := tkS_x B hp
    obtain ⟨n2, n8, d0, m0, -, -, -, ⟨l', l1, l2, l3, l4, l5⟩, -⟩ := id hD
    have el : l' = l := (nI_eq (by omega) (by omega)).mp (by rw [← l2, sl])
    rw [el] at l3
    have hpw := pw_hi n8
    obtain ⟨S6, a1, a2, a3, a4⟩ := L48_e (f := f) (j := j) (nm := 5) hN hp h5 (by omega) (by omega)
    have e90 : S6.1 9 = S.1 9 := a1.1 9 (by decide)
    have tk : ∀ v, R_take F9 S6 (nI 5) (nI j) v = R_takeWord F9 S6 v := fun v => by
      unfold R_take
      rw [if_neg (show ¬ nI 5 = 1 by decide), if_neg (show ¬ nI 5 = 2 by decide), if_neg (show ¬ nI 5 = 3 by decide), if_neg (show ¬ nI 5 = 4 by decide), if_pos (show nI 5 = 5 from rfl)]
      cases R_takeWord F9 S6 v <;> rfl
    rw [show (if 5 = 6 then 3 else 1) = 1 from rfl, show (if 5 = 5 then 240 else 1) = 240 from rfl] at a4
    have n3 : ¬ (tkK B t p = 3 ∧ ¬ j < 1) := fun z => by omega
    rw [if_neg n3] at a4
    have stop : ∀ M', M_readSend_L2 F9 (f' + 1) M' 0 = some M' := fun M' => by rw [M_readSend_L2, if_pos rfl]
    -- a fault: the loop ends
    have bad : ∀ M' c s, Flt M' c s → (cav (M_next F9 M') fun S8 => (if (S8.1 0 20) = 0 then (if (S8.1 0 18) = 2 then M_readSend_L2 F9 (f' + 1) S8 1 else M_readSend_L2 F9 (f' + 1) S8 0) else M_readSend_L2 F9 (f' + 1) S8 0)) = some M' := fun M' c s fl => by
      rw [next_F fl, cav_s, if_neg fl.n0, stop]
    rw [M_readSend_L2, if_neg (show ¬ (1 : Int32) = 0 by decide), m0, pw_n n (by omega), pw_1 n8]
    simp only [jn_e]
    rcases isNumber_e (lo := 0) (hi := 2 ^ n - 1) (a := 0) (b := nI (2 ^ n - 1)) hT (by decide) (nI_toInt (by omega)) with ⟨k1, k2, k3, k4⟩ | ⟨k1, M1, k2, k3, k4, k5⟩
    · obtain ⟨h17, h20, h18, q1, q2, h16⟩ := hT.ok (by omega)
      have hv : tkV B t p < 2 ^ n := by have := Nat.two_pow_pos n; omega
      have vv := tkV_lt k1
      rw [a4, if_pos ⟨k1, by omega⟩, tk]
      unfold R_takeWord
      rw [P_isWord_e 9 n8 (by rw [e90, d0]), nI_toInt (by omega), if_pos (show (0 : Int) ≤ (tkV B t p : Int) ∧ (tkV B t p : Int) < 2 ^ n from ⟨by omega, by exact_mod_cast hv⟩), crd_s, if_neg (show ¬ (1 : Int32) = 0 by decide)]
      rw [k4, cav_s, if_pos h20, l3]
      have lt40 : nI l < 40 ↔ l < 40 := nI_ltI (b := 40) (by omega) (by omega)
      by_cases g : l < 40
      · obtain ⟨k', rfl⟩ : ∃ k', k = k' + 1 := ⟨k - 1, by omega⟩
        rw [app9 (by rw [e90, sl]) g, cal_s, if_neg (show ¬ (1 : Int32) = 0 by decide), cal_s, if_pos rfl, if_pos (lt40.mpr g), wants_1, cav_s, if_pos h20, l3, chk_n _ g (by decide), nI_clamp (by omega), q2 k1, bnd_e, bnd_e]
        rw [show (sI M 3 l (nI (tkV B t p))).1 0 11 + 1 = nI (l + 1) by rw [sI_row _ _ _ _ _ (by decide), l3, nI_1]]
        have fm : FM M (sI (sI M 3 l (nI (tkV B t p))) 0 11 (nI (l + 1))) := FM.s3.tr (FM.s0 (by omega))
        have fn : FN S (sI (sI S6 11 l (nI (tkV B t p))) 9 4 (nI (l + 1))) := a1.n.tr ((FN.s (by omega)).tr (FN.s (by omega)))
        have dr := (hD.t a1 FrR.rf).app (l := l) (v := tkV B t p) (by rw [e90, sl]) g hv (Or.inl b5)
        obtain ⟨M2, n1, n2', n3'⟩ := M_next_e (p := tkE B t p) (hM.fm fm) hE.2.1 (by rw [sI_at, if_neg (by decide), sI_row _ _ _ _ _ (by decide), h20]) (by rw [sI_at, if_neg (by decide), sI_row _ _ _ _ _ (by decide), h16])
        have dr2 := dr.t FrT.rf n2'
        have s5 : (sI (sI S6 11 l (nI (tkV B t p))) 9 4 (nI (l + 1))).1 7 5 = nI (tkE B t p) := by rw [sI_row _ _ _ _ _ (by decide), sI_row _ _ _ _ _ (by decide), a3]
        rw [n1, cav_s]
        by_cases gk : tkK B t (tkE B t p) = 2
        · obtain ⟨-, r20, r18, -⟩ := n3'.ok (by omega)
          rw [if_pos r20, r18, gk, if_pos (show nI 2 = 2 from rfl)]
          exact LO.mv (line_send b5 k' f (f' + 1) (tkE B t p) (j + 1) (l + 1) _ M2 (by omega) (by omega) (by omega) (by omega) (Or.inr gk) (by rw [sI_at, if_pos ⟨rfl, rfl⟩]) (hN.fn fn) ((hM.fm fm).fr n2') hE.2.1 s5 n3' dr2) (by omega) fn (fm.tr n2'.m)
        · have ex : (if M2.1 0 20 = 0 then (if M2.1 0 18 = 2 then M_readSend_L2 F9 (f' + 1) M2 1 else M_readSend_L2 F9 (f' + 1) M2 0) else M_readSend_L2 F9 (f' + 1) M2 0) = some M2 := by
            rw [stop]
            by_cases g4 : tkK B t (tkE B t p) = 4
            · rw [if_neg (n3'.f4 g4).n0]
            · obtain ⟨-, r20, r18, -⟩ := n3'.ok g4
              have kle := tkK_le B t (tkE B t p)
              have e2 : nI (tkK B t (tkE B t p)) = 2 ↔ tkK B t (tkE B t p) = 2 := nI_eq (b := 2) (by omega) (by omega)
              rw [if_pos r20, r18, if_neg (fun z => gk (e2.mp z))]
          rw [ex, cav_s]
          obtain ⟨f0, rfl⟩ : ∃ f0, f = f0 + 1 := ⟨f - 1, by omega⟩
          exact LO.mv (lineEnd (f := f0) (j := j + 1) (nm := 5) (hN.fn fn) ((hM.fm fm).fr n2') hE.2.1 s5 n3' dr2 (by omega) (by omega) (by rw [show (if 5 = 6 then 3 else 1) = 1 from rfl]; omega) (fun z => gk z.1)) (by omega) fn (fm.tr n2'.m)
      · have e40 : l = 40 := by omega
        subst e40
        obtain ⟨M', w1, w2, w3, w4⟩ := wants_bad (c := 5) (co := 5) (by omega) rfl h20 h17
        have ap : P_append F9 9 S6 (nI (tkV B t p)) = some (0, S6) := by
          unfold P_append
          rw [e90, sl, if_neg (by decide), if_neg (by decide)]
        rw [ap, cal_s, if_pos rfl, cal_s, if_neg (by decide), if_neg (by decide), w1, cav_s, if_neg w3.n0, bad M' _ _ w3, cav_s, endM_F w3]
        exact LO.bad (c0 := 5) a1.n w2.m w3 a2
    · rw [k2, cav_s, if_neg k4.n0, if_neg k4.n0, bad M1 _ _ k4, cav_s, endM_F k4, a4]
      by_cases g : tkK B t p = 2
      · have vv := tkV_lt g
        have hv : ¬ tkV B t p < 2 ^ n := fun z => k1 ⟨g, by omega, by omega⟩
        rw [g] at k4
        rw [if_pos ⟨g, by omega⟩, tk, R_takeWord, P_isWord_e 9 n8 (by rw [e90, d0]), nI_toInt (by omega), if_neg (fun z => hv (by have := z.2; exact_mod_cast this)), crd_s, if_pos rfl, cal_s, if_neg (by decide)]
        exact LO.bad (c0 := 3) a1.n k3.m k4 a2
      · rw [if_neg (fun z => g z.1), ← num_out g]
        exact LO.bad a1.n k3.m k4 a2
/-- the words of a step -/
def stV (n w s i : Nat) : Nat := (w + i * s) % 2 ^ n
theorem stV_lt (n w s i : Nat) : stV n w s i < 2 ^ n := Nat.mod_lt _ (Nat.two_pow_pos n)
theorem step_app {n T w s c l0 : Nat} (hw : w < 256) (hs : s < 256) (hc : c ≤ 40) (hl : l0 + c ≤ 40) (ht : T.testBit 5 = true ∨ T.testBit 6 = true) : ∀ (k i f f' : Nat) (S M : St), i + k = c → k < f → k < f' → DrR n T S M → S.1 9 4 = nI (l0 + i) → S.1 6 4 = nI w → S.1 6 5 = nI s → M.1 0 20 = 0 → ∃ S' M', R_takeSteps_L31 F9 (nI c) f S (nI i) = some (0, S') ∧ M_readStep_L70 F9 (nI w) (nI s) (nI c) f' M (nI i) = some M' ∧ FN S S' ∧ FM M M' ∧ S'.1 7 = S.1 7 ∧ (∀ k, 16 ≤ k → M'.1 0 k = M.1 0 k) ∧ DrR n T S' M'
  | 0, i, f + 1, f' + 1, S, M, hi, hf, hf', hD, h4, h6, h65, h20 => by
    refine ⟨S, M, ?_, ?_, FN.rf, FM.rf, rfl, fun _ _ => rfl, hD⟩
    · rw [R_takeSteps_L31, if_neg (by rw [nI_ltI (by omega) (by omega)]; omega)]
    · rw [M_readStep_L70, if_neg (by rw [nI_ltI (by omega) (by omega)]; omega)]
  | k + 1, i, f + 1, f' + 1, S, M, hi, hf, hf', hD, h4, h6, h65, h20 => by
    obtain ⟨n2, n8, d0, m0, -, -, -, ⟨l', l1, l2, l3, l4, l5⟩, -⟩ := id hD
    have el : l' = l0 + i := (nI_eq (by omega) (by omega)).mp (by rw [← l2, h4])
    rw [el] at l3
    have hpw := pw_hi n8
    have bpos := Nat.two_pow_pos n
    have big : i * s ≤ 40 * 256 := Nat.mul_le_mul (by omega) (by omega)
    have dr := hD.app (l := l0 + i) (v := stV n w s i) h4 (by omega) (stV_lt n w s i) ht
    have e1 : (nI w + nI i * nI s) &&& (nI (2 ^ n) - 1) = nI (stV n w s i) := by
      rw [pk_mul, nI_add, pw_1 n8, ni_and, Nat.and_two_pow_sub_one_eq_mod]; rfl
    have e2 : jrem (nI w + nI i * nI s) (nI (2 ^ n)) = nI (stV n w s i) := by
      rw [pk_mul, nI_add, jrn (by omega) bpos (by omega)]; rfl
    obtain ⟨S', M', a1, a2, a3, a4, a5, a6, a7⟩ := step_app hw hs hc hl ht k (i + 1) f f' _ _ (by omega) (by omega) (by omega) dr (by rw [sI_at, if_pos ⟨rfl, rfl⟩]; rfl) (by rw [sI_row _ _ _ _ _ (by decide), sI_row _ _ _ _ _ (by decide), h6]) (by rw [sI_row _ _ _ _ _ (by decide), sI_row _ _ _ _ _ (by decide), h65]) (by rw [sI_at, if_neg (by decide), sI_row _ _ _ _ _ (by decide), h20])
    refine ⟨S', M', ?_, ?_, ((FN.s (by omega)).tr (FN.s (by omega))).tr a3, (FM.s3.tr (FM.s0 (by omega))).tr a4, by rw [a5, sI_row _ _ _ _ _ (by decide), sI_row _ _ _ _ _ (by decide)], fun k hk => by rw [a6 k hk, sI_at, if_neg (by omega), sI_row _ _ _ _ _ (by decide)], a7⟩
    · rw [R_takeSteps_L31, if_pos (by rw [nI_ltI (by omega) (by omega)]; omega), P_words, d0, pw_n n (by omega), crd_s, h6, h65, e1, app9 h4 (by omega), cal_s, bnd_e, nI_1]
      exact a1
    · rw [M_readStep_L70, if_pos (by rw [nI_ltI (by omega) (by omega)]; omega), if_pos h20, m0, pw_n n (by omega), nz_t _ (nI_ne0 bpos (by omega)), l3, chk_n _ (by omega) (by decide), nI_clamp (by omega), e2, bnd_e, bnd_e, bnd_e, nI_1]
      rw [show (sI M 3 (l0 + i) (nI (stV n w s i))).1 0 11 + 1 = nI (l0 + i + 1) by rw [sI_row _ _ _ _ _ (by decide), l3, nI_1]]
      exact a2
theorem step_F {M : St} {c s : Nat} {v1 v3 v6 : Int32} (h : Flt M c s) : M_readStep_L70 F9 v1 v3 v6 F9 M 0 = some M := by
  rw [show F9 = 999999999 + 1 from rfl, M_readStep_L70]
  split
  · rw [if_neg h.n0]
  · rfl
theorem step_end {M : St} {c s : Nat} {v1 v3 v6 : Int32} (h : Flt M c s) : (cav (M_next F9 M) fun S9 => M_readStep_L70 F9 v1 v3 v6 F9 S9 0) = some M := by
  rw [next_F h, cav_s, step_F h]
theorem line_step {B : Nat → Nat} {t p n T f : Nat} {S M : St} (hN : BN S B t) (hM : BM M B t) (hp : p ≤ t) (h5 : S.1 7 5 = nI p) (hT : TokM M B t p) (hD : DrR n T S M) (b6 : T.testBit 6 = true) : LO B t p T S M (R_readLine_L48 F9 (nI 6) (f + 4) S 0) (cav (M_readStep F9 M) fun S42 => endM F9 S42) := by
  obtain ⟨n2, n8, d0, m0, -⟩ := id hD
  have hpw := pw_hi n8
  have bpos := Nat.two_pow_pos n
  have tk : ∀ S6 j v, R_take F9 S6 (nI 6) (nI j) v = R_takeStep F9 S6 (nI j) v := fun S6 j v => by
    unfold R_take
    rw [if_neg (show ¬ nI 6 = 1 by decide), if_neg (show ¬ nI 6 = 2 by decide), if_neg (show ¬ nI 6 = 3 by decide), if_neg (show ¬ nI 6 = 4 by decide), if_neg (show ¬ nI 6 = 5 by decide)]
    cases R_takeStep F9 S6 (nI j) v <;> rfl
  have few : (if 6 = 6 then 3 else 1) = 3 := rfl
  have most : (if 6 = 5 then 240 else 3) = 3 := rfl
  have hE := tkE_x B hp
  -- the word
  obtain ⟨S6, a1, a2, a3, a4⟩ := L48_e (f := f + 3) (j := 0) (nm := 6) hN hp h5 (by omega) (by omega)
  rw [few, most, nI_0, if_neg (fun z => z.2 (by omega))] at a4
  have e90 : S6.1 9 = S.1 9 := a1.1 9 (by decide)
  unfold M_readStep
  rw [a4, m0, pw_n n (by omega), pw_1 n8]
  rcases readNumber_e (lo := 0) (hi := 2 ^ n - 1) (a := 0) (b := nI (2 ^ n - 1)) hM hp hT (by decide) (nI_toInt (by omega)) with ⟨k1, k2, k3, M1, m1, m2, m3⟩ | ⟨k1, v, M1, m1, m2, m3⟩
  · have hv : tkV B t p < 2 ^ n := by omega
    generalize hw : tkV B t p = w at *
    have t0 : R_take F9 S6 (nI 6) 0 (nI w) = some (0, sI S6 6 4 (nI w)) := by
      rw [show (0 : Int32) = nI 0 from rfl, tk]
      unfold R_takeStep
      rw [if_pos (show nI 0 = 0 from rfl), bnd_e, P_isWord_e 9 n8 (by rw [sI_row _ _ _ _ _ (by decide), e90, d0]), nI_toInt (by omega), if_pos (show (0 : Int) ≤ (w : Int) ∧ (w : Int) < 2 ^ n from ⟨by omega, by exact_mod_cast hv⟩), crd_s, if_neg (show ¬ (1 : Int32) = 0 by decide)]
      rfl
    rw [if_pos ⟨k1, by omega⟩, t0, cal_s, if_pos rfl, m1, cal_s]
    have fn1 : FN S (sI S6 6 4 (nI w)) := a1.n.tr (FN.s (by omega))
    have dr1 : DrR n T (sI S6 6 4 (nI w)) M1 := (hD.t a1 m2).fr (sI_row _ _ _ _ _ (by decide)) (sI_row _ _ _ _ _ (by decide)) (by rw [sI_at, if_neg (by decide)]) (fun _ _ _ => rfl) rfl rfl
    have hN1 := hN.fn fn1
    have hM1 := hM.fr m2
    have p1 := hE.2.1
    -- the stride
    refine LO.mv (p := tkE B t p) (S := sI S6 6 4 (nI w)) (M := M1) ?_ (by have := tkS_x B hp; omega) fn1 m2.m
    generalize hp1 : tkE B t p = p1' at *
    have hE1 := tkE_x B p1
    obtain ⟨S7, b1, b2, b3, b4⟩ := L48_e (f := f + 2) (j := 1) (nm := 6) hN1 p1 (by rw [sI_row _ _ _ _ _ (by decide), a3]) (by omega) (by omega)
    rw [few, most, if_neg (fun z => z.2 (by omega))] at b4
    rw [show nI (0 + 1) = nI 1 from rfl, b4]
    rcases readNumber_e (lo := 0) (hi := 255) (a := 0) (b := 255) hM1 p1 m3 (by decide) (by decide) with ⟨c1, c2, c3, M2, q1, q2, q3⟩ | ⟨c1, v, M2, q1, q2, q3⟩
    · generalize hst : tkV B t p1' = st at *
      have t1 : R_take F9 S7 (nI 6) (nI 1) (nI st) = some (0, sI S7 6 5 (nI st)) := by
        rw [tk]
        unfold R_takeStep
        rw [if_neg (show ¬ nI 1 = 0 by decide), if_pos (show nI 1 = 1 from rfl), bnd_e, if_neg (show ¬ 255 < nI st by rw [show (255 : Int32) = nI 255 from rfl, nI_ltI (by omega) (by omega)]; omega)]
      rw [if_pos ⟨c1, by omega⟩, t1, cal_s, if_pos rfl, q1, cal_s]
      have fn2 : FN (sI S6 6 4 (nI w)) (sI S7 6 5 (nI st)) := b1.n.tr (FN.s (by omega))
      have dr2 : DrR n T (sI S7 6 5 (nI st)) M2 := (dr1.t b1 q2).fr (sI_row _ _ _ _ _ (by decide)) (sI_row _ _ _ _ _ (by decide)) (by rw [sI_at, if_neg (by decide)]) (fun _ _ _ => rfl) rfl rfl
      have hN2 := hN1.fn fn2
      have hM2 := hM1.fr q2
      have p2 := hE1.2.1
      have w4 : (sI S7 6 5 (nI st)).1 6 4 = nI w := by rw [sI_at, if_neg (by decide), b1.1 6 (by decide), sI_at, if_pos ⟨rfl, rfl⟩]
      have w5 : (sI S7 6 5 (nI st)).1 6 5 = nI st := by rw [sI_at, if_pos ⟨rfl, rfl⟩]
      -- the count
      refine LO.mv (p := tkE B t p1') (S := sI S7 6 5 (nI st)) (M := M2) ?_ (by have := tkS_x B p1; omega) fn2 q2.m
      generalize hp2 : tkE B t p1' = p2' at *
      have hE2 := tkE_x B p2
      obtain ⟨S8, e1, e2, e3, e4⟩ := L48_e (f := f + 1) (j := 2) (nm := 6) hN2 p2 (by rw [sI_row _ _ _ _ _ (by decide), b3]) (by omega) (by omega)
      rw [few, most, if_neg (fun z => z.2 (by omega))] at e4
      rw [show nI (1 + 1) = nI 2 from rfl, e4]
      obtain ⟨-, -, -, -, -, -, -, ⟨l, l1, l2, l3, -⟩, -⟩ := id dr2
      have e98 : S8.1 9 = (sI S7 6 5 (nI st)).1 9 := e1.1 9 (by decide)
      have tkS3 : ∀ v, R_take F9 S8 (nI 6) (nI 2) v = R_takeSteps F9 S8 v := fun v => by
        rw [tk]
        unfold R_takeStep
        rw [if_neg (show ¬ nI 2 = 0 by decide), if_neg (show ¬ nI 2 = 1 by decide)]
        cases R_takeSteps F9 S8 v <;> rfl
      simp only [jn_e]
      rcases isNumber_e (lo := 1) (hi := 40) (a := 1) (b := 40) q3 (by decide) (by decide) with ⟨g1, g2, g3, g4⟩ | ⟨g1, M3, g2, g3, g4, g5⟩
      · obtain ⟨h17, h20, h18, x1, x2, h16⟩ := q3.ok (by omega)
        generalize hc : tkV B t p2' = c at *
        rw [if_pos ⟨g1, by omega⟩, tkS3, R_takeSteps, if_neg (show ¬ nI c < 1 by rw [show (1 : Int32) = nI 1 from rfl, nI_ltI (by omega) (by omega)]; omega), if_neg (show ¬ 40 < nI c by rw [show (40 : Int32) = nI 40 from rfl, nI_ltI (by omega) (by omega)]; omega), e98, l2, nI_add, g4, cav_s, bnd_e, x2 g1, if_pos h20, l3, nI_add]
        have lt40 : (40 : Int32) < nI (l + c) ↔ 40 < l + c := nI_ltI (a := 40) (by omega) (by omega)
        by_cases g : 40 < l + c
        · obtain ⟨M', w1, w2, w3, -⟩ := wants_bad (c := 5) (co := 5) (by omega) rfl h20 h17
          rw [if_pos (lt40.mpr g), if_pos (lt40.mpr g), w1, cav_s, step_end w3, cav_s, endM_F w3, cal_s, if_neg (by decide)]
          exact LO.bad (c0 := 5) e1.n w2.m w3 e2
        · rw [if_neg (fun z => g (lt40.mp z)), if_neg (fun z => g (lt40.mp z)), wants_1, cav_s]
          obtain ⟨M4, n1, n2', n3⟩ := M_next_e (p := tkE B t p2') hM2 hE2.2.1 h20 h16
          rw [n1, cav_s]
          have dr8 : DrR n T S8 M4 := dr2.t e1 n2'
          have hst' : st < 256 := by omega
          have s4 : S8.1 6 4 = nI w := by rw [e1.1 6 (by decide), w4]
          have s5 : S8.1 6 5 = nI st := by rw [e1.1 6 (by decide), w5]
          have l8 : S8.1 9 4 = nI (l + 0) := by rw [e98, l2]; rfl
          by_cases g4k : tkK B t (tkE B t p2') = 4
          · -- the next token can't be read: the reference stops ahead of the words
            have fl := n3.f4 g4k
            have nof : ∃ Mx, DrR n T S8 Mx ∧ Mx.1 0 20 = 0 := ⟨M2, dr2.t e1 FrR.rf, h20⟩
            obtain ⟨Mx, dx, x20⟩ := nof
            obtain ⟨S9, My, y1, -, y3, -, y5, -, -⟩ := step_app (w := w) (s := st) (c := c) (l0 := l) (by omega) hst' (by omega) (by omega) (Or.inr b6) c 0 F9 F9 S8 Mx (by omega) (by unfold F9; omega) (by unfold F9; omega) dx l8 s4 s5 x20
            have y1' : R_takeSteps_L31 F9 (nI c) F9 S8 0 = some (0, S9) := y1
            rw [y1', cal_s, if_pos rfl, step_F fl, cav_s, endM_F fl]
            obtain ⟨S10, z1, z2, z3, z4⟩ := L48_e (f := f) (j := 2 + 1) (nm := 6) ((hN2.fr e1).fn y3) hE2.2.1 (by rw [y5, e3]) (by omega) (by omega)
            rw [z4, if_neg (fun z => by omega), if_neg (fun z => by omega), g4k]
            exact LO.bad (c0 := 1) ((e1.n.tr y3).tr z1.n) n2'.m fl z2 (tkS_x B hE2.2.1).2
          · obtain ⟨-, r20, -⟩ := n3.ok g4k
            obtain ⟨S9, M5, y1, y2, y3, y4, y5, y6, y7⟩ := step_app (w := w) (s := st) (c := c) (l0 := l) (by omega) hst' (by omega) (by omega) (Or.inr b6) c 0 F9 F9 S8 M4 (by omega) (by unfold F9; omega) (by unfold F9; omega) dr8 l8 s4 s5 r20
            have y1' : R_takeSteps_L31 F9 (nI c) F9 S8 0 = some (0, S9) := y1
            have y2' : M_readStep_L70 F9 (nI w) (nI st) (nI c) F9 M4 0 = some M5 := y2
            rw [y1', y2', cal_s, if_pos rfl, cav_s]
            exact LO.mv (lineEnd (f := f) (j := 2 + 1) (nm := 6) ((hN2.fr e1).fn y3) ((hM2.fr n2').fm y4) hE2.2.1 (by rw [y5, e3]) (n3.s fun k k1 _ => y6 k k1) y7 (by omega) (by omega) (by decide) (fun z => absurd z.2 (by decide))) (by have := tkS_x B p2; omega) (e1.n.tr y3) (n2'.m.tr y4)
      · rw [g2, cav_s, bnd_e, if_neg g4.n0, step_end g4, cav_s, endM_F g4]
        by_cases g : tkK B t p2' = 2
        · have vv := tkV_lt g
          rw [g] at g4
          have bad : R_takeSteps F9 S8 (nI (tkV B t p2')) = some (3, S8) := by
            unfold R_takeSteps
            by_cases c0 : tkV B t p2' < 1
            · rw [if_pos (show nI (tkV B t p2') < 1 from (nI_ltI (b := 1) (by omega) (by omega)).mpr c0)]
            · rw [if_neg (show ¬ nI (tkV B t p2') < 1 by rw [show (1 : Int32) = nI 1 from rfl, nI_ltI (by omega) (by omega)]; exact c0), if_pos (show 40 < nI (tkV B t p2') from (nI_ltI (a := 40) (by omega) (by omega)).mpr (by omega))]
          rw [if_pos ⟨g, by omega⟩, tkS3, bad, cal_s, if_neg (by decide)]
          exact LO.bad (c0 := 3) e1.n g3.m g4 e2
        · rw [if_neg (fun z => g z.1), ← num_out g]
          exact LO.bad e1.n g3.m g4 e2
    · rw [q1, cal_s, isNumber_F q3, cav_s, bnd_e]
      simp only [jn_e]
      rw [if_neg q3.n0, step_end q3, cav_s, endM_F q3]
      by_cases g : tkK B t p1' = 2
      · have vv := tkV_lt g
        rw [g] at q3
        have t1 : R_take F9 S7 (nI 6) (nI 1) (nI (tkV B t p1')) = some (3, sI S7 6 5 (nI (tkV B t p1'))) := by
          rw [tk]
          unfold R_takeStep
          rw [if_neg (show ¬ nI 1 = 0 by decide), if_pos (show nI 1 = 1 from rfl), bnd_e, if_pos (show 255 < nI (tkV B t p1') from (nI_ltI (a := 255) (by omega) (by omega)).mpr (by omega))]
        rw [if_pos ⟨g, by omega⟩, t1, cal_s, if_neg (by decide)]
        exact LO.bad (c0 := 3) (b1.n.tr (FN.s (by omega))) q2.m q3 (by rw [sI_row _ _ _ _ _ (by decide), b2])
      · rw [if_neg (fun z => g z.1), ← num_out g]
        exact LO.bad b1.n q2.m q3 b2
  · rw [m1, cal_s, readNumber_F m3, cal_s, isNumber_F m3, cav_s, bnd_e]
    simp only [jn_e]
    rw [if_neg m3.n0, step_end m3, cav_s, endM_F m3]
    by_cases g : tkK B t p = 2
    · have vv := tkV_lt g
      have hv : ¬ tkV B t p < 2 ^ n := fun z => k1 ⟨g, by omega, by omega⟩
      rw [g] at m3
      have t0 : R_take F9 S6 (nI 6) 0 (nI (tkV B t p)) = some (3, sI S6 6 4 (nI (tkV B t p))) := by
        rw [show (0 : Int32) = nI 0 from rfl, tk]
        unfold R_takeStep
        rw [if_pos (show nI 0 = 0 from rfl), bnd_e, P_isWord_e 9 n8 (by rw [sI_row _ _ _ _ _ (by decide), e90, d0]), nI_toInt (by omega), if_neg (fun z => hv (by have := z.2; exact_mod_cast this)), crd_s, if_pos rfl]
      rw [if_pos ⟨g, by omega⟩, t0, cal_s, if_neg (by decide)]
      exact LO.bad (c0 := 3) (a1.n.tr (FN.s (by omega))) m2.m m3 (by rw [sI_row _ _ _ _ _ (by decide), a2])
    · rw [if_neg (fun z => g z.1), ← num_out g]
      exact LO.bad a1.n m2.m m3 a2
