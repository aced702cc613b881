/-! B: text: lines -/
def DrR (n T : Nat) (S M : St) : Prop := 2 ≤ n ∧ n ≤ 8 ∧ S.1 9 0 = nI n ∧ M.1 0 7 = nI n ∧ (∃ o, o ≤ 99 ∧ S.1 9 1 = nI o ∧ M.1 0 8 = nI o) ∧ (∃ d, d ≤ 99 ∧ S.1 9 2 = nI d ∧ M.1 0 9 = nI d) ∧ (∃ h, h < 2 ^ (n - 1) ∧ S.1 9 3 = nI h ∧ M.1 0 10 = nI h ∧ (T.testBit 4 = false → h = 0)) ∧ (∃ l, l ≤ 40 ∧ S.1 9 4 = nI l ∧ M.1 0 11 = nI l ∧ (∀ k, k < l → ∃ v, v < 2 ^ n ∧ S.1 11 k = nI v ∧ M.1 3 k = nI v) ∧ (T.testBit 5 = false → T.testBit 6 = false → l = 0)) ∧ T < 128 ∧ S.1 6 3 = nI T ∧ ∀ k, k < 6 → M.1 4 k = nI (if T.testBit (k + 1) = true then 1 else 0)
theorem DrR.fr {n T : Nat} {S M S' M' : St} (h : DrR n T S M) (e9 : S'.1 9 = S.1 9) (e11 : S'.1 11 = S.1 11) (e6 : S'.1 6 3 = S.1 6 3) (m0 : ∀ k, 7 ≤ k → k < 12 → M'.1 0 k = M.1 0 k) (m3 : M'.1 3 = M.1 3) (m4 : M'.1 4 = M.1 4) : DrR n T S' M' := by
  unfold DrR at *
  rw [e9, e11, e6, m3, m4, m0 7 (by omega) (by omega), m0 8 (by omega) (by omega), m0 9 (by omega) (by omega), m0 10 (by omega) (by omega), m0 11 (by omega) (by omega)]
  exact h
theorem DrR.t {n T : Nat} {S M S' M' : St} (h : DrR n T S M) (f : FrT S S') (g : FrR M M') : DrR n T S' M' := h.fr (f.1 9 (by decide)) (f.1 11 (by decide)) (by rw [f.1 6 (by decide)]) (fun k h1 h2 => g.2 k (by omega)) (g.1 3 (by decide)) (g.1 4 (by decide))
def FN (S S' : St) : Prop := (∀ a, a ≠ 6 → a ≠ 7 → a ≠ 9 → a ≠ 11 → S'.1 a = S.1 a) ∧ S'.1 7 0 = S.1 7 0 ∧ S'.2 = S.2
theorem FN.rf {S : St} : FN S S := ⟨fun _ _ _ _ _ => rfl, rfl, rfl⟩
theorem FN.tr {S T U : St} (h : FN S T) (g : FN T U) : FN S U := ⟨fun a a1 a2 a3 a4 => (g.1 a a1 a2 a3 a4).trans (h.1 a a1 a2 a3 a4), g.2.1.trans h.2.1, g.2.2.trans h.2.2⟩
theorem FrT.n {S S' : St} (h : FrT S S') : FN S S' := ⟨fun a _ a7 _ _ => h.1 a a7, h.2.1 0 (by decide) (by decide) (by decide) (by decide), h.2.2⟩
theorem FN.s {S : St} {q k : Nat} {v : Int32} (h : q = 6 ∨ q = 9 ∨ q = 11) : FN S (sI S q k v) := ⟨fun a a6 a7 a9 a11 => sI_row _ _ _ _ _ (by omega), by rw [sI_row _ _ _ _ _ (by omega)], rfl⟩
theorem BN.fn {S S' : St} {B : Nat → Nat} {t : Nat} (h : BN S B t) (f : FN S S') : BN S' B t := by
  unfold BN at *
  rw [f.2.1, f.1 8 (by decide) (by decide) (by decide) (by decide)]
  exact h
theorem TokM.s {M M' : St} {B : Nat → Nat} {t p : Nat} (h : TokM M B t p) (e : ∀ k, 16 ≤ k → k ≤ 21 → M'.1 0 k = M.1 0 k) : TokM M' B t p := by
  unfold TokM at *
  rw [e 17 (by omega) (by omega), e 20 (by omega) (by omega), e 21 (by omega) (by omega), e 18 (by omega) (by omega), e 19 (by omega) (by omega), e 16 (by omega) (by omega)]
  exact h
def LO (B : Nat → Nat) (t p T : Nat) (S M : St) (rN : Option (Int32 × St)) (rM : Option St) : Prop := ∃ c S' M', rN = some (c, S') ∧ rM = some M' ∧ FN S S' ∧ FM M M' ∧ ((c = 0 ∧ ∃ p' n', p ≤ p' ∧ p' ≤ t ∧ S'.1 7 5 = nI p' ∧ TokM M' B t p' ∧ DrR n' T S' M') ∨ ∃ c0 s, c = nI c0 ∧ s ≤ t ∧ Flt M' c0 s ∧ S'.1 7 2 = nI s)
theorem LO.mv {B : Nat → Nat} {t p p0 T : Nat} {S S0 M M0 : St} {rN : Option (Int32 × St)} {rM : Option St} (h : LO B t p T S M rN rM) (hp : p0 ≤ p) (f : FN S0 S) (g : FM M0 M) : LO B t p0 T S0 M0 rN rM := by
  obtain ⟨c, S', M', a1, a2, a3, a4, a5⟩ := h
  refine ⟨c, S', M', a1, a2, f.tr a3, g.tr a4, ?_⟩
  rcases a5 with ⟨b1, p', n', b2, b3⟩ | a5
  · exact Or.inl ⟨b1, p', n', by omega, b3⟩
  · exact Or.inr a5
theorem LO.bad {B : Nat → Nat} {t p T c0 s : Nat} {S M S' M' : St} (f : FN S S') (g : FM M M') (h : Flt M' c0 s) (h2 : S'.1 7 2 = nI s) (hs : s ≤ t := by exact (tkS_x _ (by assumption)).2) : LO B t p T S M (some (nI c0, S')) (some M') := ⟨_, S', M', rfl, rfl, f, g, Or.inr ⟨c0, s, rfl, hs, h, h2⟩⟩
theorem lineEnd {B : Nat → Nat} {t p j nm n T f : Nat} {S M : St} (hN : BN S B t) (hM : BM M B t) (hp : p ≤ t) (h5 : S.1 7 5 = nI p) (hT : TokM M B t p) (hD : DrR n T S M) (hn : 1 ≤ nm ∧ nm ≤ 6) (hj : j ≤ 240) (hf : ¬ j < (if nm = 6 then 3 else 1)) (hm : ¬ (tkK B t p = 2 ∧ j < (if nm = 5 then 240 else if nm = 6 then 3 else 1))) : LO B t p T S M (R_readLine_L48 F9 (nI nm) (f + 1) S (nI j)) (endM F9 M) := by
  obtain ⟨S6, a1, a2, a3, a4⟩ := L48_e (f := f) hN hp h5 hj hn
  obtain ⟨M', b1, b2, b3⟩ := endM_e hM hp hT
  have hE := tkE_x B hp
  have hs := tkS_x B hp
  rw [a4, b1, if_neg hm]
  rcases b3 with ⟨c1, c2⟩ | ⟨c1, c2⟩
  · rw [if_pos ⟨c1, hf⟩]
    exact ⟨0, S6, M', rfl, rfl, a1.n, b2.m, Or.inl ⟨rfl, tkE B t p, n, by omega, hE.2.1, a3, c2, hD.t a1 b2⟩⟩
  · rw [if_neg (fun z => c1 z.1)]
    exact LO.bad a1.n b2.m c2 a2
theorem num_out {K : Nat} (h : K ≠ 2) : numC K = outC K := by
  unfold numC outC
  rw [if_neg h]
/-- a line of one number -/
theorem line1 {B : Nat → Nat} {t p nm T lo hi f : Nat} {S M : St} {a b : Int32} {put : Int32 → St → St} (hnm : nm = 1 ∨ nm = 2 ∨ nm = 3) (hN : BN S B t) (hM : BM M B t) (hp : p ≤ t) (h5 : S.1 7 5 = nI p) (hT : TokM M B t p) (ha : a.toInt = lo) (hb : b.toInt = hi) (hput : ∀ v M, FM M (put v M) ∧ ∀ k, 16 ≤ k → k ≤ 21 → (put v M).1 0 k = M.1 0 k) (good : ∀ S6 M1, FrT S S6 → FrR M M1 → lo ≤ tkV B t p → tkV B t p ≤ hi → ∃ S7 n', R_take F9 S6 (nI nm) 0 (nI (tkV B t p)) = some (0, S7) ∧ FN S6 S7 ∧ S7.1 7 = S6.1 7 ∧ DrR n' T S7 (put (nI (tkV B t p)) M1)) (poor : ∀ S6, FrT S S6 → ¬ (lo ≤ tkV B t p ∧ tkV B t p ≤ hi) → tkV B t p < 1000 → ∃ S7, R_take F9 S6 (nI nm) 0 (nI (tkV B t p)) = some (3, S7) ∧ FN S6 S7 ∧ S7.1 7 = S6.1 7) : LO B t p T S M (R_readLine_L48 F9 (nI nm) (f + 2) S 0) (cal (M_readNumber F9 M a b) fun v S22 => bnd (put v S22) fun S23 => endM F9 S23) := by
  have hE := tkE_x B hp
  have hs := tkS_x B hp
  obtain ⟨S6, a1, a2, a3, a4⟩ := L48_e (f := f + 1) (j := 0) (nm := nm) hN hp h5 (by omega) (by omega)
  have few : (if nm = 6 then 3 else 1) = 1 := if_neg (by omega)
  have most : (if nm = 5 then 240 else if nm = 6 then 3 else 1) = 1 := by rw [if_neg (by omega), if_neg (by omega)]
  have most0 : (if nm = 5 then 240 else 1) = 1 := if_neg (by omega)
  rw [nI_0, few, most0, if_neg (fun z => z.2 (by omega))] at a4
  rw [a4]
  rcases readNumber_e hM hp hT ha hb with ⟨k1, k2, k3, M1, m1, m2, m3⟩ | ⟨k1, v, M1, m1, m2, m3⟩
  · obtain ⟨S7, n', g1, g2, g3, g4⟩ := good S6 M1 a1 m2 k2 k3
    rw [if_pos ⟨k1, by omega⟩, g1, cal_s, if_pos rfl, m1, cal_s, bnd_e]
    have hq := hput (nI (tkV B t p)) M1
    exact LO.mv (lineEnd (f := f) (j := 0 + 1) (nm := nm) ((hN.fr a1).fn g2) ((hM.fr m2).fm hq.1) hE.2.1 (by rw [g3, a3]) (m3.s hq.2) g4 (by omega) (by omega) (by rw [few]; omega) (by rw [most]; omega)) (by omega) (a1.n.tr g2) (m2.m.tr hq.1)
  · have hq := hput v M1
    have fl : Flt (put v M1) (numC (tkK B t p)) (tkS B t p) := m3.fr (hq.2 20 (by omega) (by omega)) (hq.2 21 (by omega) (by omega))
    rw [m1, cal_s, bnd_e, endM_F fl]
    by_cases g : tkK B t p = 2
    · obtain ⟨S7, g1, g2, g3⟩ := poor S6 a1 (fun z => k1 ⟨g, z⟩) (tkV_lt g)
      rw [if_pos ⟨g, by omega⟩, g1, cal_s, if_neg (by decide)]
      rw [g] at fl
      exact LO.bad (c0 := 3) (a1.n.tr g2) (m2.m.tr hq.1) fl (by rw [g3, a2])
    · rw [if_neg (fun z => g z.1), ← num_out g]
      exact LO.bad a1.n (m2.m.tr hq.1) fl a2
theorem take_1 {F : Nat} {S : St} {j v : Int32} : R_take F S (nI 1) j v = R_takeWires F S v := by
  unfold R_take
  rw [if_pos (show nI 1 = 1 from rfl)]
  unfold R_takeWires
  split
  · rfl
  · split <;> rfl
theorem line_wires {B : Nat → Nat} {t p n T f : Nat} {S M : St} (hN : BN S B t) (hM : BM M B t) (hp : p ≤ t) (h5 : S.1 7 5 = nI p) (hT : TokM M B t p) (hD : DrR n T S M) (b4 : T.testBit 4 = false) (b5 : T.testBit 5 = false) (b6 : T.testBit 6 = false) : LO B t p T S M (R_readLine_L48 F9 (nI 1) (f + 2) S 0) (cal (M_readNumber F9 M 2 8) fun v21 S22 => bnd (sI S22 0 7 v21) fun S23 => endM F9 S23) := by
  refine line1 (put := fun v M => sI M 0 7 v) (lo := 2) (hi := 8) (Or.inl rfl) hN hM hp h5 hT (by decide) (by decide) (fun v M => ⟨FM.s0 (by omega), fun k h1 h2 => by rw [sI_at, if_neg (by omega)]⟩) (fun S6 M1 f1 f2 v1 v2 => ?_) (fun S6 f1 v1 v2 => ?_)
  · generalize tkV B t p = v at v1 v2
    refine ⟨sI S6 9 0 (nI v), v, ?_, FN.s (by omega), sI_row _ _ _ _ _ (by decide), ?_⟩
    · rw [take_1]
      unfold R_takeWires
      rw [if_neg (show ¬ nI v < 2 by rw [show (2 : Int32) = nI 2 from rfl, nI_ltI (by omega) (by omega)]; omega), if_neg (show ¬ 8 < nI v by rw [show (8 : Int32) = nI 8 from rfl, nI_ltI (by omega) (by omega)]; omega), bnd_e]
    · obtain ⟨n2, n8, d0, m0, ⟨o, o1, o2, o3⟩, ⟨d, d1, d2, d3⟩, ⟨h, h1, h2, h3, h4⟩, ⟨l, l1, l2, l3, l4, l5⟩, t1, t2, t3⟩ := hD.t f1 f2
      have eh := h4 b4
      have el := l5 b5 b6
      subst eh el
      refine ⟨v1, v2, by rw [sI_at, if_pos ⟨rfl, rfl⟩], by rw [sI_at, if_pos ⟨rfl, rfl⟩], ⟨o, o1, by rw [sI_at, if_neg (by decide), o2], by rw [sI_at, if_neg (by decide), o3]⟩, ⟨d, d1, by rw [sI_at, if_neg (by decide), d2], by rw [sI_at, if_neg (by decide), d3]⟩, ⟨0, Nat.two_pow_pos _, by rw [sI_at, if_neg (by decide), h2], by rw [sI_at, if_neg (by decide), h3], fun _ => rfl⟩, ⟨0, by omega, by rw [sI_at, if_neg (by decide), l2], by rw [sI_at, if_neg (by decide), l3], fun k hk => absurd hk (Nat.not_lt_zero k), fun _ _ => rfl⟩, t1, by rw [sI_row _ _ _ _ _ (by decide), t2], fun k hk => by rw [sI_row _ _ _ _ _ (by decide), t3 k hk]⟩
  · generalize tkV B t p = v at v1 v2
    refine ⟨S6, ?_, FN.rf, rfl⟩
    rw [take_1]
    unfold R_takeWires
    by_cases g : v < 2
    · rw [if_pos (show nI v < 2 from (nI_ltI (b := 2) (by omega) (by omega)).mpr g)]
    · rw [if_neg (show ¬ nI v < 2 by rw [show (2 : Int32) = nI 2 from rfl, nI_ltI (by omega) (by omega)]; omega), if_pos (show 8 < nI v from (nI_ltI (a := 8) (by omega) (by omega)).mpr (by omega))]
theorem line_own {B : Nat → Nat} {t p n T f : Nat} {S M : St} (hN : BN S B t) (hM : BM M B t) (hp : p ≤ t) (h5 : S.1 7 5 = nI p) (hT : TokM M B t p) (hD : DrR n T S M) : LO B t p T S M (R_readLine_L48 F9 (nI 2) (f + 2) S 0) (cal (M_readNumber F9 M 0 99) fun v21 S22 => bnd (sI S22 0 8 v21) fun S23 => endM F9 S23) := by
  have tk : ∀ S6 v, R_take F9 S6 (nI 2) 0 v = bnd (sI S6 9 1 v) fun S4 => (if 99 < v then some (3, S4) else some (0, S4)) := fun S6 v => by
    unfold R_take
    rw [if_neg (show ¬ nI 2 = 1 by decide), if_pos (show nI 2 = 2 from rfl)]
  refine line1 (put := fun v M => sI M 0 8 v) (lo := 0) (hi := 99) (Or.inr (Or.inl rfl)) hN hM hp h5 hT (by decide) (by decide) (fun v M => ⟨FM.s0 (by omega), fun k h1 h2 => by rw [sI_at, if_neg (by omega)]⟩) (fun S6 M1 f1 f2 v1 v2 => ?_) (fun S6 f1 v1 v2 => ?_)
  · generalize tkV B t p = v at v1 v2
    refine ⟨sI S6 9 1 (nI v), n, ?_, FN.s (by omega), sI_row _ _ _ _ _ (by decide), ?_⟩
    · rw [tk, bnd_e, if_neg (show ¬ 99 < nI v by rw [show (99 : Int32) = nI 99 from rfl, nI_ltI (by omega) (by omega)]; omega)]
    · obtain ⟨n2, n8, d0, m0, ⟨o, o1, o2, o3⟩, ⟨d, d1, d2, d3⟩, ⟨h, h1, h2, h3, h4⟩, ⟨l, l1, l2, l3, l4, l5⟩, t1, t2, t3⟩ := hD.t f1 f2
      refine ⟨n2, n8, by rw [sI_at, if_neg (by decide), d0], by rw [sI_at, if_neg (by decide), m0], ⟨v, v2, by rw [sI_at, if_pos ⟨rfl, rfl⟩], by rw [sI_at, if_pos ⟨rfl, rfl⟩]⟩, ⟨d, d1, by rw [sI_at, if_neg (by decide), d2], by rw [sI_at, if_neg (by decide), d3]⟩, ⟨h, h1, by rw [sI_at, if_neg (by decide), h2], by rw [sI_at, if_neg (by decide), h3], h4⟩, ⟨l, l1, by rw [sI_at, if_neg (by decide), l2], by rw [sI_at, if_neg (by decide), l3], fun k hk => by rw [sI_row _ _ _ _ _ (by decide), sI_row _ _ _ _ _ (by decide)]; exact l4 k hk, l5⟩, t1, by rw [sI_row _ _ _ _ _ (by decide), t2], fun k hk => by rw [sI_row _ _ _ _ _ (by decide), t3 k hk]⟩
  · generalize tkV B t p = v at v1 v2
    exact ⟨sI S6 9 1 (nI v), by rw [tk, bnd_e, if_pos (show 99 < nI v from (nI_ltI (a := 99) (by omega) (by omega)).mpr (by omega))], FN.s (by omega), sI_row _ _ _ _ _ (by decide)⟩
theorem line_side {B : Nat → Nat} {t p n T f : Nat} {S M : St} (hN : BN S B t) (hM : BM M B t) (hp : p ≤ t) (h5 : S.1 7 5 = nI p) (hT : TokM M B t p) (hD : DrR n T S M) : LO B t p T S M (R_readLine_L48 F9 (nI 3) (f + 2) S 0) (cal (M_readNumber F9 M 0 99) fun v21 S22 => bnd (sI S22 0 9 v21) fun S23 => endM F9 S23) := by
  have tk : ∀ S6 v, R_take F9 S6 (nI 3) 0 v = bnd (sI S6 9 2 v) fun S4 => (if 99 < v then some (3, S4) else some (0, S4)) := fun S6 v => by
    unfold R_take
    rw [if_neg (show ¬ nI 3 = 1 by decide), if_neg (show ¬ nI 3 = 2 by decide), if_pos (show nI 3 = 3 from rfl)]
  refine line1 (put := fun v M => sI M 0 9 v) (lo := 0) (hi := 99) (Or.inr (Or.inr rfl)) hN hM hp h5 hT (by decide) (by decide) (fun v M => ⟨FM.s0 (by omega), fun k h1 h2 => by rw [sI_at, if_neg (by omega)]⟩) (fun S6 M1 f1 f2 v1 v2 => ?_) (fun S6 f1 v1 v2 => ?_)
  · generalize tkV B t p = v at v1 v2
    refine ⟨sI S6 9 2 (nI v), n, ?_, FN.s (by omega), sI_row _ _ _ _ _ (by decide), ?_⟩
    · rw [tk, bnd_e, if_neg (show ¬ 99 < nI v by rw [show (99 : Int32) = nI 99 from rfl, nI_ltI (by omega) (by omega)]; omega)]
    · obtain ⟨n2, n8, d0, m0, ⟨o, o1, o2, o3⟩, ⟨d, d1, d2, d3⟩, ⟨h, h1, h2, h3, h4⟩, ⟨l, l1, l2, l3, l4, l5⟩, t1, t2, t3⟩ := hD.t f1 f2
      refine ⟨n2, n8, by rw [sI_at, if_neg (by decide), d0], by rw [sI_at, if_neg (by decide), m0], ⟨o, o1, by rw [sI_at, if_neg (by decide), o2], by rw [sI_at, if_neg (by decide), o3]⟩, ⟨v, v2, by rw [sI_at, if_pos ⟨rfl, rfl⟩], by rw [sI_at, if_pos ⟨rfl, rfl⟩]⟩, ⟨h, h1, by rw [sI_at, if_neg (by decide), h2], by rw [sI_at, if_neg (by decide), h3], h4⟩, ⟨l, l1, by rw [sI_at, if_neg (by decide), l2], by rw [sI_at, if_neg (by decide), l3], fun k hk => by rw [sI_row _ _ _ _ _ (by decide), sI_row _ _ _ _ _ (by decide)]; exact l4 k hk, l5⟩, t1, by rw [sI_row _ _ _ _ _ (by decide), t2], fun k hk => by rw [sI_row _ _ _ _ _ (by decide), t3 k hk]⟩
  · generalize tkV B t p = v at v1 v2
    exact ⟨sI S6 9 2 (nI v), by rw [tk, bnd_e, if_pos (show 99 < nI v from (nI_ltI (a := 99) (by omega) (by omega)).mpr (by omega))], FN.s (by omega), sI_row _ _ _ _ _ (by decide)⟩
/-- the reference's shield line -/
def shieldM (F : Nat) (S12 : St) : Option St := cav (M_isNumber F S12 0 ((S12.1 0 7) - 2)) fun S30 => bnd (S30.1 0 19) fun v31 => jn (fun (S32 : St) => jn (fun (v34 : Int32) => bnd (sI S32 0 10 ((S32.1 0 10) ||| v34)) fun S36 => cav (M_next F S36) fun S37 => endM F S37) fun (J35 : Int32 → Option St) => (if (S32.1 0 20) = 0 then J35 (jshl 1 v31) else J35 0)) fun (J33 : St → Option St) => (if (S30.1 0 20) = 0 then jn (fun (v38 : Int32) => cav (M_wants F S30 v38 4) fun S40 => J33 S40) fun (J39 : Int32 → Option St) => (if ((jshr (S30.1 0 10) v31) &&& 1) = 0 then J39 1 else J39 0) else J33 S30)
theorem line_shield {B : Nat → Nat} {t p n T f : Nat} {S M : St} (hN : BN S B t) (hM : BM M B t) (hp : p ≤ t) (h5 : S.1 7 5 = nI p) (hT : TokM M B t p) (hD : DrR n T S M) (b4 : T.testBit 4 = true) : LO B t p T S M (R_readLine_L48 F9 (nI 4) (f + 2) S 0) (shieldM F9 M) := by
  have hE := tkE_x B hp
  have hs := tkS_x B hp
  obtain ⟨n2, n8, d0, m0, ⟨o, o1, o2, o3⟩, ⟨d, d1, d2, d3⟩, ⟨h, h1, h2, h3, h4⟩, ⟨l, l1, l2, l3, l4, l5⟩, t1, t2, t3⟩ := id hD
  have hpw := pw_hi n8
  have hp2 : 2 ^ (n - 1) ≤ 2 ^ n := Nat.pow_le_pow_right (by decide) (by omega)
  obtain ⟨S6, a1, a2, a3, a4⟩ := L48_e (f := f + 1) (j := 0) (nm := 4) hN hp h5 (by omega) (by omega)
  have few : (if 4 = 6 then 3 else 1) = 1 := rfl
  have most : (if 4 = 5 then 240 else if 4 = 6 then 3 else 1) = 1 := rfl
  have most0 : (if 4 = 5 then 240 else 1) = 1 := rfl
  rw [nI_0, few, most0, if_neg (fun z => z.2 (by omega))] at a4
  have tk : ∀ v, R_take F9 S6 (nI 4) 0 v = R_takeShield F9 S6 v := fun v => by
    unfold R_take
    rw [if_neg (show ¬ nI 4 = 1 by decide), if_neg (show ¬ nI 4 = 2 by decide), if_neg (show ¬ nI 4 = 3 by decide), if_pos (show nI 4 = 4 from rfl)]
    cases R_takeShield F9 S6 v <;> rfl
  have e90 : S6.1 9 = S.1 9 := a1.1 9 (by decide)
  have en2 : nI n - 2 = nI (n - 2) := pk_sub (a := n) (b := 2) n2
  have bad : ∀ M', FM M M' → ∀ c s, Flt M' c s → (bnd (sI M' 0 10 ((M'.1 0 10) ||| 0)) fun S36 => cav (M_next F9 S36) fun S37 => endM F9 S37) = some (sI M' 0 10 ((M'.1 0 10) ||| 0)) ∧ FM M (sI M' 0 10 ((M'.1 0 10) ||| 0)) ∧ Flt (sI M' 0 10 ((M'.1 0 10) ||| 0)) c s := fun M' fm c s fl => by
    have fl' : Flt (sI M' 0 10 ((M'.1 0 10) ||| 0)) c s := fl.s (by omega)
    refine ⟨?_, fm.tr (FM.s0 (by omega)), fl'⟩
    rw [bnd_e, next_F fl', cav_s, endM_F fl']
  rw [a4]
  unfold shieldM
  rw [m0, en2]
  simp only [jn_e]
  rcases isNumber_e (lo := 0) (hi := n - 2) (a := 0) (b := nI (n - 2)) hT (by decide) (nI_toInt (by omega)) with ⟨k1, k2, k3, k4⟩ | ⟨k1, M1, k2, k3, k4, k5⟩
  · obtain ⟨h17, h20, h18, q1, q2, h16⟩ := hT.ok (by omega)
    have vv := tkV_lt k1
    generalize hv : tkV B t p = v at *
    rw [if_pos ⟨k1, by omega⟩, tk, k4, cav_s, bnd_e, q2 k1, if_pos h20, h3, jbit_n (by omega) (by omega)]
    unfold R_takeShield P_shieldAt
    have eg : P_isGap F9 9 S6 (nI v) = some 1 := by
      rw [P_isGap_e 9 ⟨n2, n8⟩ (by rw [e90, d0]), nI_toInt (by omega), if_pos (by omega)]
    rw [eg, crd_s, if_neg (show ¬ (1 : Int32) = 0 by decide), crd_s, if_neg (show ¬ (1 : Int32) = 0 by decide), crd_s, e90, h2, jbit_n (by omega) (by omega)]
    by_cases g : h.testBit v = true
    · rw [if_pos g, if_pos (show nI 1 = 1 from rfl), if_neg (show ¬ nI 1 = 0 by decide)]
      obtain ⟨M', w1, w2, w3, w4⟩ := wants_bad (c := 4) (co := 4) (by omega) rfl h20 h17
      obtain ⟨b1, b2, b3⟩ := bad M' w2.m 4 _ w3
      rw [w1, cav_s, if_neg w3.n0, b1, cal_s, if_neg (show ¬ (4 : Int32) = 0 by decide)]
      exact LO.bad (c0 := 4) a1.n b2 b3 a2
    · rw [if_neg g, if_neg (show ¬ nI 0 = 1 by decide), if_pos (show nI 0 = 0 from rfl), wants_1, cav_s, if_pos h20, pw_n v (by omega), h3, ni_or, bnd_e]
      have fr : FM M (sI M 0 10 (nI (h ||| 2 ^ v))) := FM.s0 (by omega)
      have hM' : BM (sI M 0 10 (nI (h ||| 2 ^ v))) B t := hM.fm fr
      obtain ⟨M2, n1, n2', n3⟩ := M_next_e (p := tkE B t p) hM' hE.2.1 (by rw [sI_at, if_neg (by decide), h20]) (by rw [sI_at, if_neg (by decide), h16])
      unfold P_putShield
      simp only [jn_e]
      rw [n1, cav_s, if_neg (show ¬ (1 : Int32) = 0 by decide), e90, h2, pw_n v (by omega), ni_or, bnd_e, cav_s, cal_s, if_pos rfl]
      have hx : h ||| 2 ^ v < 2 ^ (n - 1) := Nat.or_lt_two_pow h1 (Nat.pow_lt_pow_right (by decide) (by omega))
      have dr : DrR n T (sI S6 9 3 (nI (h ||| 2 ^ v))) M2 := by
        have dd : DrR n T (sI S6 9 3 (nI (h ||| 2 ^ v))) (sI M 0 10 (nI (h ||| 2 ^ v))) := by
          refine ⟨n2, n8, by rw [sI_at, if_neg (by decide), e90, d0], by rw [sI_at, if_neg (by decide), m0], ⟨o, o1, by rw [sI_at, if_neg (by decide), e90, o2], by rw [sI_at, if_neg (by decide), o3]⟩, ⟨d, d1, by rw [sI_at, if_neg (by decide), e90, d2], by rw [sI_at, if_neg (by decide), d3]⟩, ⟨h ||| 2 ^ v, hx, by rw [sI_at, if_pos ⟨rfl, rfl⟩], by rw [sI_at, if_pos ⟨rfl, rfl⟩], fun z => by rw [b4] at z; cases z⟩, ⟨l, l1, by rw [sI_at, if_neg (by decide), e90, l2], by rw [sI_at, if_neg (by decide), l3], fun k hk => by rw [sI_row _ _ _ _ _ (by decide), sI_row _ _ _ _ _ (by decide), a1.1 11 (by decide)]; exact l4 k hk, l5⟩, t1, by rw [sI_row _ _ _ _ _ (by decide), a1.1 6 (by decide), t2], fun k hk => by rw [sI_row _ _ _ _ _ (by decide), t3 k hk]⟩
        exact dd.t FrT.rf n2'
      exact LO.mv (lineEnd (f := f) (j := 0 + 1) (nm := 4) ((hN.fr a1).fn (FN.s (by omega))) (hM'.fr n2') hE.2.1 (by rw [sI_row _ _ _ _ _ (by decide), a3]) n3 dr (by omega) (by omega) (by decide) (fun z => absurd z.2 (by decide))) (by omega) (a1.n.tr (FN.s (by omega))) (fr.tr n2'.m)
  · obtain ⟨b1, b2, b3⟩ := bad M1 k3.m _ _ k4
    rw [k2, cav_s, bnd_e, if_neg k4.n0, if_neg k4.n0, b1]
    by_cases g : tkK B t p = 2
    · have vv := tkV_lt g
      have eg : P_isGap F9 9 S6 (nI (tkV B t p)) = some 0 := by
        rw [P_isGap_e 9 ⟨n2, n8⟩ (by rw [e90, d0]), nI_toInt (by omega), if_neg (by omega)]
      rw [g] at b3
      rw [if_pos ⟨g, by omega⟩, tk, R_takeShield, eg, crd_s, if_pos rfl, cal_s, if_neg (by decide)]
      exact LO.bad (c0 := 3) a1.n b2 b3 a2
    · rw [if_neg (fun z => g z.1), ← num_out g]
      exact LO.bad a1.n b2 b3 a2
