/-! B: text: a line, the call -/
def argM (F : Nat) (S12 : St) (v4 : Int32) : Option St := if v4 = 0 then cal (M_readNumber F S12 2 8) fun v21 S22 => bnd (sI S22 0 7 v21) fun S23 => endM F S23 else (if v4 = 1 then cal (M_readNumber F S12 0 99) fun v24 S25 => bnd (sI S25 0 8 v24) fun S26 => endM F S26 else (if v4 = 2 then cal (M_readNumber F S12 0 99) fun v27 S28 => bnd (sI S28 0 9 v27) fun S29 => endM F S29 else (if v4 = 3 then shieldM F S12 else (if v4 = 4 then cav (M_readSend F S12) fun S41 => endM F S41 else cav (M_readStep F S12) fun S42 => endM F S42))))
def lineM (F : Nat) (S3 : St) (v4 : Int32) : Option St := jn (fun (v5 : Int32) => cav (M_wants F S3 v5 4) fun S7 => jn (fun (v8 : Int32) => cav (M_wants F S7 v8 4) fun S10 => chk v4 6 (bnd (sI S10 4 (Int32.toNatClampNeg v4) 1) fun S11 => cav (M_next F S11) fun S12 => argM F S12 v4)) fun (J9 : Int32 → Option St) => jn (J9 1) fun (J43 : Option St) => (if v4 = 0 then chk 3 6 (jn (J9 0) fun (J44 : Option St) => (if (S7.1 4 (Int32.toNatClampNeg 3)) = 0 then chk 4 6 ((if (S7.1 4 (Int32.toNatClampNeg 4)) = 0 then chk 5 6 ((if (S7.1 4 (Int32.toNatClampNeg 5)) = 0 then J43 else J44)) else J44)) else J44)) else J43)) fun (J6 : Int32 → Option St) => jn (J6 1) fun (J45 : Option St) => (if 2 < v4 then J45 else chk v4 6 ((if (S3.1 4 (Int32.toNatClampNeg v4)) = 0 then J45 else J6 0)))
theorem readLine_eq (F : Nat) (S : St) : M_readLine F S = jn (fun (v1 : Int32) => cav (M_wants F S v1 2) fun S3 => (if 0 < (S3.1 0 20) then some S3 else bnd (S3.1 0 19) fun v4 => lineM F S3 v4)) fun (J2 : Int32 → Option St) => (if (S.1 0 18) = 1 then J2 1 else J2 0) := rfl
theorem argM_F {M : St} {c s k : Nat} (hk : k < 6) (h : Flt M c s) : ∃ M', argM F9 M (nI k) = some M' ∧ FM M M' ∧ Flt M' c s := by
  unfold argM
  have sh : ∃ M', shieldM F9 M = some M' ∧ FM M M' ∧ Flt M' c s := by
    unfold shieldM
    simp only [jn_e]
    rw [isNumber_F h, cav_s, bnd_e, if_neg h.n0, if_neg h.n0, bnd_e]
    have h' : Flt (sI M 0 10 ((M.1 0 10) ||| 0)) c s := h.s (by omega)
    rw [next_F h', cav_s, endM_F h']
    exact ⟨_, rfl, FM.s0 (by omega), h'⟩
  have se : M_readSend F9 M = some M := by
    unfold M_readSend
    rw [show F9 = 999999998 + 1 + 1 from rfl, M_readSend_L2, if_neg (by decide)]
    simp only [jn_e]
    rw [show (999999998 + 1 + 1 : Nat) = F9 from rfl, isNumber_F h, cav_s, if_neg h.n0, if_neg h.n0, next_F h, cav_s, if_neg h.n0, M_readSend_L2, if_pos rfl]
  have st : M_readStep F9 M = some M := by
    unfold M_readStep
    rw [readNumber_F h, cal_s, readNumber_F h, cal_s, isNumber_F h, cav_s, bnd_e]
    simp only [jn_e]
    rw [if_neg h.n0, step_end h]
  have nm : ∀ (a b : Int32) (q : Nat), 7 ≤ q → q < 12 → ∃ M', (cal (M_readNumber F9 M a b) fun v21 S22 => bnd (sI S22 0 q v21) fun S23 => endM F9 S23) = some M' ∧ FM M M' ∧ Flt M' c s := fun a b q q1 q2 => by
    have h' : Flt (sI M 0 q (M.1 0 19)) c s := h.s (by omega)
    rw [readNumber_F h, cal_s, bnd_e, endM_F h']
    exact ⟨_, rfl, FM.s0 (by omega), h'⟩
  rcases (show k = 0 ∨ k = 1 ∨ k = 2 ∨ k = 3 ∨ k = 4 ∨ k = 5 by omega) with rfl | rfl | rfl | rfl | rfl | rfl
  · rw [if_pos (by decide)]
    exact nm 2 8 7 (by omega) (by omega)
  · rw [if_neg (by decide), if_pos (by decide)]
    exact nm 0 99 8 (by omega) (by omega)
  · rw [if_neg (by decide), if_neg (by decide), if_pos (by decide)]
    exact nm 0 99 9 (by omega) (by omega)
  · rw [if_neg (by decide), if_neg (by decide), if_neg (by decide), if_pos (by decide)]
    exact sh
  · rw [if_neg (by decide), if_neg (by decide), if_neg (by decide), if_neg (by decide), if_pos (by decide), se, cav_s, endM_F h]
    exact ⟨M, rfl, FM.rf, h⟩
  · rw [if_neg (by decide), if_neg (by decide), if_neg (by decide), if_neg (by decide), if_neg (by decide), st, cav_s, endM_F h]
    exact ⟨M, rfl, FM.rf, h⟩
theorem lineM_F {M : St} {c s k : Nat} (hk : k < 6) (h : Flt M c s) : ∃ M', (chk (nI k) 6 (bnd (sI M 4 (Int32.toNatClampNeg (nI k)) 1) fun S11 => cav (M_next F9 S11) fun S12 => argM F9 S12 (nI k))) = some M' ∧ FM M M' ∧ Flt M' c s := by
  have h' : Flt (sI M 4 k 1) c s := h.fr (by rw [sI_row _ _ _ _ _ (by decide)]) (by rw [sI_row _ _ _ _ _ (by decide)])
  rw [chk_n _ hk (by decide), nI_clamp (by omega), bnd_e, next_F h', cav_s]
  obtain ⟨M', a1, a2, a3⟩ := argM_F hk h'
  exact ⟨M', a1, FM.s4.tr a2, a3⟩
theorem b_tt {b : Bool} (h : ¬ b = false) : b = true := by
  cases b
  · exact absurd rfl h
  · rfl
theorem told1 : ∀ T, T < 128 → (nI T &&& ((jshl 1 1) ||| 112) = 0 ↔ (T.testBit 1 = false ∧ T.testBit 4 = false ∧ T.testBit 5 = false ∧ T.testBit 6 = false)) := by decide +kernel
theorem told2 : ∀ T, T < 128 → (nI T &&& (jshl 1 2) = 0 ↔ T.testBit 2 = false) := by decide +kernel
theorem told3 : ∀ T, T < 128 → (nI T &&& (jshl 1 3) = 0 ↔ T.testBit 3 = false) := by decide +kernel
/-- a part told again -/
def agn (T nm : Nat) : Prop := (nm = 1 ∧ ¬ (T.testBit 1 = false ∧ T.testBit 4 = false ∧ T.testBit 5 = false ∧ T.testBit 6 = false)) ∨ (nm = 2 ∧ T.testBit 2 = true) ∨ (nm = 3 ∧ T.testBit 3 = true)
theorem told_N {T nm : Nat} {S : St} (hT : T < 128) (h : S.1 6 3 = nI T) (hn : 1 ≤ nm ∧ nm ≤ 6) : (agn T nm ∧ R_isToldAgain F9 S (nI nm) = some 1) ∨ (¬ agn T nm ∧ R_isToldAgain F9 S (nI nm) = some 0) := by
  unfold R_isToldAgain agn
  rw [h]
  rcases (show nm = 1 ∨ nm = 2 ∨ nm = 3 ∨ nm = 4 ∨ nm = 5 ∨ nm = 6 by omega) with rfl | rfl | rfl | rfl | rfl | rfl
  · rw [if_pos (show nI 1 = 1 from rfl), show nI 1 = 1 from rfl]
    by_cases g : nI T &&& ((jshl 1 1) ||| 112) = 0
    · rw [if_pos g]
      exact Or.inr ⟨by rintro (⟨-, z⟩ | ⟨z, -⟩ | ⟨z, -⟩); exact z ((told1 T hT).mp g); all_goals omega, rfl⟩
    · rw [if_neg g]
      exact Or.inl ⟨Or.inl ⟨rfl, fun z => g ((told1 T hT).mpr z)⟩, rfl⟩
  · rw [if_neg (show ¬ nI 2 = 1 by decide), if_pos (show nI 2 = 2 from rfl), show nI 2 = 2 from rfl]
    by_cases g : nI T &&& (jshl 1 2) = 0
    · rw [if_pos g]
      exact Or.inr ⟨by rintro (⟨z, -⟩ | ⟨-, z⟩ | ⟨z, -⟩); omega; (rw [(told2 T hT).mp g] at z; cases z); omega, rfl⟩
    · rw [if_neg g]
      exact Or.inl ⟨Or.inr (Or.inl ⟨rfl, b_tt fun z => g ((told2 T hT).mpr z)⟩), rfl⟩
  · rw [if_neg (show ¬ nI 3 = 1 by decide), if_neg (show ¬ nI 3 = 2 by decide), if_pos (show nI 3 = 3 from rfl), show nI 3 = 3 from rfl]
    by_cases g : nI T &&& (jshl 1 3) = 0
    · rw [if_pos g]
      exact Or.inr ⟨by rintro (⟨z, -⟩ | ⟨z, -⟩ | ⟨-, z⟩); omega; omega; (rw [(told3 T hT).mp g] at z; cases z), rfl⟩
    · rw [if_neg g]
      exact Or.inl ⟨Or.inr (Or.inr ⟨rfl, b_tt fun z => g ((told3 T hT).mpr z)⟩), rfl⟩
  · exact Or.inr ⟨by rintro (⟨z, -⟩ | ⟨z, -⟩ | ⟨z, -⟩) <;> omega, by rw [if_neg (by decide), if_neg (by decide), if_neg (by decide)]⟩
  · exact Or.inr ⟨by rintro (⟨z, -⟩ | ⟨z, -⟩ | ⟨z, -⟩) <;> omega, by rw [if_neg (by decide), if_neg (by decide), if_neg (by decide)]⟩
  · exact Or.inr ⟨by rintro (⟨z, -⟩ | ⟨z, -⟩ | ⟨z, -⟩) <;> omega, by rw [if_neg (by decide), if_neg (by decide), if_neg (by decide)]⟩
/-- the reference's check whether a part is told again -/
theorem told_M {T nm s : Nat} {M : St} (hn : 1 ≤ nm ∧ nm ≤ 6) (h4 : ∀ k, k < 6 → M.1 4 k = nI (if T.testBit (k + 1) = true then 1 else 0)) (h20 : M.1 0 20 = 0) (h17 : M.1 0 17 = nI s) : (agn T nm ∧ ∃ M', lineM F9 M (nI (nm - 1)) = some M' ∧ FM M M' ∧ Flt M' 4 s) ∨ (¬ agn T nm ∧ lineM F9 M (nI (nm - 1)) = (chk (nI (nm - 1)) 6 (bnd (sI M 4 (Int32.toNatClampNeg (nI (nm - 1))) 1) fun S11 => cav (M_next F9 S11) fun S12 => argM F9 S12 (nI (nm - 1))))) := by
  have z3 : (3 : Int32).toNatClampNeg = 3 := by decide
  have z4 : (4 : Int32).toNatClampNeg = 4 := by decide
  have z5 : (5 : Int32).toNatClampNeg = 5 := by decide
  have k3 : ∀ {β : Type} (k : Option β), chk (3 : Int32) 6 k = k := fun k => chk_t k (by decide)
  have k4 : ∀ {β : Type} (k : Option β), chk (4 : Int32) 6 k = k := fun k => chk_t k (by decide)
  have k5 : ∀ {β : Type} (k : Option β), chk (5 : Int32) 6 k = k := fun k => chk_t k (by decide)
  have fz : ∀ j, (nI (if T.testBit j = true then 1 else 0) = 0 ↔ T.testBit j = false) := fun j => by cases T.testBit j <;> decide
  obtain ⟨M1, w1, w2, w3, -⟩ := wants_bad (M := M) (c := 4) (co := 4) (s := s) (by omega) rfl h20 h17
  unfold lineM agn
  simp only [jn_e, k3, k4, k5, z3, z4, z5]
  rcases (show nm = 1 ∨ nm = 2 ∨ nm = 3 ∨ 3 < nm by omega) with rfl | rfl | rfl | g
  · rw [show (1 - 1 : Nat) = 0 from rfl, if_neg (show ¬ 2 < nI 0 by decide), chk_n _ (by decide) (by decide), nI_clamp (by decide), h4 0 (by decide)]
    have j0 : nI 0 = 0 := rfl
    simp only [j0, if_true]
    obtain ⟨M2, u1, u2, u3⟩ := lineM_F (k := 0) (by decide) w3
    rw [j0, show (0 : Int32).toNatClampNeg = 0 by decide] at u1
    by_cases g1 : T.testBit 1 = false
    · rw [if_pos ((fz 1).mpr g1), wants_1, cav_s, h4 3 (by decide), h4 4 (by decide), h4 5 (by decide), wants_1, cav_s, w1, cav_s]
      by_cases g4 : T.testBit 4 = false
      · rw [if_pos ((fz 4).mpr g4)]
        by_cases g5 : T.testBit 5 = false
        · rw [if_pos ((fz 5).mpr g5)]
          by_cases g6 : T.testBit 6 = false
          · rw [if_pos ((fz 6).mpr g6)]
            exact Or.inr ⟨by rintro (⟨-, z⟩ | ⟨z, -⟩ | ⟨z, -⟩); exact z ⟨g1, g4, g5, g6⟩; all_goals omega, rfl⟩
          · rw [if_neg (fun z => g6 ((fz 6).mp z)), u1]
            exact Or.inl ⟨Or.inl ⟨by trivial, fun z => g6 z.2.2.2⟩, M2, rfl, w2.m.tr u2, u3⟩
        · rw [if_neg (fun z => g5 ((fz 5).mp z)), u1]
          exact Or.inl ⟨Or.inl ⟨by trivial, fun z => g5 z.2.2.1⟩, M2, rfl, w2.m.tr u2, u3⟩
      · rw [if_neg (fun z => g4 ((fz 4).mp z)), u1]
        exact Or.inl ⟨Or.inl ⟨by trivial, fun z => g4 z.2.1⟩, M2, rfl, w2.m.tr u2, u3⟩
    · rw [if_neg (fun z => g1 ((fz 1).mp z)), w1, cav_s, wants_1, cav_s, wants_f w3.n0, cav_s, u1]
      refine Or.inl ⟨Or.inl ⟨by trivial, fun z => g1 z.1⟩, M2, ?_, w2.m.tr u2, u3⟩
      split
      · split
        · split <;> rfl
        · rfl
      · rfl
  · rw [show (2 - 1 : Nat) = 1 from rfl, if_neg (show ¬ 2 < nI 1 by decide), chk_n _ (by decide) (by decide), nI_clamp (by decide), h4 1 (by decide)]
    have j0 : ¬ nI 1 = 0 := by decide
    simp only [j0, if_false]
    obtain ⟨M2, u1, u2, u3⟩ := lineM_F (k := 1) (by decide) w3
    rw [nI_clamp (by decide)] at u1
    by_cases g1 : T.testBit 2 = false
    · rw [if_pos ((fz 2).mpr g1), wants_1, cav_s, wants_1, cav_s]
      exact Or.inr ⟨by rintro (⟨z, -⟩ | ⟨-, z⟩ | ⟨z, -⟩); omega; (rw [g1] at z; cases z); omega, rfl⟩
    · rw [if_neg (fun z => g1 ((fz 2).mp z)), w1, cav_s, wants_1, cav_s, u1]
      exact Or.inl ⟨Or.inr (Or.inl ⟨by trivial, b_tt g1⟩), M2, rfl, w2.m.tr u2, u3⟩
  · rw [show (3 - 1 : Nat) = 2 from rfl, if_neg (show ¬ 2 < nI 2 by decide), chk_n _ (by decide) (by decide), nI_clamp (by decide), h4 2 (by decide)]
    have j0 : ¬ nI 2 = 0 := by decide
    simp only [j0, if_false]
    obtain ⟨M2, u1, u2, u3⟩ := lineM_F (k := 2) (by decide) w3
    rw [nI_clamp (by decide)] at u1
    by_cases g1 : T.testBit 3 = false
    · rw [if_pos ((fz 3).mpr g1), wants_1, cav_s, wants_1, cav_s]
      exact Or.inr ⟨by rintro (⟨z, -⟩ | ⟨z, -⟩ | ⟨-, z⟩); omega; omega; (rw [g1] at z; cases z), rfl⟩
    · rw [if_neg (fun z => g1 ((fz 3).mp z)), w1, cav_s, wants_1, cav_s, u1]
      exact Or.inl ⟨Or.inr (Or.inr ⟨by trivial, b_tt g1⟩), M2, rfl, w2.m.tr u2, u3⟩
  · rw [if_pos (show (2 : Int32) < nI (nm - 1) from (nI_ltI (a := 2) (by omega) (by omega)).mpr (by omega)), wants_1, cav_s]
    have j0 : ¬ nI (nm - 1) = 0 := nI_ne0 (by omega) (by omega)
    rw [if_neg j0, wants_1, cav_s]
    exact Or.inr ⟨by rintro (⟨z, -⟩ | ⟨z, -⟩ | ⟨z, -⟩) <;> omega, rfl⟩
theorem DrR.told {n T nm : Nat} {S M : St} (h : DrR n T S M) (hn : 1 ≤ nm ∧ nm ≤ 6) : DrR n (T ||| 2 ^ nm) (sI S 6 3 (nI (T ||| 2 ^ nm))) (sI M 4 (nm - 1) 1) := by
  obtain ⟨n2, n8, d0, m0, ho, hd, ⟨h, h1, h2, h3, h4⟩, ⟨l, l1, l2, l3, l4, l5⟩, t1, t2, t3⟩ := h
  have sub : ∀ j, (T ||| 2 ^ nm).testBit j = false → T.testBit j = false := fun j z => by
    rw [fb_bit_set, Bool.or_eq_false_iff] at z
    exact z.1
  refine ⟨n2, n8, d0, by simpa [sI_at] using m0, by simpa [sI_at] using ho, by simpa [sI_at] using hd, ⟨h, h1, h2, by simpa [sI_at] using h3, fun z => h4 (sub 4 z)⟩, ⟨l, l1, l2, by simpa [sI_at] using l3, by simpa [sI_at] using l4, fun a b => l5 (sub 5 a) (sub 6 b)⟩, Nat.or_lt_two_pow (n := 7) t1 (Nat.pow_lt_pow_right (by decide) (by omega)), by rw [sI_at, if_pos ⟨rfl, rfl⟩], fun k hk => ?_⟩
  rw [sI_at, fb_bit_set]
  by_cases g : k = nm - 1
  · rw [if_pos ⟨rfl, g⟩, decide_eq_true (show k + 1 = nm by omega), Bool.or_true]
    rfl
  · rw [if_neg (fun z => g z.2), decide_eq_false (show ¬ k + 1 = nm by omega), Bool.or_false, t3 k hk]
theorem line_e {B : Nat → Nat} {t p n T : Nat} {S M : St} (hN : BN S B t) (hM : BM M B t) (hp : p ≤ t) (h2 : S.1 7 2 = nI (tkS B t p)) (h1 : S.1 7 1 = nI (tkK B t p)) (h3 : tkK B t p = 1 ∨ tkK B t p = 2 → S.1 7 3 = nI (tkV B t p)) (h5 : S.1 7 5 = nI (tkE B t p)) (hT : TokM M B t p) (hK : tkK B t p ≠ 4) (hD : DrR n T S M) : ∃ T', LO B t (tkE B t p) T' S M (R_readLine F9 S) (M_readLine F9 M) := by
  obtain ⟨h17, h20, h18, q1, q2, h16⟩ := hT.ok hK
  have hE := tkE_x B hp
  have hs := tkS_x B hp
  have t240 := hN.2.1
  have kle := tkK_le B t p
  have e1 : nI (tkK B t p) = 1 ↔ tkK B t p = 1 := nI_eq (b := 1) (by omega) (by omega)
  unfold R_readLine
  rw [readLine_eq, h1, h18]
  simp only [jn_e]
  by_cases g1 : tkK B t p = 1
  · rw [if_pos (e1.mpr g1), if_pos (e1.mpr g1), wants_1, cav_s, h20, if_neg (by decide), q1 g1, h3 (Or.inl g1)]
    simp only [bnd_e]
    have vb : 1 ≤ tkV B t p ∧ tkV B t p ≤ 6 := by
      have eK := g1
      unfold tkK at eK
      by_cases c1 : tkS B t p < t
      · rw [if_pos c1] at eK
        by_cases c2 : isLt (B (tkS B t p))
        · rw [if_pos c2] at eK
          have eV : tkV B t p = nmF B (tkS B t p) (tkE B t p) := by unfold tkV; rw [if_pos c2]
          have := nmF_le B (tkS B t p) (tkE B t p)
          by_cases c3 : nmF B (tkS B t p) (tkE B t p) = 0
          · rw [if_pos c3] at eK; omega
          · omega
        · rw [if_neg c2] at eK
          split at eK
          · split at eK <;> omega
          · split at eK <;> omega
      · rw [if_neg c1] at eK; omega
    generalize hnm : tkV B t p = nm at *
    obtain ⟨-, -, -, -, -, -, -, -, t1, t2, t3⟩ := id hD
    rcases told_N (S := S) t1 t2 vb with ⟨a1, a2⟩ | ⟨a1, a2⟩
    · rcases told_M (s := tkS B t p) vb t3 h20 h17 with ⟨-, M', b1, b2, b3⟩ | ⟨b1, -⟩
      · rw [a2, crd_s, if_neg (by decide), b1]
        exact ⟨T, LO.bad (c0 := 4) FN.rf b2 b3 h2⟩
      · exact absurd a1 b1
    · rcases told_M (s := tkS B t p) vb t3 h20 h17 with ⟨b1, -⟩ | ⟨-, b1⟩
      · exact absurd b1 a1
      · rw [a2, crd_s, if_pos rfl, b1, chk_n _ (by omega) (by decide), nI_clamp (by omega), bnd_e, t2, show jshl 1 (nI nm) = nI (2 ^ nm) from pw_n nm (by omega), ni_or]
        have dr := hD.told vb
        have fm : FM M (sI M 4 (nm - 1) 1) := FM.s4
        obtain ⟨M2, n1, n2', n3⟩ := M_next_e (p := tkE B t p) (hM.fm fm) hE.2.1 (by rw [sI_row _ _ _ _ _ (by decide), h20]) (by rw [sI_row _ _ _ _ _ (by decide), h16])
        have fn : FN S (sI S 6 3 (nI (T ||| 2 ^ nm))) := FN.s (by omega)
        have dr2 := dr.t FrT.rf n2'
        have hN2 := hN.fn fn
        have hM2 := (hM.fm fm).fr n2'
        have s5 : (sI S 6 3 (nI (T ||| 2 ^ nm))).1 7 5 = nI (tkE B t p) := by rw [sI_row _ _ _ _ _ (by decide), h5]
        have bset : (T ||| 2 ^ nm).testBit nm = true := by rw [fb_bit_set, decide_eq_true rfl, Bool.or_true]
        have b0 : ∀ j, j ≠ nm → (T ||| 2 ^ nm).testBit j = T.testBit j := fun j hj => by rw [fb_bit_set, decide_eq_false hj, Bool.or_false]
        rw [n1, cav_s]
        refine ⟨T ||| 2 ^ nm, LO.mv (p := tkE B t p) ?_ (Nat.le_refl _) fn (fm.tr n2'.m)⟩
        unfold argM
        rcases (show nm = 1 ∨ nm = 2 ∨ nm = 3 ∨ nm = 4 ∨ nm = 5 ∨ nm = 6 by omega) with e | e | e | e | e | e <;> subst e
        · rw [if_pos (by decide)]
          have nt : T.testBit 4 = false ∧ T.testBit 5 = false ∧ T.testBit 6 = false := by
            refine Decidable.byContradiction fun z => a1 (Or.inl ⟨rfl, fun y => z ⟨y.2.1, y.2.2.1, y.2.2.2⟩⟩)
          exact line_wires (f := 999999998) hN2 hM2 hE.2.1 s5 n3 dr2 (by rw [b0 4 (by decide), nt.1]) (by rw [b0 5 (by decide), nt.2.1]) (by rw [b0 6 (by decide), nt.2.2])
        · rw [if_neg (by decide), if_pos (by decide)]
          exact line_own (f := 999999998) hN2 hM2 hE.2.1 s5 n3 dr2
        · rw [if_neg (by decide), if_neg (by decide), if_pos (by decide)]
          exact line_side (f := 999999998) hN2 hM2 hE.2.1 s5 n3 dr2
        · rw [if_neg (by decide), if_neg (by decide), if_neg (by decide), if_pos (by decide)]
          exact line_shield (f := 999999998) hN2 hM2 hE.2.1 s5 n3 dr2 bset
        · rw [if_neg (by decide), if_neg (by decide), if_neg (by decide), if_neg (by decide), if_pos (by decide)]
          obtain ⟨-, -, -, -, -, -, -, ⟨l, l1, l2, -⟩, -⟩ := id dr2
          have := line_send bset (40 - l) F9 F9 (tkE B t p) 0 l _ M2 (by omega) (by unfold F9; omega) (by unfold F9; omega) (Nat.zero_le _) (Or.inl rfl) l2 hN2 hM2 hE.2.1 s5 n3 dr2
          exact this
        · rw [if_neg (by decide), if_neg (by decide), if_neg (by decide), if_neg (by decide), if_neg (by decide)]
          exact line_step (f := 999999996) hN2 hM2 hE.2.1 s5 n3 dr2 bset
  · rw [if_neg (fun z => g1 (e1.mp z)), if_neg (fun z => g1 (e1.mp z))]
    obtain ⟨M1, w1, w2, w3, -⟩ := wants_bad (M := M) (c := 2) (co := 2) (s := tkS B t p) (by omega) rfl h20 h17
    have e4 : nI (tkK B t p) = 4 ↔ tkK B t p = 4 := nI_eq (b := 4) (by omega) (by omega)
    unfold R_outOfPlace
    rw [w1, cav_s, if_pos w3.pos, h1, if_neg (fun z => hK (e4.mp z)), crd_s]
    exact ⟨T, LO.bad (c0 := 2) FN.rf w2.m w3 h2⟩
