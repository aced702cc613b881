/-! B: greatest, the class's search -/
theorem slw_self (n sh a : Nat) : slw n sh a a = 0 := by
  have : slw n sh a a ≤ 0 := (mxz_le _ _ _).mpr fun p _ => by
    unfold slz
    rw [if_pos (by unfold mvz; omega)]
    exact Nat.le_refl _
  omega
def Fm (n q P C A : Nat) : Prop := CLq n q A ∧ (∀ b, P.testBit b = true → A.testBit b = true) ∧ ∀ b, A.testBit b = true → P.testBit b = true ∨ C.testBit b = true
def GrowQ (n q P C b R : Nat) : Prop := (pc b 16 ≤ pc R 16 ∧ (pc R 16 = pc b 16 → R = b)) ∧ (∀ A, Fm n q P C A → pc A 16 ≤ pc R 16) ∧ (pc b 16 < pc R 16 → Fm n q P C R ∧ ∀ A, Fm n q P C A → pc A 16 = pc R 16 → A = R ∨ lexb R A)
def LoopQ (n q P C b R : Nat) : Prop := (pc b 16 ≤ pc R 16 ∧ (pc R 16 = pc b 16 → R = b)) ∧ (∀ A, Fm n q P C A → A ≠ P → pc A 16 ≤ pc R 16) ∧ (pc b 16 < pc R 16 → Fm n q P C R ∧ ∀ A, Fm n q P C A → A ≠ P → pc A 16 = pc R 16 → A = R ∨ lexb R A)
def OKG (n q P C : Nat) : Prop := P < 2 ^ 2 ^ n ∧ C < 2 ^ 2 ^ n ∧ CLq n q P ∧ (∀ c, C.testBit c = true → P.testBit c = false) ∧ ∀ p c, P.testBit p = true → C.testBit c = true → slw n 0 p c ≤ q
theorem bit_lt {x m i : Nat} (hx : x < 2 ^ m) (h : x.testBit i = true) : i < m := by
  refine Nat.lt_of_not_le fun g => ?_
  rw [bit_hi hx g] at h; cases h
theorem Fm_no {n q P C A : Nat} (hC : ∀ c, C.testBit c = false) (h : Fm n q P C A) : A = P := by
  refine Nat.eq_of_testBit_eq fun b => ?_
  cases e : P.testBit b
  · cases e2 : A.testBit b
    · rfl
    · rcases h.2.2 b e2 with g | g
      · rw [e] at g; cases g
      · rw [hC b] at g; cases g
  · exact h.2.1 b e
theorem Fm_ct {n q P C A : Nat} (hd : ∀ c, C.testBit c = true → P.testBit c = false) (h : Fm n q P C A) : pc A 16 ≤ pc P 16 + pc C 16 := by
  have e := fb_ct_or (p := fun i => P.testBit i) (q := fun i => C.testBit i) (n := 16) fun k _ hk => by
    have := hd k hk.2
    rw [this] at hk
    cases hk.1
  unfold pc
  rw [← e]
  refine fb_ct_sub fun k _ hk => ?_
  rcases h.2.2 k hk with g | g <;> simp [g]
theorem pc_or1 {P i : Nat} (hi : i < 16) (h : P.testBit i = false) : pc (P ||| 2 ^ i) 16 = pc P 16 + 1 := by
  have u := fb_ct_upd (fun k => P.testBit k) true hi
  rw [h] at u
  have e : fb_ct (fun k => if k = i then true else P.testBit k) 16 = pc (P ||| 2 ^ i) 16 := fb_ct_cong fun k _ => by
    rw [fb_bit_set]
    by_cases g : k = i
    · rw [if_pos g, decide_eq_true g, Bool.or_true]
    · rw [if_neg g, decide_eq_false g, Bool.or_false]
  rw [e] at u
  simpa [pc] using u
/-- the row of near words that the machine holds for w <= 4 wires -/
def nrN (n q : Nat) (S : St) (i : Nat) : Prop := ∃ X, Int64.toInt32 (S.2 18 ((q * 256 + i) * 4)) = nI X ∧ X < 2 ^ 16 ∧ ∀ w, X.testBit w = decide (i < 2 ^ n ∧ w < 2 ^ n ∧ slw n 0 i w ≤ q)
theorem nrN_e {n q i : Nat} {S : St} (n4 : n ≤ 4) (hq : q < 5) (hi : i < 16) (h : nbs n S) : nrN n q S i := by
  have h16 := pw44 n4
  have bt : ∀ w, ((S.2 18 ((q * 256 + i) * 4)).toBitVec.toNat).testBit w = decide (i < 2 ^ n ∧ w < 2 ^ n ∧ slw n 0 i w ≤ q) := fun w => by
    by_cases g : w < 64
    · have := h q i w hq (by omega) (by omega)
      unfold nb at this
      rw [show w / 64 = 0 by omega, show w % 64 = w by omega, Nat.add_zero] at this
      exact this
    · rw [bit_hi (BitVec.isLt _) (by omega), decide_eq_false (by omega)]
  refine ⟨(S.2 18 ((q * 256 + i) * 4)).toBitVec.toNat, ?_, ?_, bt⟩
  · have e := lN_i (S.2 18 ((q * 256 + i) * 4)).toBitVec.toNat
    rw [lN_of] at e
    exact e
  · refine Nat.lt_pow_two_of_testBit _ fun w hw => ?_
    rw [bt, decide_eq_false (by omega)]
theorem grow_loop {n q P : Nat} {S : St} {rc : St → Int32 → Int32 → Int32 → Int32 → Option Int32} (n4 : n ≤ 4) (hq : q < 5) (hn : ∀ i, i < 16 → nrN n q S i) (hrc : ∀ P' C' b', pc P' 16 = pc P 16 + 1 → OKG n q P' C' → b' < 2 ^ 16 → ∃ R, rc S (nI (q * 1024)) (nI P') (nI C') (nI b') = some (nI R) ∧ R < 2 ^ 16 ∧ GrowQ n q P' C' b' R) : ∀ (j i f C b : Nat), i + j = 16 → j < f → OKG n q P C → (∀ c, c < i → C.testBit c = false) → b < 2 ^ 16 → ∃ R, K_grow_L30 F9 (nI (q * 1024)) (nI P) S rc (nI (pc P 16)) f (nI b) (nI C) (nI i) = some (nI R) ∧ R < 2 ^ 16 ∧ LoopQ n q P C b R
  | 0, i, f + 1, C, b, hi, hf, hO, hl, hb => by
    have h16 := pw44 n4
    have h65 : 2 ^ 2 ^ n ≤ 2 ^ 16 := Nat.pow_le_pow_right (by decide) h16
    have hC : ∀ c, C.testBit c = false := fun c => by
      by_cases g : c < i
      · exact hl c g
      · exact bit_hi hO.2.1 (by omega)
    refine ⟨b, ?_, hb, ⟨Nat.le_refl _, fun _ => rfl⟩, fun A hA hne => absurd (Fm_no hC hA) hne, fun z => absurd z (Nat.lt_irrefl _)⟩
    rw [K_grow_L30, if_neg (c := nI i < 16) (show ¬ nI i < 16 by rw [show (16 : Int32) = nI 16 from rfl, nI_ltI (by omega) (by omega)]; omega)]
    split <;> rfl
  | j + 1, i, f + 1, C, b, hi, hf, hO, hl, hb => by
    have h16 := pw44 n4
    have h65 : 2 ^ 2 ^ n ≤ 2 ^ 16 := Nat.pow_le_pow_right (by decide) h16
    obtain ⟨o1, o2, o3, o4, o5⟩ := id hO
    have lP := pc_le P 16
    have lC := pc_le C 16
    have lb := pc_le b 16
    have ltP : nI (pc P 16) < 16 ↔ pc P 16 < 16 := nI_ltI (b := 16) (by omega) (by omega)
    rw [K_grow_L30]
    by_cases g0 : pc P 16 < 16
    · rw [if_pos (ltP.mpr g0), if_pos (show nI i < 16 from (nI_ltI (b := 16) (by omega) (by omega)).mpr (by omega)), Ji_16 (by omega), crd_s, Ji_16 (by omega), crd_s, nI_add]
      have lt := nI_ltI (a := pc b 16) (b := pc P 16 + pc C 16) (by omega) (by omega)
      by_cases g1 : pc b 16 < pc P 16 + pc C 16
      · rw [if_pos (lt.mpr g1), bnd_e, bnd_e, jn_e, pw_16 i (by omega), show (4 : Int32) = nI 4 from rfl, pk_mul, nI_add, ni_and]
        have ez : nI (C &&& 2 ^ i) = 0 ↔ C.testBit i = false := by
          rw [← fb_bit_nat]
          have l2 : C &&& 2 ^ i ≤ C := Nat.and_le_left
          exact nI_eq (b := 0) (by omega) (by omega)
        simp only [bnd_e, nI_1]
        by_cases g2 : C.testBit i = true
        · have i2n : i < 2 ^ n := bit_lt o2 g2
          rw [if_neg (fun z => by rw [ez.mp z] at g2; cases g2), if_neg (nI_pos (by omega)), if_pos (show _ < (5120 : Int32) from (nI_ltI (b := 5120) (by omega) (by omega)).mpr (by omega)), chk_n _ (by omega) (by decide), nI_clamp (by omega)]
          obtain ⟨X, x1, x2, x3⟩ := hn i (by omega)
          rw [show q * 1024 + i * 4 = (q * 256 + i) * 4 by omega, x1, nd_e, ni_and, ni_or]
          have iP : P.testBit i = false := o4 i g2
          have c1 : ∀ c, (nd C (2 ^ i)).testBit c = (C.testBit c && !decide (c = i)) := fun c => by
            rw [nd_bit (by omega), Nat.testBit_two_pow]
            congr 2
            exact decide_eq_decide.mpr ⟨fun z => z.symm, fun z => z.symm⟩
          have hP' : P ||| 2 ^ i < 2 ^ 2 ^ n := Nat.or_lt_two_pow o1 (Nat.pow_lt_pow_right (by decide) i2n)
          have hC1 : nd C (2 ^ i) < 2 ^ 2 ^ n := nd_lt o2
          have adj : ∀ v, (P ||| 2 ^ i).testBit v = true → P.testBit v = true ∨ v = i := fun v hv => by
            rw [fb_bit_set, Bool.or_eq_true] at hv
            rcases hv with hv | hv
            · exact Or.inl hv
            · exact Or.inr (of_decide_eq_true hv)
          have hO' : OKG n q (P ||| 2 ^ i) (nd C (2 ^ i) &&& X) := by
            refine ⟨hP', Nat.lt_of_le_of_lt Nat.and_le_left hC1, fun v w hv hw => ?_, fun c hc => ?_, fun p c hp hc => ?_⟩
            · rcases adj v hv with v1 | v1 <;> rcases adj w hw with w1 | w1
              · exact o3 v w v1 w1
              · rw [w1]; exact o5 v i v1 g2
              · rw [v1, slw_sym]; exact o5 w i w1 g2
              · rw [v1, w1, slw_self]; omega
            · rw [Nat.testBit_and, Bool.and_eq_true, c1, Bool.and_eq_true] at hc
              rw [fb_bit_set, o4 c hc.1.1]
              simpa using hc.1.2
            · rw [Nat.testBit_and, Bool.and_eq_true, c1, Bool.and_eq_true] at hc
              rcases adj p hp with p1 | p1
              · exact o5 p c p1 hc.1.1
              · rw [p1]
                have := hc.2
                rw [x3] at this
                exact (of_decide_eq_true this).2.2
          obtain ⟨R1, r1, r2, r3⟩ := hrc (P ||| 2 ^ i) (nd C (2 ^ i) &&& X) b (pc_or1 (by omega) iP) hO' hb
          rw [r1, crd_s]
          have hO1 : OKG n q P (nd C (2 ^ i)) := ⟨o1, hC1, o3, fun c hc => by
            rw [c1, Bool.and_eq_true] at hc
            exact o4 c hc.1, fun p c hp hc => by
            rw [c1, Bool.and_eq_true] at hc
            exact o5 p c hp hc.1⟩
          obtain ⟨R, s1, s2, s3⟩ := grow_loop n4 hq hn hrc j (i + 1) f (nd C (2 ^ i)) R1 (by omega) (by omega) hO1 (fun c hc => by
            rw [c1]
            by_cases e : c = i
            · rw [decide_eq_true e]; simp
            · rw [hl c (by omega)]; rfl) r2
          refine ⟨R, s1, s2, ?_⟩
          obtain ⟨⟨t1, t2⟩, t3, t4⟩ := r3
          obtain ⟨⟨u1, u2⟩, u3, u4⟩ := s3
          have fin : ∀ A, Fm n q P C A → A.testBit i = true → Fm n q (P ||| 2 ^ i) (nd C (2 ^ i) &&& X) A := fun A hA hi' => by
            refine ⟨hA.1, fun v hv => ?_, fun v hv => ?_⟩
            · rcases adj v hv with v1 | v1
              · exact hA.2.1 v v1
              · rw [v1]; exact hi'
            · rw [fb_bit_set, Nat.testBit_and, c1, x3]
              by_cases e : v = i
              · rw [decide_eq_true e, Bool.or_true]; exact Or.inl rfl
              · rcases hA.2.2 v hv with g | g
                · rw [g]; exact Or.inl rfl
                · right
                  rw [g, decide_eq_false e, decide_eq_true ⟨i2n, bit_lt o2 g, hA.1 i v hi' hv⟩]; rfl
          have fout : ∀ A, Fm n q P C A → A.testBit i = false → Fm n q P (nd C (2 ^ i)) A := fun A hA hi' => by
            refine ⟨hA.1, hA.2.1, fun v hv => ?_⟩
            rw [c1]
            rcases hA.2.2 v hv with g | g
            · exact Or.inl g
            · right
              rw [g, decide_eq_false (fun e => by rw [e, hi'] at hv; cases hv)]; rfl
          have back1 : ∀ A, Fm n q (P ||| 2 ^ i) (nd C (2 ^ i) &&& X) A → Fm n q P C A ∧ A.testBit i = true := fun A hA => by
            refine ⟨⟨hA.1, fun v hv => hA.2.1 v (by rw [fb_bit_set, hv]; rfl), fun v hv => ?_⟩, hA.2.1 i (by rw [fb_bit_set, decide_eq_true rfl, Bool.or_true])⟩
            rcases hA.2.2 v hv with g | g
            · rcases adj v g with v1 | v1
              · exact Or.inl v1
              · right; rw [v1]; exact g2
            · right
              rw [Nat.testBit_and, Bool.and_eq_true, c1, Bool.and_eq_true] at g
              exact g.1.1
          have back2 : ∀ A, Fm n q P (nd C (2 ^ i)) A → Fm n q P C A := fun A hA => by
            refine ⟨hA.1, hA.2.1, fun v hv => ?_⟩
            rcases hA.2.2 v hv with g | g
            · exact Or.inl g
            · right
              rw [c1, Bool.and_eq_true] at g
              exact g.1
          -- below i a set of the family is as P
          have low : ∀ A, Fm n q P C A → ∀ c, c < i → A.testBit c = P.testBit c := fun A hA c hc => by
            cases e : P.testBit c
            · cases e2 : A.testBit c
              · rfl
              · rcases hA.2.2 c e2 with g | g
                · rw [e] at g; cases g
                · rw [hl c hc] at g; cases g
            · exact hA.2.1 c e
          refine ⟨⟨by omega, fun z => by
            have e1 := u2 (by omega)
            rw [e1]
            exact t2 (by omega)⟩, fun A hA hne => ?_, fun z => ?_⟩
          · cases e : A.testBit i
            · exact u3 A (fout A hA e) hne
            · have := t3 A (fin A hA e); omega
          · by_cases g3 : pc R 16 = pc R1 16
            · have eR := u2 g3
              subst eR
              obtain ⟨k1, k2⟩ := t4 z
              obtain ⟨k3, k4⟩ := back1 R k1
              refine ⟨k3, fun A hA hne hc => ?_⟩
              cases e : A.testBit i
              · exact Or.inr ⟨i, k4, e, fun c hc => by rw [low R k3 c hc, low A hA c hc]⟩
              · exact k2 A (fin A hA e) hc
            · obtain ⟨k1, k2⟩ := u4 (by omega)
              refine ⟨back2 R k1, fun A hA hne hc => ?_⟩
              cases e : A.testBit i
              · exact k2 A (fout A hA e) hne hc
              · have := t3 A (fin A hA e); omega
        · have g2' : C.testBit i = false := Bool.eq_false_iff.mpr g2
          rw [if_pos (ez.mpr g2')]
          exact grow_loop n4 hq hn hrc j (i + 1) f C b (by omega) (by omega) hO (fun c hc => by
            by_cases e : c = i
            · rw [e]; exact g2'
            · exact hl c (by omega)) hb
      · rw [if_neg (fun z => g1 (lt.mp z))]
        refine ⟨b, rfl, hb, ⟨Nat.le_refl _, fun _ => rfl⟩, fun A hA _ => ?_, fun z => absurd z (Nat.lt_irrefl _)⟩
        have := Fm_ct o4 hA
        omega
    · rw [if_neg (fun z => g0 (ltP.mp z))]
      have hC : ∀ c, C.testBit c = false := fun c => by
        cases e : C.testBit c
        · rfl
        · have h1 := o4 c e
          have h2 := fb_ct_all.mp (show fb_ct (fun t => P.testBit t) 16 = 16 by unfold pc at g0 lP; omega) c (by have := bit_lt o2 e; omega)
          rw [h1] at h2; cases h2
      exact ⟨b, rfl, hb, ⟨Nat.le_refl _, fun _ => rfl⟩, fun A hA hne => absurd (Fm_no hC hA) hne, fun z => absurd z (Nat.lt_irrefl _)⟩
theorem pc_eq_sub {A P : Nat} (hA : A < 2 ^ 16) (hs : ∀ b, P.testBit b = true → A.testBit b = true) (hc : pc A 16 = pc P 16) : A = P := by
  refine Nat.eq_of_testBit_eq fun b => ?_
  cases e : P.testBit b
  · cases e2 : A.testBit b
    · rfl
    · have hb := bit_lt hA e2
      have u := pc_or1 hb e
      have le : pc (P ||| 2 ^ b) 16 ≤ pc A 16 := fb_ct_sub fun k _ hk => by
        rw [fb_bit_set, Bool.or_eq_true] at hk
        rcases hk with hk | hk
        · exact hs k hk
        · rw [of_decide_eq_true hk]; exact e2
      omega
  · exact hs b e
theorem grow_e {n q : Nat} {S : St} (n4 : n ≤ 4) (hq : q < 5) (hn : ∀ i, i < 16 → nrN n q S i) : ∀ (d P C b : Nat), pc P 16 + d = 17 → OKG n q P C → b < 2 ^ 16 → ∃ R, K_grow F9 d S (nI (q * 1024)) (nI P) (nI C) (nI b) = some (nI R) ∧ R < 2 ^ 16 ∧ GrowQ n q P C b R
  | 0, P, C, b, hd, hO, hb => by
    have := pc_le P 16
    omega
  | d + 1, P, C, b, hd, hO, hb => by
    have h16 := pw44 n4
    have h65 : 2 ^ 2 ^ n ≤ 2 ^ 16 := Nat.pow_le_pow_right (by decide) h16
    have o1 := hO.1
    have lP := pc_le P 16
    have lb := pc_le b 16
    have sub16 : ∀ A, Fm n q P C A → A < 2 ^ 16 := fun A hA => by
      refine Nat.lt_pow_two_of_testBit _ fun w hw => ?_
      cases e : A.testBit w
      · rfl
      · rcases hA.2.2 w e with g | g
        · have := bit_lt o1 g; omega
        · have := bit_lt hO.2.1 g; omega
    have fP : Fm n q P C P := ⟨hO.2.2.1, fun _ h => h, fun _ h => Or.inl h⟩
    have loop := fun b' (hb' : b' < 2 ^ 16) => grow_loop (rc := K_grow F9 d) n4 hq hn (fun P' C' b' h1 h2 h3 => grow_e n4 hq hn d P' C' b' (by omega) h2 h3) 16 0 F9 C b' (by omega) (by unfold F9; omega) hO (fun c hc => by omega) hb'
    have lt := nI_ltI (a := pc b 16) (b := pc P 16) (by omega) (by omega)
    rw [K_grow, K_growB, Ji_16 (by omega), crd_s, Ji_16 (by omega), crd_s, jn_e]
    by_cases g : pc b 16 < pc P 16
    · rw [if_pos (lt.mpr g)]
      obtain ⟨R, r1, r2, ⟨r3, r4⟩, r5, r6⟩ := loop P (by omega)
      rw [nI_0] at r1
      refine ⟨R, r1, r2, ⟨by omega, fun z => by omega⟩, fun A hA => ?_, fun _ => ?_⟩
      · by_cases e : A = P
        · rw [e]; exact r3
        · exact r5 A hA e
      · by_cases e : pc R 16 = pc P 16
        · have eR := r4 e
          rw [eR]
          refine ⟨fP, fun A hA hc => Or.inl (pc_eq_sub (sub16 A hA) hA.2.1 hc)⟩
        · obtain ⟨k1, k2⟩ := r6 (by omega)
          refine ⟨k1, fun A hA hc => k2 A hA (fun e2 => e (by rw [← e2, hc])) hc⟩
    · rw [if_neg (fun z => g (lt.mp z))]
      obtain ⟨R, r1, r2, ⟨r3, r4⟩, r5, r6⟩ := loop b hb
      rw [nI_0] at r1
      refine ⟨R, r1, r2, ⟨r3, r4⟩, fun A hA => ?_, fun z => ?_⟩
      · by_cases e : A = P
        · rw [e]; omega
        · exact r5 A hA e
      · obtain ⟨k1, k2⟩ := r6 z
        exact ⟨k1, fun A hA hc => k2 A hA (fun e2 => by rw [e2] at hc; omega) hc⟩
theorem BestQ_one {n q m V W : Nat} (hV : V < m) (hW : W < m) (h1 : BestQ n q (fun A => A < m) V) (h2 : BestQ n q (fun A => A < m) W) : V = W := by
  obtain ⟨a1, a2⟩ := h1.2 W hW h2.1
  obtain ⟨b1, b2⟩ := h2.2 V hV h1.1
  rcases a2 (by omega) with e | e
  · exact e.symm
  · rcases b2 (by omega) with e2 | e2
    · exact e2
    · exact absurd (lexb_no e e2) id
theorem great_N {n q : Nat} {S : St} (n4 : n ≤ 4) (hq : q < 5) (h4 : S.1 17 4 = nI n) (h5 : S.1 17 5 = nI (2 ^ n)) (hn : nbs n S) : ∃ V, K_greatestBook F9 S (nI q) = some (nI V) ∧ V < 2 ^ 2 ^ n ∧ BestQ n q (fun A => A < 2 ^ 2 ^ n) V := by
  have h16 := pw44 n4
  have h65 : 2 ^ 2 ^ n ≤ 2 ^ 16 := Nat.pow_le_pow_right (by decide) h16
  have z : ∀ b, (0 : Nat).testBit b = true → False := fun b h => by rw [Nat.zero_testBit] at h; cases h
  have p0 : pc 0 16 = 0 := by decide
  have hm := pw_m1 (2 ^ n)
  obtain ⟨R, r1, r2, ⟨r3, r4⟩, r5, r6⟩ := grow_e n4 hq (fun i hi => nrN_e n4 hq hi hn) 17 0 (2 ^ 2 ^ n - 1) 0 (by rw [p0]) ⟨Nat.two_pow_pos _, hm, fun v w hv => absurd hv (by rw [Nat.zero_testBit]; decide), fun c _ => Nat.zero_testBit c, fun p c hp => absurd hp (by rw [Nat.zero_testBit]; decide)⟩ (by decide)
  have f : ∀ A, A < 2 ^ 2 ^ n → CLq n q A → Fm n q 0 (2 ^ 2 ^ n - 1) A := fun A hA hc => ⟨hc, fun b hb => absurd (z b hb) id, fun b hb => Or.inr (by rw [Nat.testBit_two_pow_sub_one]; exact decide_eq_true (bit_lt hA hb))⟩
  have one : CLq n q 1 := fun v w hv hw => by
    have b1 : ∀ t, (1 : Nat).testBit t = true → t = 0 := fun t ht => by
      have := bit_lt (x := 1) (m := 1) (by decide) ht
      omega
    rw [b1 v hv, b1 w hw, slw_self]
    omega
  have h1 := r5 1 (f 1 (Nat.one_lt_two_pow (by have := Nat.two_pow_pos n; omega)) one)
  rw [show pc 1 16 = 1 by decide] at h1
  obtain ⟨k1, k2⟩ := r6 (by omega)
  have hR : R < 2 ^ 2 ^ n := by
    refine Nat.lt_pow_two_of_testBit _ fun w hw => ?_
    cases e : R.testBit w
    · rfl
    · rcases k1.2.2 w e with g | g
      · exact absurd (z w g) id
      · have := bit_lt hm g; omega
  refine ⟨R, ?_, hR, k1.1, fun A hA hc => ⟨r5 A (f A hA hc), k2 A (f A hA hc)⟩⟩
  unfold K_greatestBook
  rw [h4, if_neg (show ¬ (4 : Int32) < nI n by rw [show (4 : Int32) = nI 4 from rfl, nI_ltI (by omega) (by omega)]; omega), show (0 : Int32) = nI 0 from rfl, K_rowOf_e, crd_s, h5, pw_16 _ (by omega), show nI (2 ^ 2 ^ n) - 1 = nI (2 ^ 2 ^ n - 1) from pk_sub (a := 2 ^ 2 ^ n) (b := 1) (Nat.two_pow_pos _), show (q * 256 + 0) * 4 = q * 1024 by omega, r1, crd_s]
theorem ok_greatest : st_greatest F9 Rel9 := by
  intro S M h x y
  obtain ⟨n, hp⟩ := h.1
  obtain ⟨n2, n8, sn, mn, -⟩ := id hp
  unfold N_greatest M_greatest
  rw [N_isSlow_e, l0, l1, l4, M_in_e, M_in_e]
  simp only [crd_s, i10, c0, c1, ti4]
  by_cases g1 : 0 ≤ x.toInt ∧ x.toInt ≤ 4
  · rw [if_pos g1, if_pos g1]
    by_cases g2 : 0 ≤ y.toInt ∧ y.toInt ≤ 1
    · have y0 : ¬ y < 0 := by rw [ilt, c0]; omega
      have y1 : ¬ 1 < y := by rw [ilt, c1]; omega
      rw [if_neg y0, if_neg y1, if_pos g2, sn, mn]
      have lt : (4 : Int32) < nI n ↔ 4 < n := nI_ltI (a := 4) (by omega) (by omega)
      by_cases g3 : 4 < n
      · rw [if_pos (lt.mpr g3), if_pos (lt.mpr g3)]
        exact ⟨-2, S, M, rfl, rfl, h⟩
      · have n4 : n ≤ 4 := by omega
        have h16 := pw44 n4
        have h65 : 2 ^ 2 ^ n ≤ 2 ^ 16 := Nat.pow_le_pow_right (by decide) h16
        rw [if_neg (fun z => g3 (lt.mp z)), if_neg (fun z => g3 (lt.mp z))]
        obtain ⟨q, hq, rfl, eq⟩ := i_nat g1.1
        have hq5 : q < 5 := by omega
        obtain ⟨S', a1, a2, a3, a4, a5, a6⟩ := prepare_e n2 n8 h.2.2.2.2.1
        obtain ⟨V, b1, b2, b3⟩ := great_N n4 hq5 a4 a5 a6
        obtain ⟨M', m1, m2, m3⟩ := near_out (p2 := y) (k4 := fun S5 => M_greatest_L116 F9 y (nI (2 ^ n)) S5 (fun v7 => (if y = 0 then crd (M_countOf F9 S5 v7) fun v8 => some (v8, S5) else some (v7, S5))) F9 0 1) (by omega) n4 hq5 (2 ^ n) 0 F9 M (by omega) (by unfold F9; omega) mn (fun v hv => by omega)
        rw [nI_0] at m1
        have start : BestQ n q (fun A => A < 1) 0 := ⟨fun v w hv => absurd hv (by rw [Nat.zero_testBit]; decide), fun A hA _ => by
          have : A = 0 := by have : A < 1 := hA; omega
          rw [this]
          exact ⟨Nat.le_refl _, fun _ => Or.inl rfl⟩⟩
        have p2p := Nat.two_pow_pos (2 ^ n)
        obtain ⟨W, w1, w2, w3⟩ := great_M (p2 := y) (k6 := fun v7 => (if y = 0 then crd (M_countOf F9 M' v7) fun v8 => some (v8, M') else some (v7, M'))) n4 m3 (2 ^ 2 ^ n - 1) 1 F9 0 (by omega) (by unfold F9; omega) (by omega) start
        have e := BestQ_one b2 w2 b3 w3
        subst e
        have fin : Rel9 S' M' := rel_cd h (fun a ha => a2 a (by omega) (by omega)) (Or.inr ⟨n, n2, n8, a4, a5, a6⟩) (fun k h1 h2 _ => m2.1 k h1 h2) (fun a ha => m2.2 a (by omega) (by omega) (by omega)) (by
          have hd := h.2.2.2.2.2
          unfold RelD at hd ⊢
          rw [m2.1 31 (by decide) (by decide), m2.2 13 (by decide) (by decide) (by decide)]
          exact hd)
        rw [a1, cav_s, b1, crd_s, bnd_e, pw_n n (by omega), m1]
        have w1' : M_greatest_L116 F9 y (nI (2 ^ n)) M' (fun v7 => (if y = 0 then crd (M_countOf F9 M' v7) fun v8 => some (v8, M') else some (v7, M'))) F9 0 1 = _ := w1
        rw [w1', Ji_16 (by omega), M_countOf_e F9_20 (by omega), crd_s, crd_s]
        by_cases gy : y = 0
        · rw [if_pos gy, if_pos gy]
          exact ⟨_, S', M', rfl, rfl, fin⟩
        · rw [if_neg gy, if_neg gy]
          exact ⟨_, S', M', rfl, rfl, fin⟩
    · rw [if_neg g2]
      refine ⟨-1, S, M, ?_, rfl, h⟩
      by_cases g3 : y < 0
      · rw [if_pos g3]
      · rw [if_neg g3, if_pos (by rw [ilt, c1]; rw [ilt, c0] at g3; omega)]
  · rw [if_neg g1, if_neg g1]
    exact ⟨-1, S, M, rfl, rfl, h⟩
