/-! B: text: numbers and ends of lines on both sides -/
def FM (M M' : St) : Prop := (∀ a, a ≠ 0 → a ≠ 3 → a ≠ 4 → M'.1 a = M.1 a) ∧ ∀ k, (k < 7 ∨ (12 ≤ k ∧ k < 16) ∨ 21 < k) → M'.1 0 k = M.1 0 k
theorem FM.rf {S : St} : FM S S := ⟨fun _ _ _ _ => rfl, fun _ _ => rfl⟩
theorem FM.tr {S T U : St} (h : FM S T) (g : FM T U) : FM S U := ⟨fun a a1 a2 a3 => (g.1 a a1 a2 a3).trans (h.1 a a1 a2 a3), fun k hk => (g.2 k hk).trans (h.2 k hk)⟩
theorem FrR.m {M M' : St} (h : FrR M M') : FM M M' := ⟨fun a a1 _ _ => h.1 a a1, fun k hk => h.2 k (by omega)⟩
theorem FM.s0 {M : St} {k : Nat} {v : Int32} (h : (7 ≤ k ∧ k < 12) ∨ (16 ≤ k ∧ k ≤ 21)) : FM M (sI M 0 k v) := ⟨fun a a1 _ _ => sI_row _ _ _ _ _ a1, fun j hj => by rw [sI_at, if_neg (by omega)]⟩
theorem FM.s3 {M : St} {k : Nat} {v : Int32} : FM M (sI M 3 k v) := ⟨fun a _ a3 _ => sI_row _ _ _ _ _ a3, fun j _ => by rw [sI_row _ _ _ _ _ (by decide)]⟩
theorem FM.s4 {M : St} {k : Nat} {v : Int32} : FM M (sI M 4 k v) := ⟨fun a _ _ a4 => sI_row _ _ _ _ _ a4, fun j _ => by rw [sI_row _ _ _ _ _ (by decide)]⟩
theorem BM.fm {M M' : St} {B : Nat → Nat} {t : Nat} (h : BM M B t) (f : FM M M') : BM M' B t := by
  unfold BM at *
  rw [f.2 15 (by omega), f.1 5 (by decide) (by decide) (by decide)]
  exact h
/-- a fault c at place s is told -/
def Flt (M : St) (c s : Nat) : Prop := 1 ≤ c ∧ c ≤ 5 ∧ M.1 0 20 = nI c ∧ M.1 0 21 = nI s
theorem Flt.n0 {M : St} {c s : Nat} (h : Flt M c s) : ¬ M.1 0 20 = 0 := by
  rw [h.2.2.1]
  exact nI_ne0 (by have := h.1; omega) (by have := h.2.1; omega)
theorem Flt.pos {M : St} {c s : Nat} (h : Flt M c s) : 0 < M.1 0 20 := by
  rw [h.2.2.1]
  exact (nI_ltI (a := 0) (by omega) (by have := h.2.1; omega)).mpr (by have := h.1; omega)
theorem Flt.fr {M M' : St} {c s : Nat} (h : Flt M c s) (e1 : M'.1 0 20 = M.1 0 20) (e2 : M'.1 0 21 = M.1 0 21) : Flt M' c s := ⟨h.1, h.2.1, by rw [e1]; exact h.2.2.1, by rw [e2]; exact h.2.2.2⟩
theorem Flt.s {M : St} {c s : Nat} (h : Flt M c s) {k : Nat} {v : Int32} (hk : k < 20) : Flt (sI M 0 k v) c s := h.fr (by rw [sI_at, if_neg (by omega)]) (by rw [sI_at, if_neg (by omega)])
theorem next_F {M : St} {c s : Nat} (h : Flt M c s) : M_next F9 M = some M := M_next_f h.pos
theorem isNumber_F {M : St} {c s : Nat} {a b : Int32} (h : Flt M c s) : M_isNumber F9 M a b = some M := by
  unfold M_isNumber
  simp only [jn_e]
  rw [if_neg h.n0, if_neg h.n0]
theorem readNumber_F {M : St} {c s : Nat} {a b : Int32} (h : Flt M c s) : M_readNumber F9 M a b = some (M.1 0 19, M) := by
  unfold M_readNumber
  rw [isNumber_F h, cav_s, bnd_e, next_F h, cav_s]
theorem wants_bad {M : St} {c s : Nat} {co : Int32} (hc : 1 ≤ c ∧ c ≤ 5) (e : co = nI c) (h20 : M.1 0 20 = 0) (h17 : M.1 0 17 = nI s) : ∃ M', M_wants F9 M 0 co = some M' ∧ FrR M M' ∧ Flt M' c s ∧ M'.1 0 19 = M.1 0 19 := by
  refine ⟨_, wants_0 h20, (FrR.sI (by omega)).tr (FrR.sI (by omega)), ⟨hc.1, hc.2, ?_, ?_⟩, ?_⟩
  · rw [sI_at, if_neg (by decide), sI_at, if_pos ⟨rfl, rfl⟩, e]
  · rw [sI_at, if_pos ⟨rfl, rfl⟩, h17]
  · rw [sI_at, if_neg (by decide), sI_at, if_neg (by decide)]
theorem TokM.f4 {M : St} {B : Nat → Nat} {t p : Nat} (h : TokM M B t p) (hk : tkK B t p = 4) : Flt M 1 (tkS B t p) := by
  rcases h.2 with ⟨-, h1, h2⟩ | ⟨h1, -⟩
  · exact ⟨by omega, by omega, h1, h2⟩
  · exact absurd hk h1
theorem TokM.ok {M : St} {B : Nat → Nat} {t p : Nat} (h : TokM M B t p) (hk : tkK B t p ≠ 4) : M.1 0 17 = nI (tkS B t p) ∧ M.1 0 20 = 0 ∧ M.1 0 18 = nI (tkK B t p) ∧ (tkK B t p = 1 → M.1 0 19 = nI (tkV B t p - 1)) ∧ (tkK B t p = 2 → M.1 0 19 = nI (tkV B t p)) ∧ M.1 0 16 = nI (tkE B t p) := by
  rcases h.2 with ⟨h1, -⟩ | ⟨-, h1⟩
  · exact absurd h1 hk
  · exact ⟨h.1, h1⟩
theorem tkK_le (B : Nat → Nat) (t p : Nat) : tkK B t p ≤ 4 := by
  unfold tkK
  repeat (first | omega | split)
theorem tkV_lt {B : Nat → Nat} {t p : Nat} (h : tkK B t p = 2) : tkV B t p < 1000 := by
  unfold tkK at h
  by_cases g : tkS B t p < t
  · rw [if_pos g] at h
    by_cases gl : isLt (B (tkS B t p))
    · rw [if_pos gl] at h
      split at h <;> omega
    · rw [if_neg gl] at h
      by_cases gd : isDg (B (tkS B t p))
      · rw [if_pos gd] at h
        have eE : tkE B t p = rn B 48 57 (t - tkS B t p) (tkS B t p) := by
          unfold tkE; rw [if_pos g, if_neg gl, if_pos gd]
        have x := rn_x B 48 57 (t - tkS B t p) (tkS B t p)
        by_cases g3 : 3 < tkE B t p - tkS B t p
        · rw [if_pos g3] at h; omega
        · unfold tkV
          rw [if_neg gl]
          have a := dvF_lt (B := B) (s := tkS B t p) (tkE B t p - tkS B t p) (fun i hi => x.2.2 _ (by omega) (by rw [← eE]; omega))
          have b : 10 ^ (tkE B t p - tkS B t p) ≤ 10 ^ 3 := Nat.pow_le_pow_right (by decide) (by omega)
          omega
      · rw [if_neg gd] at h
        split at h <;> omega
  · rw [if_neg g] at h; omega
/-- what a number's fault is -/
def numC (K : Nat) : Nat := if K = 4 then 1 else if K = 2 then 3 else 2
theorem isNumber_e {t p lo hi : Nat} {M : St} {B : Nat → Nat} {a b : Int32} (h : TokM M B t p) (ha : a.toInt = lo) (hb : b.toInt = hi) : (tkK B t p = 2 ∧ lo ≤ tkV B t p ∧ tkV B t p ≤ hi ∧ M_isNumber F9 M a b = some M) ∨ (¬ (tkK B t p = 2 ∧ lo ≤ tkV B t p ∧ tkV B t p ≤ hi) ∧ ∃ M', M_isNumber F9 M a b = some M' ∧ FrR M M' ∧ Flt M' (numC (tkK B t p)) (tkS B t p) ∧ M'.1 0 19 = M.1 0 19) := by
  by_cases g4 : tkK B t p = 4
  · right
    refine ⟨fun z => by omega, M, isNumber_F (h.f4 g4), FrR.rf, ?_, rfl⟩
    rw [g4]
    exact h.f4 g4
  · obtain ⟨h17, h20, h18, h1, h2, h16⟩ := h.ok g4
    have kle := tkK_le B t p
    have e2 : M.1 0 18 = 2 ↔ tkK B t p = 2 := by rw [h18]; exact nI_eq (b := 2) (by omega) (by omega)
    unfold M_isNumber
    simp only [jn_e]
    rw [if_pos h20]
    by_cases g2 : tkK B t p = 2
    · have vl := tkV_lt g2
      rw [if_pos (e2.mpr g2), wants_1, cav_s, if_pos h20, h2 g2, M_in_e, crd_s, nI_toInt (by omega), ha, hb]
      by_cases g : lo ≤ tkV B t p ∧ tkV B t p ≤ hi
      · rw [if_pos (show (lo : Int) ≤ tkV B t p ∧ (tkV B t p : Int) ≤ hi by omega), wants_1, cav_s]
        exact Or.inl ⟨g2, g.1, g.2, rfl⟩
      · rw [if_neg (show ¬ ((lo : Int) ≤ tkV B t p ∧ (tkV B t p : Int) ≤ hi) by omega)]
        obtain ⟨M', w1, w2, w3, w4⟩ := wants_bad (c := 3) (co := 3) (by omega) rfl h20 h17
        rw [w1, cav_s]
        refine Or.inr ⟨fun z => g z.2, M', rfl, w2, ?_, by rw [w4, h2 g2]⟩
        rw [g2]
        exact w3
    · rw [if_neg (fun z => g2 (e2.mp z))]
      obtain ⟨M', w1, w2, w3, w4⟩ := wants_bad (c := 2) (co := 2) (by omega) rfl h20 h17
      rw [w1, cav_s, if_neg w3.n0]
      refine Or.inr ⟨fun z => g2 z.1, M', rfl, w2, ?_, w4⟩
      unfold numC
      rw [if_neg g4, if_neg g2]
      exact w3
/-- a number read: its value is taken, the next token stands -/
theorem readNumber_e {t p lo hi : Nat} {M : St} {B : Nat → Nat} {a b : Int32} (hB : BM M B t) (hp : p ≤ t) (h : TokM M B t p) (ha : a.toInt = lo) (hb : b.toInt = hi) : (tkK B t p = 2 ∧ lo ≤ tkV B t p ∧ tkV B t p ≤ hi ∧ ∃ M', M_readNumber F9 M a b = some (nI (tkV B t p), M') ∧ FrR M M' ∧ TokM M' B t (tkE B t p)) ∨ (¬ (tkK B t p = 2 ∧ lo ≤ tkV B t p ∧ tkV B t p ≤ hi) ∧ ∃ v M', M_readNumber F9 M a b = some (v, M') ∧ FrR M M' ∧ Flt M' (numC (tkK B t p)) (tkS B t p)) := by
  have hE := tkE_x B hp
  unfold M_readNumber
  rcases isNumber_e h ha hb with ⟨h1, h2, h3, h4⟩ | ⟨h1, M', h2, h3, h4, h5⟩
  · obtain ⟨h17, h20, h18, k1, k2, h16⟩ := h.ok (by omega)
    obtain ⟨M', n1, n2, n3⟩ := M_next_e hB hE.2.1 h20 h16
    left
    refine ⟨h1, h2, h3, M', ?_, n2, n3⟩
    rw [h4, cav_s, bnd_e, n1, cav_s, k2 h1]
  · right
    refine ⟨h1, M'.1 0 19, M', ?_, h3, h4⟩
    rw [h2, cav_s, bnd_e, next_F h4, cav_s]
/-- the end of a line on the reference's side -/
def endM (F : Nat) (S13 : St) : Option St := jn (fun (S15 : St) => cav (M_next F S15) fun S17 => some S17) fun (J16 : St → Option St) => (if (S13.1 0 20) = 0 then jn (fun (v18 : Int32) => cav (M_wants F S13 v18 2) fun S20 => J16 S20) fun (J19 : Int32 → Option St) => (if (S13.1 0 18) = 3 then J19 1 else J19 0) else J16 S13)
theorem endM_F {M : St} {c s : Nat} (h : Flt M c s) : endM F9 M = some M := by
  unfold endM
  simp only [jn_e]
  rw [if_neg h.n0, next_F h, cav_s]
def outC (K : Nat) : Nat := if K = 4 then 1 else 2
theorem endM_e {t p : Nat} {M : St} {B : Nat → Nat} (hB : BM M B t) (hp : p ≤ t) (h : TokM M B t p) : ∃ M', endM F9 M = some M' ∧ FrR M M' ∧ ((tkK B t p = 3 ∧ TokM M' B t (tkE B t p)) ∨ (tkK B t p ≠ 3 ∧ Flt M' (outC (tkK B t p)) (tkS B t p))) := by
  have hE := tkE_x B hp
  by_cases g4 : tkK B t p = 4
  · refine ⟨M, endM_F (h.f4 g4), FrR.rf, Or.inr ⟨by omega, ?_⟩⟩
    rw [g4]
    exact h.f4 g4
  · obtain ⟨h17, h20, h18, h1, h2, h16⟩ := h.ok g4
    have kle := tkK_le B t p
    have e3 : M.1 0 18 = 3 ↔ tkK B t p = 3 := by rw [h18]; exact nI_eq (b := 3) (by omega) (by omega)
    unfold endM
    simp only [jn_e]
    rw [if_pos h20]
    by_cases g3 : tkK B t p = 3
    · obtain ⟨M', n1, n2, n3⟩ := M_next_e hB hE.2.1 h20 h16
      rw [if_pos (e3.mpr g3), wants_1, cav_s, n1, cav_s]
      exact ⟨M', rfl, n2, Or.inl ⟨g3, n3⟩⟩
    · rw [if_neg (fun z => g3 (e3.mp z))]
      obtain ⟨M', w1, w2, w3, w4⟩ := wants_bad (c := 2) (co := 2) (by omega) rfl h20 h17
      rw [w1, cav_s, next_F w3, cav_s]
      refine ⟨M', rfl, w2, Or.inr ⟨g3, ?_⟩⟩
      unfold outC
      rw [if_neg g4]
      exact w3
/-- one step of a line on the class's side -/
theorem L48_e {t p j nm f : Nat} {S : St} {B : Nat → Nat} (h : BN S B t) (hp : p ≤ t) (h5 : S.1 7 5 = nI p) (hj : j ≤ 240) (hn : 1 ≤ nm ∧ nm ≤ 6) : ∃ S6, FrT S S6 ∧ S6.1 7 2 = nI (tkS B t p) ∧ S6.1 7 5 = nI (tkE B t p) ∧ R_readLine_L48 F9 (nI nm) (f + 1) S (nI j) = (if tkK B t p = 3 ∧ ¬ j < (if nm = 6 then 3 else 1) then some (0, S6) else if tkK B t p = 2 ∧ j < (if nm = 5 then 240 else if nm = 6 then 3 else 1) then cal (R_take F9 S6 (nI nm) (nI j) (nI (tkV B t p))) fun v15 S16 => (if v15 = 0 then R_readLine_L48 F9 (nI nm) f S16 (nI (j + 1)) else some (v15, S16)) else some (nI (outC (tkK B t p)), S6)) := by
  have h1 := h.2.1
  obtain ⟨S6, a1, a2, a3, a4, a5, a6⟩ := T_next_e h hp h5
  have kle := tkK_le B t p
  refine ⟨S6, a2, a3, a6, ?_⟩
  have e3 : nI (tkK B t p) = 3 ↔ tkK B t p = 3 := nI_eq (b := 3) (by omega) (by omega)
  have e2 : nI (tkK B t p) = 2 ↔ tkK B t p = 2 := nI_eq (b := 2) (by omega) (by omega)
  have e4 : nI (tkK B t p) = 4 ↔ tkK B t p = 4 := nI_eq (b := 4) (by omega) (by omega)
  have n6 : nI nm = 6 ↔ nm = 6 := nI_eq (b := 6) (by omega) (by omega)
  have n5 : nI nm = 5 ↔ nm = 5 := nI_eq (b := 5) (by omega) (by omega)
  have few : R_fewestNumbers F9 S6 (nI nm) = some (nI (if nm = 6 then 3 else 1)) := by
    unfold R_fewestNumbers
    by_cases g : nm = 6
    · rw [if_pos (n6.mpr g), if_pos g]; rfl
    · rw [if_neg (fun z => g (n6.mp z)), if_neg g]; rfl
  have most : R_mostNumbers F9 S6 (nI nm) = some (nI (if nm = 5 then 240 else if nm = 6 then 3 else 1)) := by
    unfold R_mostNumbers
    by_cases g : nm = 5
    · rw [if_pos (n5.mpr g), if_pos g]; rfl
    · rw [if_neg (fun z => g (n5.mp z)), if_neg g, few, crd_s]
  have out : R_outOfPlace F9 S6 = some (nI (outC (tkK B t p))) := by
    unfold R_outOfPlace outC
    rw [a4]
    by_cases g : tkK B t p = 4
    · rw [if_pos (e4.mpr g), if_pos g]; rfl
    · rw [if_neg (fun z => g (e4.mp z)), if_neg g]; rfl
  have oc : ¬ nI (outC (tkK B t p)) = 0 := by
    refine nI_ne0 ?_ ?_ <;> unfold outC <;> split <;> omega
  rw [R_readLine_L48, if_neg (show ¬ (240 : Int32) < nI j by rw [show (240 : Int32) = nI 240 from rfl, nI_ltI (by omega) (by omega)]; omega), a1, cav_s]
  simp only [jn_e, bnd_e, nI_1]
  rw [a4, few, most, out]
  have i11 : ¬ (1 : Int32) = 0 := by decide
  simp only [crd_s, i11, oc, if_true, if_false]
  have l1 : nI j < nI (if nm = 6 then 3 else 1) ↔ j < (if nm = 6 then 3 else 1) := nI_ltI (by omega) (by split <;> omega)
  have l2 : nI j < nI (if nm = 5 then 240 else if nm = 6 then 3 else 1) ↔ j < (if nm = 5 then 240 else if nm = 6 then 3 else 1) := nI_ltI (by omega) (by split; omega; split <;> omega)
  generalize (if nm = 6 then 3 else 1) = X at *
  generalize (if nm = 5 then 240 else X) = Y at *
  simp only [e3, e2, l1, l2]
  clear e3 e2 l1 l2 few most out oc a1
  by_cases g2 : tkK B t p = 2
  · rw [a5 (Or.inr g2)]
    generalize (cal (R_take F9 S6 (nI nm) (nI j) (nI (tkV B t p))) fun v15 S16 => if v15 = 0 then R_readLine_L48 F9 (nI nm) f S16 (nI (j + 1)) else some (v15, S16)) = A
    clear a5 a4
    grind
  · generalize (cal (R_take F9 S6 (nI nm) (nI j) (nI (tkV B t p))) fun v15 S16 => if v15 = 0 then R_readLine_L48 F9 (nI nm) f S16 (nI (j + 1)) else some (v15, S16)) = A
    generalize (cal (R_take F9 S6 (nI nm) (nI j) (S6.1 7 3)) fun v15 S16 => if v15 = 0 then R_readLine_L48 F9 (nI nm) f S16 (nI (j + 1)) else some (v15, S16)) = A'
    clear a5 a4
    grind
