/-! B: best, what each pair of neighbours costs -/
def Utb (W q : Nat → Nat → Nat) (a i x y : Nat) : Nat := W x y + (if x < a ∨ (x = a ∧ y < i) then q x y else 0)
def sqm (m : Nat → Int) (a b : Nat) : Nat := ((m a - m b) * (m a - m b)).natAbs
theorem wtM.cong {M : St} {n : Nat} {D E : Nat → Nat → Nat} (h : wtM M n D) (e : ∀ a b, a < n → b < n → D a b = E a b) : wtM M n E := fun a b ha hb => by rw [← e a b ha hb]; exact h a b ha hb
theorem addM_in {n a : Nat} {p1 v39 v43 : Int32} {W : Nat → Nat → Nat} {m : Nat → Int} {k49 : St → Option (Int32 × St)} (n8 : n ≤ 8) (ha : a < n) : ∀ (k i f : Nat) (M : St), i + k = n → k < f → M.1 0 0 = nI n → (∀ p, p < n → M.1 7 p = iz (m p) ∧ Tri (m p)) → wtM M n (Utb W (sqm m) a i) → ∃ M', M_best_L88 F9 p1 v39 v43 (nI a) k49 f M (nI i) = k49 M' ∧ Sq9 8 M M' ∧ wtM M' n (Utb W (sqm m) (a + 1) 0)
  | 0, i, f + 1, M, hi, hf, hn, hm, hw => by
    refine ⟨M, ?_, Sq9.rf, hw.cong fun x y hx hy => ?_⟩
    · rw [M_best_L88, hn, if_neg (by rw [nI_ltI (by omega) (by omega)]; omega)]
    · unfold Utb
      congr 1
      by_cases g : x < a ∨ (x = a ∧ y < i)
      · rw [if_pos g, if_pos (by omega)]
      · rw [if_neg g, if_neg (by omega)]
  | k + 1, i, f + 1, M, hi, hf, hn, hm, hw => by
    have hA := hm a ha
    have hI := hm i (by omega)
    obtain ⟨M', b1, b2, b3⟩ := addM_in (p1 := p1) (v39 := v39) (v43 := v43) (W := W) (k49 := k49) n8 ha k (i + 1) f (sI M 8 (8 * a + i) (nI (W a i + sqm m a i))) (by omega) (by omega) (by rw [sI_row _ _ _ _ _ (by decide), hn]) (fun p hp => by rw [sI_row _ _ _ _ _ (by decide)]; exact hm p hp) (fun x y hx hy => by
      rw [sI_at]
      unfold Utb
      by_cases e : 8 * x + y = 8 * a + i
      · obtain ⟨rfl, rfl⟩ : x = a ∧ y = i := by omega
        rw [if_pos ⟨rfl, rfl⟩, if_pos (by omega)]
      · rw [if_neg (fun z => e z.2), hw x y hx hy, Utb]
        congr 2
        by_cases g : x < a ∨ (x = a ∧ y < i)
        · rw [if_pos g, if_pos (by omega)]
        · rw [if_neg g, if_neg (by omega)])
    refine ⟨M', ?_, Sq9.sI.tr b2, b3⟩
    have hw1 := hw a i ha (by omega)
    unfold Utb at hw1
    rw [if_neg (by omega), Nat.add_zero] at hw1
    rw [M_best_L88, hn, if_pos (by rw [nI_ltI (by omega) (by omega)]; omega), show (8 : Int32) = nI 8 from rfl, pk_mul, nI_add, chk_n _ (by omega) (by decide), chk_n _ (by omega) (by decide), chk_n _ (by omega) (by decide), chk_n _ (by omega) (by decide), chk_n _ (by omega) (by decide), chk_n _ (by omega) (by decide), nI_clamp (by omega), nI_clamp (by omega), nI_clamp (by omega), hA.1, hI.1, iz_sq hA.2 hI.2, hw1, nI_add, bnd_e, bnd_e, nI_1]
    exact b1
theorem addM_out {n : Nat} {p1 v39 v43 : Int32} {W : Nat → Nat → Nat} {m : Nat → Int} {k44 : St → Option (Int32 × St)} (n8 : n ≤ 8) : ∀ (k i f : Nat) (M : St), i + k = n → k < f → M.1 0 0 = nI n → (∀ p, p < n → M.1 7 p = iz (m p) ∧ Tri (m p)) → wtM M n (Utb W (sqm m) i 0) → ∃ M', M_best_L76 F9 p1 v39 v43 k44 f M (nI i) = k44 M' ∧ Sq9 8 M M' ∧ wtM M' n (fun a b => W a b + sqm m a b)
  | 0, i, f + 1, M, hi, hf, hn, hm, hw => by
    refine ⟨M, ?_, Sq9.rf, hw.cong fun x y hx hy => ?_⟩
    · rw [M_best_L76, hn, if_neg (by rw [nI_ltI (by omega) (by omega)]; omega)]
    · unfold Utb
      rw [if_pos (by omega)]
  | k + 1, i, f + 1, M, hi, hf, hn, hm, hw => by
    obtain ⟨M1, a1, a2, a3⟩ := addM_in (a := i) (p1 := p1) (v39 := v39) (v43 := v43) (W := W) (k49 := fun S50 => bnd (nI i + 1) fun v51 => M_best_L76 F9 p1 v39 v43 k44 f S50 v51) n8 (by omega) n 0 F9 M (by omega) (by unfold F9; omega) hn hm hw
    obtain ⟨M', b1, b2, b3⟩ := addM_out (p1 := p1) (v39 := v39) (v43 := v43) (k44 := k44) n8 k (i + 1) f M1 (by omega) (by omega) (by rw [a2 0 (by decide), hn]) (fun p hp => by rw [a2 7 (by decide)]; exact hm p hp) a3
    refine ⟨M', ?_, a2.tr b2, b3⟩
    rw [nI_0] at a1
    rw [M_best_L76, hn, if_pos (by rw [nI_ltI (by omega) (by omega)]; omega), a1, bnd_e, nI_1]
    exact b1
/-- the moves of a change of the row, by wires -/
def mvR (S : St) (k p : Nat) : Int := mvz (pwN S k) (pwN S (k + 1)) p
def DD (S : St) (i a b : Nat) : Nat := fb_sm (fun k => sqm (mvR S k) a b) i
def MC (S : St) (n i : Nat) : Nat := fb_sm (fun k => mvD n (mvR S k)) i
theorem sq4 : ∀ a b c d : Bool, ((mv4 a b - mv4 c d) * (mv4 a b - mv4 c d)).natAbs ≤ 4 := by decide
theorem DD_le (S : St) (i a b : Nat) (hi : i ≤ 40) : DD S i a b ≤ 160 := by
  have : DD S i a b ≤ i * 4 := fb_sm_bound fun k _ => sq4 _ _ _ _
  omega
def SqW (M M' : St) : Prop := (∀ k, k ≠ 24 → k ≠ 25 → M'.1 0 k = M.1 0 k) ∧ ∀ a, a ≠ 0 → a ≠ 7 → a ≠ 8 → a ≠ 9 → M'.1 a = M.1 a
theorem SqW.rf {M : St} : SqW M M := ⟨fun _ _ _ => rfl, fun _ _ _ _ _ => rfl⟩
theorem SqW.tr {S T U : St} (h : SqW S T) (g : SqW T U) : SqW S U := ⟨fun k k1 k2 => (g.1 k k1 k2).trans (h.1 k k1 k2), fun q k1 k2 k3 k4 => (g.2 q k1 k2 k3 k4).trans (h.2 q k1 k2 k3 k4)⟩
theorem Sq9.w8 {M M' : St} (h : Sq9 8 M M') : SqW M M' := ⟨fun k _ _ => by rw [h 0 (by decide)], fun a _ _ h8 _ => h a h8⟩
theorem Sq9.w9 {M M' : St} (h : Sq9 9 M M') : SqW M M' := ⟨fun k _ _ => by rw [h 0 (by decide)], fun a _ _ _ h9 => h a h9⟩
theorem rowM_loop {n l : Nat} {p1 : Int32} {S M : St} {k4 : St → Int32 → Option (Int32 × St)} (n2 : 2 ≤ n) (n8 : n ≤ 8) (l40 : l ≤ 40) (mn : M.1 0 0 = nI n) (ml : M.1 0 4 = nI l) (hrow : ∀ k, k < l → ∃ v, v < 2 ^ n ∧ S.1 3 k = nI v ∧ M.1 1 k = nI v) : ∀ (k i f : Nat) (M0 : St), i + k = l → k < f → SqW M M0 → wtM M0 n (DD S i) → ∃ M', M_best_L37 F9 p1 k4 f M0 (nI (MC S n i)) (nI i) = k4 M' (nI (MC S n l)) ∧ SqW M M' ∧ wtM M' n (DD S l)
  | 0, i, f + 1, M0, hi, hf, h, hw => by
    refine ⟨M0, ?_, h, by rw [← show i = l by omega]; exact hw⟩
    rw [M_best_L37, h.1 4 (by decide) (by decide), ml, if_neg (by rw [nI_ltI (by omega) (by omega)]; omega), show i = l by omega]
  | k + 1, i, f + 1, M0, hi, hf, h, hw => by
    have hpw := pw_hi n8
    have la := pwN_lt hrow n8 (i := i) (by omega)
    have lb := rwN_e hrow n8 (i := i) (by omega)
    rw [← pwN_s S i] at lb
    have m1 : M0.1 1 = M.1 1 := h.2 1 (by decide) (by decide) (by decide) (by decide)
    have ea : M_ahead F9 M0 (nI i) = some (nI (pwN S i)) := by
      unfold M_ahead
      by_cases g0 : i = 0
      · subst g0
        rw [if_pos (show nI 0 = 0 from rfl)]; rfl
      · obtain ⟨i', rfl⟩ : ∃ i', i = i' + 1 := ⟨i - 1, by omega⟩
        rw [if_neg (nI_ne0 (by omega) (by omega)), nI_pred, chk_n _ (by omega) (by decide), nI_clamp (by omega), m1, (rwN_e hrow n8 (i := i') (by omega)).2.2, pwN_s]
    have mn0 : M0.1 0 0 = nI n := by rw [h.1 0 (by decide) (by decide), mn]
    obtain ⟨M1, d1, d2, d3⟩ := M_moves_e (F := F9) (n := n) (a := pwN S i) (b := pwN S (i + 1)) (c := n) (g := 0) (M := M0) (e := fun p => p) (p4 := 0) F9_20 (by omega) (by omega) n8 (by omega) (by omega) (by omega) mn0 (fun p hp => ⟨by omega, fun _ => rfl, fun z => absurd (Or.inl rfl) z⟩)
    rw [nI_0] at d1
    have w1 : wtM M1 n (Utb (DD S i) (sqm (mvR S i)) 0 0) := fun a b ha hb => by
      rw [d2.2.1 8 (by decide) (by decide), hw a b ha hb]
      unfold Utb
      rw [if_neg (by omega), Nat.add_zero]
    obtain ⟨M2, e1, e2, e3⟩ := addM_out (p1 := p1) (v39 := nI i) (v43 := nI (MC S n (i + 1))) (W := DD S i) (m := mvR S i) (k44 := fun S45 => bnd (nI i + 1) fun v46 => M_best_L37 F9 p1 k4 f S45 (nI (MC S n (i + 1))) v46) n8 n 0 F9 M1 (by omega) (by unfold F9; omega) (by rw [d2.1 0 (by decide) (by decide), mn0]) (fun p hp => d3.2.2.2.2.2 p hp) w1
    have sq : SqW M M2 := (h.tr ⟨d2.1, fun a a0 a7 _ _ => d2.2.1 a a0 a7⟩).tr e2.w8
    obtain ⟨M', f1, f2, f3⟩ := rowM_loop (p1 := p1) (k4 := k4) n2 n8 l40 mn ml hrow k (i + 1) f M2 (by omega) (by omega) sq (e3.cong fun a b _ _ => rfl)
    refine ⟨M', ?_, f2, f3⟩
    rw [nI_0] at e1
    rw [M_best_L37, h.1 4 (by decide) (by decide), ml, if_pos (by rw [nI_ltI (by omega) (by omega)]; omega), ea, crd_s, chk_n _ (by omega) (by decide), nI_clamp (by omega), m1, lb.2.2, mn0, d1, cav_s, M_movedNow_e F9_20 d3, crd_s, bnd_e, nI_add]
    rw [show MC S n i + mvD n (fun p => mvz (pwN S i) (pwN S (i + 1)) p) = MC S n (i + 1) from rfl, e1, bnd_e, nI_1]
    exact f1
theorem zeroM {p1 : Int32} {k2 : St → Option (Int32 × St)} : ∀ (k i f : Nat) (M : St), i + k = 64 → k < f → (∀ t, t < i → M.1 8 t = 0) → ∃ M', M_best_L16 F9 p1 k2 f M (nI i) = k2 M' ∧ Sq9 8 M M' ∧ ∀ t, t < 64 → M'.1 8 t = 0
  | 0, i, f + 1, M, hi, hf, hz => by
    refine ⟨M, ?_, Sq9.rf, fun t ht => hz t (by omega)⟩
    rw [M_best_L16, if_neg (show ¬ nI i < 64 by rw [show (64 : Int32) = nI 64 from rfl, nI_ltI (by omega) (by omega)]; omega)]
  | k + 1, i, f + 1, M, hi, hf, hz => by
    obtain ⟨M', a1, a2, a3⟩ := zeroM (p1 := p1) (k2 := k2) k (i + 1) f (sI M 8 i 0) (by omega) (by omega) (fun t ht => by
      rw [sI_at]
      by_cases e : t = i
      · rw [if_pos ⟨rfl, e⟩]
      · rw [if_neg (fun z => e z.2), hz t (by omega)])
    refine ⟨M', ?_, Sq9.sI.tr a2, a3⟩
    rw [M_best_L16, if_pos (show nI i < 64 from (nI_ltI (b := 64) (by omega) (by omega)).mpr (by omega)), chk_n _ (by omega) (by decide), nI_clamp (by omega), bnd_e, bnd_e, nI_1]
    exact a1
theorem idM {n : Nat} {p1 v6 : Int32} {k7 : St → Option (Int32 × St)} (n8 : n ≤ 8) : ∀ (k i f : Nat) (M : St), i + k = n → k < f → M.1 0 0 = nI n → (∀ t, t < i → M.1 9 t = nI t) → ∃ M', M_best_L164 F9 p1 v6 k7 f M (nI i) = k7 M' ∧ Sq9 9 M M' ∧ PS M' n (fun i => i)
  | 0, i, f + 1, M, hi, hf, hn, hz => by
    refine ⟨M, ?_, Sq9.rf, fun t ht => hz t (by omega)⟩
    rw [M_best_L164, hn, if_neg (by rw [nI_ltI (by omega) (by omega)]; omega)]
  | k + 1, i, f + 1, M, hi, hf, hn, hz => by
    obtain ⟨M', a1, a2, a3⟩ := idM (p1 := p1) (v6 := v6) (k7 := k7) n8 k (i + 1) f (sI M 9 i (nI i)) (by omega) (by omega) (by rw [sI_row _ _ _ _ _ (by decide), hn]) (fun t ht => by
      rw [sI_at]
      by_cases e : t = i
      · rw [if_pos ⟨rfl, e⟩, e]
      · rw [if_neg (fun z => e z.2), hz t (by omega)])
    refine ⟨M', ?_, Sq9.sI.tr a2, a3⟩
    rw [M_best_L164, hn, if_pos (by rw [nI_ltI (by omega) (by omega)]; omega), chk_n _ (by omega) (by decide), nI_clamp (by omega), bnd_e, bnd_e, nI_1]
    exact a1
/-- the reference's best order -/
theorem best_M {n l o d : Nat} {p1 : Int32} {S M : St} (n2 : 2 ≤ n) (n8 : n ≤ 8) (l40 : l ≤ 40) (hd : d ≤ 99) (mn : M.1 0 0 = nI n) (ml : M.1 0 4 = nI l) (mo : M.1 0 1 = nI o) (md : M.1 0 2 = nI d) (hrow : ∀ k, k < l → ∃ v, v < 2 ^ n ∧ S.1 3 k = nI v ∧ M.1 1 k = nI v) (hp1 : 0 ≤ p1.toInt ∧ p1.toInt ≤ 1) : ∃ V M', M_best F9 M p1 = some (if p1 = 0 then nI (o * MC S n l + d * csP n (DD S l) V) else nI (fgp V n), M') ∧ SqW M M' ∧ BestP n d (DD S l) V := by
  obtain ⟨M1, a1, a2, a3⟩ := zeroM (p1 := p1) (k2 := fun S3 => M_best_L37 F9 p1 (fun S5 v6 => M_best_L164 F9 p1 v6 (fun S8 => M_best_L194 F9 p1 v6 (fun S10 v11 v12 => (if p1 = 0 then some (((S10.1 0 1) * v6) + v11, S10) else some (v12, S10))) F9 S8 100000000 0 1) F9 S5 0) F9 S3 0 0) 64 0 F9 M (by omega) (by unfold F9; omega) (fun t ht => by omega)
  obtain ⟨M2, b1, b2, b3⟩ := rowM_loop (p1 := p1) (k4 := fun S5 v6 => M_best_L164 F9 p1 v6 (fun S8 => M_best_L194 F9 p1 v6 (fun S10 v11 v12 => (if p1 = 0 then some (((S10.1 0 1) * v6) + v11, S10) else some (v12, S10))) F9 S8 100000000 0 1) F9 S5 0) n2 n8 l40 mn ml hrow l 0 F9 M1 (by omega) (by unfold F9; omega) a2.w8 (fun a b ha hb => by rw [a3 _ (by omega)]; rfl)
  obtain ⟨M3, q1, q2, q3⟩ := idM (p1 := p1) (v6 := nI (MC S n l)) (k7 := fun S8 => M_best_L194 F9 p1 (nI (MC S n l)) (fun S10 v11 v12 => (if p1 = 0 then some (((S10.1 0 1) * nI (MC S n l)) + v11, S10) else some (v12, S10))) F9 S8 100000000 0 1) n8 n 0 F9 M2 (by omega) (by unfold F9; omega) (by rw [b2.1 0 (by decide) (by decide), mn]) (fun t ht => by omega)
  have sq3 : SqW M M3 := b2.tr q2.w9
  obtain ⟨V, M4, e1, e2, e3⟩ := perms_loop (p1 := p1) (v6 := nI (MC S n l)) (k9 := fun S10 v11 v12 => (if p1 = 0 then some (((S10.1 0 1) * nI (MC S n l)) + v11, S10) else some (v12, S10))) n2 n8 hd (fun a b => DD_le S l a b l40) 100000000 F9 M3 (fun i => i) 100000000 0 (by omega) (by unfold F9; omega) (by rw [sq3.1 0 (by decide) (by decide), mn]) (by rw [sq3.1 2 (by decide) (by decide), md]) (fun a b ha hb => by rw [q2 8 (by decide)]; exact b3 a b ha hb) (Pm_id n) q3 (Or.inr ⟨rfl, rfl, fun r hr => Pm_first hr⟩)
  have sq4 : SqW M M4 := sq3.tr e2.w9
  refine ⟨V, M4, ?_, sq4, e3⟩
  have l0' : (0 : Int64) = (0 : Int32).toInt64 := by decide
  have l1' : (1 : Int64) = (1 : Int32).toInt64 := by decide
  unfold M_best
  rw [l0', l1', M_in_e, crd_s, i10, c0, c1, if_pos hp1]
  rw [nI_0] at a1 q1
  rw [a1]
  have b1' : M_best_L37 F9 p1 (fun S5 v6 => M_best_L164 F9 p1 v6 (fun S8 => M_best_L194 F9 p1 v6 (fun S10 v11 v12 => (if p1 = 0 then some (((S10.1 0 1) * v6) + v11, S10) else some (v12, S10))) F9 S8 100000000 0 1) F9 S5 0) F9 M1 0 0 = _ := b1
  rw [b1', q1]
  have e1' : M_best_L194 F9 p1 (nI (MC S n l)) (fun S10 v11 v12 => (if p1 = 0 then some (((S10.1 0 1) * nI (MC S n l)) + v11, S10) else some (v12, S10))) F9 M3 100000000 0 1 = _ := e1
  rw [e1', sq4.1 1 (by decide) (by decide), mo, pk_mul, nI_add]
  split <;> rfl
