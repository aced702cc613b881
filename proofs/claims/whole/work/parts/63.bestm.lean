/-! B: best, the reference's side -/
def PS (M : St) (n : Nat) (p : Nat → Nat) : Prop := ∀ i, i < n → M.1 9 i = nI (p i)
def Sq9 (q : Nat) (M M' : St) : Prop := ∀ a, a ≠ q → M'.1 a = M.1 a
theorem Sq9.rf {q : Nat} {M : St} : Sq9 q M M := fun _ _ => rfl
theorem Sq9.tr {q : Nat} {S T U : St} (h : Sq9 q S T) (g : Sq9 q T U) : Sq9 q S U := fun a ha => (g a ha).trans (h a ha)
theorem Sq9.sI {q k : Nat} {M : St} {v : Int32} : Sq9 q M (sI M q k v) := fun a ha => sI_row _ _ _ _ _ ha
theorem PS.cong {M : St} {n : Nat} {p r : Nat → Nat} (h : PS M n p) (e : ∀ i, i < n → p i = r i) : PS M n r := fun i hi => by rw [← e i hi]; exact h i hi
def swF (p : Nat → Nat) (a b j : Nat) : Nat := if j = b then p a else if j = a then p b else p j
theorem swaps_e {F n a b : Nat} {M : St} {p : Nat → Nat} (n8 : n ≤ 8) (ha : a < n) (hb : b < n) (h : PS M n p) : ∃ M', M_swaps F M (nI a) (nI b) = some M' ∧ Sq9 9 M M' ∧ PS M' n (swF p a b) := by
  refine ⟨sI (sI M 9 a (M.1 9 b)) 9 b (M.1 9 a), ?_, Sq9.sI.tr Sq9.sI, fun i hi => ?_⟩
  · unfold M_swaps
    rw [chk_n _ (by omega) (by decide), bnd_e, chk_n _ (by omega) (by decide), chk_n _ (by omega) (by decide), bnd_e, chk_n _ (by omega) (by decide), bnd_e, nI_clamp (by omega), nI_clamp (by omega)]
  · unfold swF
    rw [sI_at]
    by_cases e : i = b
    · rw [if_pos ⟨rfl, e⟩, if_pos e, h a ha]
    · rw [if_neg (fun z => e z.2), if_neg e, sI_at]
      by_cases e2 : i = a
      · rw [if_pos ⟨rfl, e2⟩, if_pos e2, h b hb]
      · rw [if_neg (fun z => e2 z.2), if_neg e2, h i hi]
def rvF (n s t : Nat) (p : Nat → Nat) (j : Nat) : Nat := if s < j ∧ j < n ∧ (j ≤ s + t ∨ n ≤ j + t) then p (n + s - j) else p j
theorem rev_loop {n s : Nat} {p : Nat → Nat} (n8 : n ≤ 8) (hs : s < n) : ∀ (k t f : Nat) (M : St), k + t = n → k < f → PS M n (rvF n s t p) → ∃ M', M_goesOn_L86 F9 f M (nI (s + 1 + t)) (nI (n - 1 - t)) = some (1, M') ∧ Sq9 9 M M' ∧ PS M' n (fun j => if s < j then p (n + s - j) else p j)
  | 0, t, f + 1, M, hk, hf, h => by
    refine ⟨M, ?_, Sq9.rf, h.cong fun j hj => ?_⟩
    · rw [M_goesOn_L86, if_neg (by rw [nI_ltI (by omega) (by omega)]; omega)]
    · unfold rvF
      by_cases g : s < j
      · rw [if_pos ⟨g, hj, by omega⟩, if_pos g]
      · rw [if_neg (fun z => g z.1), if_neg g]
  | k + 1, t, f + 1, M, hk, hf, h => by
    rw [M_goesOn_L86]
    have lt := nI_ltI (a := s + 1 + t) (b := n - 1 - t) (by omega) (by omega)
    by_cases g : s + 1 + t < n - 1 - t
    · obtain ⟨M1, a1, a2, a3⟩ := swaps_e (F := F9) n8 (show s + 1 + t < n by omega) (show n - 1 - t < n by omega) h
      rw [if_pos (lt.mpr g), a1, cav_s, bnd_e, bnd_e, nI_1, i_m1, show nI (n - 1 - t) - 1 = nI (n - 1 - t - 1) from pk_sub (a := n - 1 - t) (b := 1) (by omega), show s + 1 + t + 1 = s + 1 + (t + 1) by omega, show n - 1 - t - 1 = n - 1 - (t + 1) by omega]
      obtain ⟨M', b1, b2, b3⟩ := rev_loop n8 hs k (t + 1) f M1 (by omega) (by omega) (a3.cong fun j hj => by
        unfold swF rvF
        by_cases e1 : j = n - 1 - t
        · subst e1
          rw [if_pos rfl, if_neg (by omega), if_pos (by omega), show n + s - (n - 1 - t) = s + 1 + t by omega]
        · rw [if_neg e1]
          by_cases e2 : j = s + 1 + t
          · subst e2
            rw [if_pos rfl, if_neg (by omega), if_pos (by omega), show n + s - (s + 1 + t) = n - 1 - t by omega]
          · rw [if_neg e2]
            by_cases e3 : s < j ∧ j < n ∧ (j ≤ s + t ∨ n ≤ j + t)
            · rw [if_pos e3, if_pos (by omega)]
            · rw [if_neg e3, if_neg (by omega)])
      exact ⟨M', b1, a2.tr b2, b3⟩
    · rw [if_neg (fun z => g (lt.mp z))]
      refine ⟨M, rfl, Sq9.rf, h.cong fun j hj => ?_⟩
      unfold rvF
      by_cases g1 : s < j
      · rw [if_pos g1]
        by_cases g2 : j ≤ s + t ∨ n ≤ j + t
        · rw [if_pos ⟨g1, hj, g2⟩]
        · rw [if_neg (fun z => g2 z.2.2), show n + s - j = j by omega]
      · rw [if_neg (fun z => g1 z.1), if_neg g1]
theorem L7_e {n : Nat} {M : St} {p : Nat → Nat} {k2 : Int32 → Option (Int32 × St)} (n8 : n ≤ 8) (hp : Pm n p) (h : PS M n p) : ∀ (k f : Nat), k + 1 ≤ n → k < f → (∀ i, k ≤ i → i + 1 < n → p (i + 1) < p i) → (∃ s, s + 1 < n ∧ p s < p (s + 1) ∧ (∀ i, s < i → i + 1 < n → p (i + 1) < p i) ∧ M_goesOn_L7 F9 M k2 f (nI k - 1) = k2 (nI s)) ∨ (M_goesOn_L7 F9 M k2 f (nI k - 1) = k2 (-1) ∧ ∀ i, i + 1 < n → p (i + 1) < p i)
  | 0, f + 1, hk, hf, hd => by
    refine Or.inr ⟨?_, fun i hi => hd i (Nat.zero_le _) hi⟩
    rw [M_goesOn_L7, if_pos (show nI 0 - 1 < 0 by decide)]
    rfl
  | k + 1, f + 1, hk, hf, hd => by
    have b1 := hp.1 k (by omega)
    have b2 := hp.1 (k + 1) (by omega)
    have lt := nI_ltI (a := p (k + 1)) (b := p k) (by omega) (by omega)
    rw [M_goesOn_L7, nI_pred, if_neg (nI_pos (by omega)), chk_n _ (by omega) (by decide), nI_1, chk_n _ (by omega) (by decide), nI_clamp (by omega), nI_clamp (by omega), h k (by omega), h (k + 1) (by omega)]
    by_cases g : p (k + 1) < p k
    · rw [if_pos (lt.mpr g), bnd_e, i_m1]
      exact L7_e n8 hp h k f (by omega) (by omega) (fun i h1 h2 => by
        by_cases e : i = k
        · rw [e]; exact g
        · exact hd i (by omega) h2)
    · rw [if_neg (fun z => g (lt.mp z))]
      refine Or.inl ⟨k, by omega, ?_, fun i h1 h2 => hd i (by omega) h2, rfl⟩
      have : p k ≠ p (k + 1) := fun z => by
        have := hp.2 k (k + 1) (by omega) (by omega) z
        omega
      omega
theorem L47_e {n s : Nat} {M : St} {p : Nat → Nat} {k5 : Int32 → Option (Int32 × St)} (n8 : n ≤ 8) (hp : Pm n p) (h : PS M n p) (hs : s + 1 < n) (h1 : p s < p (s + 1)) : ∀ (t f : Nat), s + 1 + t < n → t < f → (∀ j, s + 1 + t < j → j < n → p j < p s) → ∃ e, s < e ∧ e < n ∧ p s < p e ∧ (∀ j, e < j → j < n → p j < p s) ∧ M_goesOn_L47 F9 M (nI s) k5 f (nI (s + 1 + t)) = k5 (nI e)
  | t, f + 1, ht, hf, hd => by
    have b1 := hp.1 s (by omega)
    have b2 := hp.1 (s + 1 + t) ht
    have lt := nI_ltI (a := p (s + 1 + t)) (b := p s) (by omega) (by omega)
    rw [M_goesOn_L47, chk_n _ (by omega) (by decide), chk_n _ (by omega) (by decide), nI_clamp (by omega), nI_clamp (by omega), h s (by omega), h _ ht]
    by_cases g : p (s + 1 + t) < p s
    · rw [if_pos (lt.mpr g), bnd_e, i_m1]
      cases t with
      | zero => rw [Nat.add_zero] at g; omega
      | succ t =>
        rw [show s + 1 + (t + 1) = s + 1 + t + 1 by omega, nI_pred]
        exact L47_e n8 hp h hs h1 t f (by omega) (by omega) (fun j j1 j2 => by
          by_cases e : j = s + 1 + (t + 1)
          · rw [e]; exact g
          · exact hd j (by omega) j2)
    · rw [if_neg (fun z => g (lt.mp z))]
      refine ⟨s + 1 + t, by omega, ht, ?_, fun j j1 j2 => hd j j1 j2, rfl⟩
      have : p s ≠ p (s + 1 + t) := fun z => by
        have := hp.2 s (s + 1 + t) (by omega) ht z
        omega
      omega
theorem goesOn_e {n : Nat} {M : St} {p : Nat → Nat} (n2 : 2 ≤ n) (n8 : n ≤ 8) (hn : M.1 0 0 = nI n) (hp : Pm n p) (h : PS M n p) : (∃ s e M', NX n p s e ∧ M_goesOn F9 M = some (1, M') ∧ Sq9 9 M M' ∧ PS M' n (fun j => p (sgx n s e j))) ∨ (M_goesOn F9 M = some (0, M) ∧ ∀ i, i + 1 < n → p (i + 1) < p i) := by
  unfold M_goesOn
  have e2 : nI n - 2 = nI (n - 1) - 1 := by
    rw [show nI n - 2 = nI (n - 2) from pk_sub (a := n) (b := 2) (by omega), show nI (n - 1) - 1 = nI (n - 1 - 1) from pk_sub (a := n - 1) (b := 1) (by omega), show n - 1 - 1 = n - 2 by omega]
  have e1 : nI n - 1 = nI (n - 1) := pk_sub (a := n) (b := 1) (by omega)
  rw [hn, bnd_e, e2]
  rcases L7_e (k2 := fun v3 => (if v3 < 0 then some (0, M) else bnd (nI n - 1) fun v4 => M_goesOn_L47 F9 M v3 (fun v6 => cav (M_swaps F9 M v3 v6) fun S7 => bnd (v3 + 1) fun v8 => bnd ((S7.1 0 0) - 1) fun v9 => M_goesOn_L86 F9 F9 S7 v8 v9) F9 v4)) n8 hp h (n - 1) F9 (by omega) (by unfold F9; omega) (fun i h1 h2 => by omega) with ⟨s, s1, s2, s3, s4⟩ | ⟨s1, s2⟩
  · rw [s4, if_neg (nI_pos (by omega)), bnd_e, e1]
    obtain ⟨e, a1, a2, a3, a4, a5⟩ := L47_e (k5 := fun v6 => cav (M_swaps F9 M (nI s) v6) fun S7 => bnd (nI s + 1) fun v8 => bnd ((S7.1 0 0) - 1) fun v9 => M_goesOn_L86 F9 F9 S7 v8 v9) n8 hp h s1 s2 (n - 2 - s) F9 (by omega) (by unfold F9; omega) (fun j j1 j2 => by omega)
    rw [show s + 1 + (n - 2 - s) = n - 1 by omega] at a5
    obtain ⟨M1, b1, b2, b3⟩ := swaps_e (F := F9) n8 (show s < n by omega) a2 h
    obtain ⟨M', c1, c2, c3⟩ := rev_loop (p := swF p s e) n8 (show s < n by omega) n 0 F9 M1 (by omega) (by unfold F9; omega) (b3.cong fun j hj => by
      unfold rvF
      rw [if_neg (by omega)])
    refine Or.inl ⟨s, e, M', ⟨s1, a1, a2, a3, a4, s3⟩, ?_, b2.tr c2, c3.cong fun j hj => ?_⟩
    · rw [a5, b1, cav_s, bnd_e, b2 0 (by decide), hn, bnd_e, nI_1, e1]
      exact c1
    · unfold swF sgx
      by_cases g1 : s < j
      · rw [if_pos g1, if_neg (show ¬ j < s by omega), if_neg (show ¬ j = s by omega)]
        by_cases g2 : n + s - j = e
        · rw [if_pos g2, if_pos g2]
        · rw [if_neg g2, if_neg g2, if_neg (by omega)]
      · rw [if_neg g1]
        by_cases g2 : j = s
        · rw [if_neg (show ¬ j = e by omega), if_pos g2, if_neg (by omega), if_pos g2]
        · rw [if_neg (show ¬ j = e by omega), if_neg g2, if_pos (by omega)]
  · rw [s1, if_pos (by decide)]
    exact Or.inr ⟨rfl, s2⟩
def csP (n : Nat) (D : Nat → Nat → Nat) (p : Nat → Nat) : Nat := fb_sm (fun i => D (p i) (p (i + 1))) (n - 1)
def wtM (M : St) (n : Nat) (D : Nat → Nat → Nat) : Prop := ∀ a b, a < n → b < n → M.1 8 (8 * a + b) = nI (D a b)
def BestP (n d : Nat) (D : Nat → Nat → Nat) (V : Nat → Nat) : Prop := Pm n V ∧ ∀ r, Pm n r → d * csP n D V ≤ d * csP n D r ∧ (d * csP n D r = d * csP n D V → ¬ lxp n r V)
def BJ (n d : Nat) (D : Nat → Nat → Nat) (p : Nat → Nat) (B G : Nat) : Prop := (∃ V, Pm n V ∧ lxp n V p ∧ B = d * csP n D V ∧ G = fgp V n ∧ ∀ r, Pm n r → lxp n r p → d * csP n D V ≤ d * csP n D r ∧ (d * csP n D r = d * csP n D V → ¬ lxp n r V)) ∨ (B = 100000000 ∧ G = 0 ∧ ∀ r, Pm n r → ¬ lxp n r p)
theorem cost_loop {n : Nat} {p1 v6 v14 v15 : Int32} {M : St} {D : Nat → Nat → Nat} {p : Nat → Nat} {k17 : Int32 → Option (Int32 × St)} (n2 : 2 ≤ n) (n8 : n ≤ 8) (hn : M.1 0 0 = nI n) (hp : Pm n p) (h : PS M n p) (hw : wtM M n D) : ∀ (k i f : Nat), i + k = n - 1 → k < f → M_best_L205 F9 p1 v6 M v14 v15 k17 f (nI (fb_sm (fun i => D (p i) (p (i + 1))) i)) (nI i) = k17 (nI (csP n D p))
  | 0, i, f + 1, hi, hf => by
    have e1 : nI n - 1 = nI (n - 1) := pk_sub (a := n) (b := 1) (by omega)
    rw [M_best_L205, hn, e1, if_neg (by rw [nI_ltI (by omega) (by omega)]; omega), show i = n - 1 by omega]
    rfl
  | k + 1, i, f + 1, hi, hf => by
    have e1 : nI n - 1 = nI (n - 1) := pk_sub (a := n) (b := 1) (by omega)
    have ih := cost_loop (p1 := p1) (v6 := v6) (v14 := v14) (v15 := v15) (k17 := k17) n2 n8 hn hp h hw k (i + 1) f (by omega) (by omega)
    rw [fb_sm_succ] at ih
    have b1 := hp.1 i (by omega)
    have b2 := hp.1 (i + 1) (by omega)
    rw [M_best_L205, hn, e1, if_pos (by rw [nI_ltI (by omega) (by omega)]; omega), nI_1, chk_n _ (by omega) (by decide), chk_n _ (by omega) (by decide), nI_clamp (show i < 2 ^ 31 by omega), nI_clamp (show i + 1 < 2 ^ 31 by omega), h i (by omega), h (i + 1) (by omega), show (8 : Int32) = nI 8 from rfl, pk_mul, nI_add, chk_n _ (by omega) (by decide), nI_clamp (by omega), hw _ _ b1 b2, bnd_e, bnd_e, nI_add]
    exact ih
theorem figs_loop {n : Nat} {p1 v6 v24 : Int32} {M : St} {p : Nat → Nat} {J : Int32 → Int32 → Option (Int32 × St)} (n8 : n ≤ 8) (hn : M.1 0 0 = nI n) (h : PS M n p) : ∀ (k i f : Nat), i + k = n → k < f → M_best_L277 F9 p1 v6 M v24 J f (nI (fgp p i)) (nI i) = J v24 (nI (fgp p n))
  | 0, i, f + 1, hi, hf => by
    rw [M_best_L277, hn, if_neg (by rw [nI_ltI (by omega) (by omega)]; omega), show i = n by omega]
  | k + 1, i, f + 1, hi, hf => by
    have ih := figs_loop (p1 := p1) (v6 := v6) (v24 := v24) (J := J) n8 hn h k (i + 1) f (by omega) (by omega)
    rw [fgp] at ih
    rw [M_best_L277, hn, if_pos (by rw [nI_ltI (by omega) (by omega)]; omega), chk_n _ (by omega) (by decide), nI_clamp (by omega), h i (by omega), show (10 : Int32) = nI 10 from rfl, pk_mul, nI_add, bnd_e, bnd_e, nI_1]
    exact ih
theorem perms_loop {n d : Nat} {p1 v6 : Int32} {D : Nat → Nat → Nat} {k9 : St → Int32 → Int32 → Option (Int32 × St)} (n2 : 2 ≤ n) (n8 : n ≤ 8) (hd : d ≤ 99) (hD : ∀ a b, D a b ≤ 160) : ∀ (k f : Nat) (M : St) (p : Nat → Nat) (B G : Nat), 100000000 ≤ fgp p n + k → k + 1 < f → M.1 0 0 = nI n → M.1 0 2 = nI d → wtM M n D → Pm n p → PS M n p → BJ n d D p B G → ∃ V M', M_best_L194 F9 p1 v6 k9 f M (nI B) (nI G) 1 = k9 M' (nI (d * csP n D V)) (nI (fgp V n)) ∧ Sq9 9 M M' ∧ BestP n d D V
  | 0, f, M, p, B, G, hk, hf, hn, h2, hw, hp, h, hJ => by
    have a := fgp_lt (p := p) (n := n) (fun i hi => by have := hp.1 i hi; omega) n (Nat.le_refl _)
    have b : 10 ^ n ≤ 10 ^ 8 := Nat.pow_le_pow_right (by decide) n8
    omega
  | k + 1, f + 2, M, p, B, G, hk, hf, hn, h2, hw, hp, h, hJ => by
    have cl : ∀ r, d * csP n D r ≤ 99 * 1280 := fun r => by
      have e : csP n D r ≤ (n - 1) * 160 := fb_sm_bound fun k _ => hD _ _
      exact Nat.mul_le_mul hd (by omega)
    have cost := fun k17 : Int32 → Option (Int32 × St) => cost_loop (p1 := p1) (v6 := v6) (v14 := nI B) (v15 := nI G) (k17 := k17) n2 n8 hn hp h hw (n - 1) 0 F9 (by omega) (by unfold F9; omega)
    have figs := fun (v24 : Int32) (J : Int32 → Int32 → Option (Int32 × St)) => figs_loop (p1 := p1) (v6 := v6) (v24 := v24) (J := J) n8 hn h n 0 F9 (by omega) (by unfold F9; omega)
    rw [M_best_L194, if_neg (by decide)]
    have c0' : ∀ k17 : Int32 → Option (Int32 × St), M_best_L205 F9 p1 v6 M (nI B) (nI G) k17 F9 0 0 = k17 (nI (csP n D p)) := cost
    have f0' : ∀ (v24 : Int32) (J : Int32 → Int32 → Option (Int32 × St)), M_best_L277 F9 p1 v6 M v24 J F9 0 0 = J v24 (nI (fgp p n)) := figs
    rw [c0', jn_e, h2, pk_mul, bnd_e, f0']
    have Bl : B ≤ 100000000 := by
      rcases hJ with ⟨V, -, -, e, -⟩ | ⟨e, -⟩
      · have := cl V; omega
      · omega
    have cp := cl p
    have lt := nI_ltI (a := d * csP n D p) (b := B) (by omega) (by omega)
    -- the best so far with p weighed
    have after : ∀ B' G', (∃ V, Pm n V ∧ (lxp n V p ∨ ∀ i, i < n → V i = p i) ∧ B' = d * csP n D V ∧ G' = fgp V n ∧ ∀ r, Pm n r → (lxp n r p ∨ ∀ i, i < n → r i = p i) → d * csP n D V ≤ d * csP n D r ∧ (d * csP n D r = d * csP n D V → ¬ lxp n r V)) → ∃ V M', (cal (M_goesOn F9 M) fun v22 S23 => M_best_L194 F9 p1 v6 k9 (f + 1) S23 (nI B') (nI G') v22) = k9 M' (nI (d * csP n D V)) (nI (fgp V n)) ∧ Sq9 9 M M' ∧ BestP n d D V := by
      rintro B' G' ⟨V, v1, v2, v3, v4, v5⟩
      rcases goesOn_e n2 n8 hn hp h with ⟨s, e, M1, x1, x2, x3, x4⟩ | ⟨x1, x2⟩
      · rw [x2, cal_s]
        have hq := nxq_Pm hp x1
        have gt := nxq_gt x1
        have mono := fgp_mono (fun i hi => by have := hp.1 i hi; omega) gt
        obtain ⟨W, M', w1, w2, w3⟩ := perms_loop (p1 := p1) (v6 := v6) (k9 := k9) n2 n8 hd hD k (f + 1) M1 _ B' G' (by omega) (by omega) (by rw [x3 0 (by decide), hn]) (by rw [x3 0 (by decide), h2]) (fun a b ha hb => by rw [x3 8 (by decide)]; exact hw a b ha hb) hq x4 (Or.inl ⟨V, v1, by
          rcases v2 with v2 | v2
          · exact lxp_tr v2 gt
          · exact lxp_eqL (fun i hi => (v2 i hi).symm) gt, v3, v4, fun r hr hlt => v5 r hr (by
          rcases lxp_cases n r p with c | c | c
          · exact Or.inl c
          · exact absurd (nxq_next hp hr x1 c hlt) id
          · exact Or.inr c)⟩)
        exact ⟨W, M', w1, x3.tr w2, w3⟩
      · rw [x1, cal_s, M_best_L194, if_pos rfl]
        refine ⟨V, M, by rw [v3, v4], Sq9.rf, v1, fun r hr => v5 r hr ?_⟩
        rcases lxp_cases n r p with c | c | c
        · exact Or.inl c
        · exact absurd c (Pm_last hp hr x2)
        · exact Or.inr c
    have csc : ∀ r, (∀ i, i < n → r i = p i) → csP n D r = csP n D p := fun r e => fb_sm_cong fun i hi => by rw [e i (by omega), e (i + 1) (by omega)]
    by_cases g : d * csP n D p < B
    · rw [if_pos (lt.mpr g)]
      refine after _ _ ⟨p, hp, Or.inr fun _ _ => rfl, rfl, rfl, fun r hr hle => ?_⟩
      rcases hle with c | c
      · rcases hJ with ⟨V, v1, v2, v3, v4, v5⟩ | ⟨-, -, v5⟩
        · have := (v5 r hr c).1
          exact ⟨by omega, fun z => by omega⟩
        · exact absurd c (v5 r hr)
      · rw [csc r c]
        exact ⟨Nat.le_refl _, fun _ z => lxp_irr (lxp_eqL c z)⟩
    · rw [if_neg (fun z => g (lt.mp z))]
      rcases hJ with ⟨V, v1, v2, v3, v4, v5⟩ | ⟨e, -⟩
      · refine after B G ⟨V, v1, Or.inl v2, v3, v4, fun r hr hle => ?_⟩
        rcases hle with c | c
        · exact v5 r hr c
        · rw [csc r c]
          exact ⟨by omega, fun _ z => lxp_irr (lxp_tr (lxp_eqL c z) v2)⟩
      · omega
