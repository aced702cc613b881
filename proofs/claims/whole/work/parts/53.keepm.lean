/-! B: WORDS KEPT, the reference's side -/
def K12 (M : St) (kp : Nat → Bool) : Prop := ∀ v, v < 256 → M.1 12 v = nI (if kp v = true then 1 else 0)
def slM (n : Nat) (M : St) : Prop := ∀ a b, a < 2 ^ n → b < 2 ^ n → M.1 13 (256 * a + b) = nI (slw n 0 a b)
def SqK (M M' : St) : Prop := (∀ k, k ≠ 24 → k ≠ 25 → k ≠ 31 → M'.1 0 k = M.1 0 k) ∧ ∀ a, a ≠ 0 → a ≠ 7 → a ≠ 12 → a ≠ 13 → M'.1 a = M.1 a
theorem nar1 : vp_nar .boolean 1 = 1 := by decide
theorem nar0 : vp_nar .boolean 0 = 0 := by decide
theorem b01 (b : Bool) : nI (if b = true then 1 else 0) = if b = true then 1 else 0 := by cases b <;> rfl
theorem all_loop {F n : Nat} (n8 : n ≤ 8) : ∀ (j i f : Nat) (M : St), i + j = 256 → j < f → M.1 0 0 = nI n → (∀ t, t < i → M.1 12 t = nI (if decide (t < 2 ^ n) = true then 1 else 0)) → ∃ M', M_allKept_L6 F f M (nI i) = some M' ∧ (∀ q, q ≠ 12 → M'.1 q = M.1 q) ∧ K12 M' (fun v => decide (v < 2 ^ n))
  | 0, i, f + 1, M, hi, hf, hs, hz => by
    refine ⟨M, ?_, fun _ _ => rfl, fun t ht => hz t (by omega)⟩
    rw [M_allKept_L6, if_neg (show ¬ nI i < 256 by rw [show (256 : Int32) = nI 256 from rfl, nI_ltI (by omega) (by omega)]; omega)]
  | j + 1, i, f + 1, M, hi, hf, hs, hz => by
    have hw := pw_hi n8
    obtain ⟨M', c1, c2, c3⟩ := all_loop (F := F) n8 j (i + 1) f (sI M 12 i (nI (if decide (i < 2 ^ n) = true then 1 else 0))) (by omega) (by omega) (by rw [sI_row _ _ _ _ _ (by decide), hs]) (fun t ht => by
      rw [sI_at]
      by_cases g : t = i
      · rw [if_pos ⟨rfl, g⟩, g]
      · rw [if_neg (fun z => g z.2), hz t (by omega)])
    refine ⟨M', ?_, fun q hq => by rw [c2 q hq, sI_row _ _ _ _ _ hq], c3⟩
    rw [M_allKept_L6, if_pos (show nI i < 256 from (nI_ltI (b := 256) (by omega) (by omega)).mpr (by omega)), hs, pw_n n (by omega)]
    simp only [jn_e, bnd_e, nI_1, chk_n _ (show i < 256 by omega) (show 256 < 2 ^ 31 by decide), nI_clamp (show i < 2 ^ 31 by omega), nar1, nar0]
    have lt := nI_ltI (a := i) (b := 2 ^ n) (by omega) (by omega)
    rw [b01] at c1
    by_cases g : i < 2 ^ n
    · rw [if_pos (decide_eq_true g)] at c1
      rw [if_pos (lt.mpr g)]
      exact c1
    · rw [if_neg (fun z => g (of_decide_eq_true z))] at c1
      rw [if_neg (fun z => g (lt.mp z))]
      exact c1
theorem allKept_e {n : Nat} {M : St} (n2 : 2 ≤ n) (n8 : n ≤ 8) (hs : M.1 0 0 = nI n) (h : RelD M) : ∃ M', M_allKept F9 M = some M' ∧ SqK M M' ∧ M'.1 0 31 = nI n ∧ slM n M' ∧ K12 M' (fun v => decide (v < 2 ^ n)) := by
  obtain ⟨M1, a1, a2, a3, a4, a5⟩ := findSlows_e n2 n8 hs h
  obtain ⟨M', b1, b2, b3⟩ := all_loop (F := F9) n8 256 0 F9 M1 (by omega) (by unfold F9; omega) (by rw [a2 0 (by decide) (by decide) (by decide), hs]) (fun t ht => by omega)
  rw [nI_0] at b1
  refine ⟨M', by unfold M_allKept; rw [a1, cav_s, b1], ⟨fun k h1 h2 h3 => by rw [b2 0 (by decide), a2 k h1 h2 h3], fun q h1 h2 h3 h4 => by rw [b2 q h3, a3 q h1 h2 h4]⟩, by rw [b2 0 (by decide), a4], fun a b ha hb => by rw [b2 13 (by decide), a5 a b ha hb], b3⟩
theorem ways_loop {F n q v : Nat} {M : St} {kp : Nat → Bool} (n8 : n ≤ 8) (hq : q < 5) (hv : v < 2 ^ n) (hs : M.1 0 0 = nI n) (hl : slM n M) (hk : K12 M kp) : ∀ (j i f : Nat), i + j = 2 ^ n → j < f → M_waysFrom_L5 F (nI q) (nI v) M f (nI (fb_ct (fun b => kp b && decide (slw n 0 v b ≤ q)) i)) (nI i) = some (nI (wyC n q kp v))
  | 0, i, f + 1, hi, hf => by
    have hw := pw_hi n8
    rw [M_waysFrom_L5, hs, pw_n n (by omega), if_neg (by rw [nI_ltI (by omega) (by omega)]; omega), show i = 2 ^ n by omega]
    rfl
  | j + 1, i, f + 1, hi, hf => by
    have hw := pw_hi n8
    have ih := ways_loop (F := F) n8 hq hv hs hl hk j (i + 1) f (by omega) (by omega)
    rw [fb_ct_succ] at ih
    have b4 := slw_le4 n 0 v i
    rw [M_waysFrom_L5, hs, pw_n n (by omega), if_pos (by rw [nI_ltI (by omega) (by omega)]; omega), chk_n _ (by omega) (by decide), nI_clamp (by omega), hk i (by omega), show (256 : Int32) = nI 256 from rfl, pk_mul, nI_add]
    simp only [jn_e, bnd_e, nI_1, chk_n _ (show 256 * v + i < 65536 by omega) (show 65536 < 2 ^ 31 by decide), nI_clamp (show 256 * v + i < 2 ^ 31 by omega), hl v i hv (show i < 2 ^ n by omega)]
    have lt := nI_ltI (a := q) (b := slw n 0 v i) (by omega) (by omega)
    cases g : kp i
    · rw [g] at ih
      rw [if_pos (show nI (if false = true then 1 else 0) = 0 from rfl), show (0 : Int32) = nI 0 from rfl, nI_add]
      exact ih
    · rw [g] at ih
      rw [if_pos rfl, if_neg (show ¬ nI 1 = 0 by decide)]
      by_cases g2 : q < slw n 0 v i
      · rw [decide_eq_false (show ¬ slw n 0 v i ≤ q by omega)] at ih
        rw [if_pos (lt.mpr g2), show (0 : Int32) = nI 0 from rfl, nI_add]
        exact ih
      · rw [decide_eq_true (show slw n 0 v i ≤ q by omega)] at ih
        rw [if_neg (fun z => g2 (lt.mp z))]
        exact ih
theorem M_waysFrom_e {F n q v : Nat} {M : St} {kp : Nat → Bool} (hF : 300 ≤ F) (n8 : n ≤ 8) (hq : q < 5) (hv : v < 2 ^ n) (hs : M.1 0 0 = nI n) (hl : slM n M) (hk : K12 M kp) : M_waysFrom F M (nI q) (nI v) = some (nI (wyC n q kp v)) := by
  have hw := pw_hi n8
  exact ways_loop n8 hq hv hs hl hk (2 ^ n) 0 F (by omega) (by omega)
theorem mkeep_in {F n q b : Nat} {k12 : St → Int32 → Option (Int32 × St)} (hF : 300 ≤ F) (n8 : n ≤ 8) (hq : q < 5) (hb : b ≤ 8) : ∀ (j i f : Nat) (M : St) (kp : Nat → Bool) (fl : Int32), i + j = 2 ^ n → j < f → M.1 0 0 = nI n → slM n M → K12 M kp → (∀ t, kp t = true → t < 2 ^ n) → ∃ M' kp' fl', M_findKept_L15 F (nI q) (nI b) k12 f M fl (nI i) = k12 M' fl' ∧ (∀ q, q ≠ 12 → M'.1 q = M.1 q) ∧ K12 M' kp' ∧ (∀ t, kp' t = true → t < 2 ^ n) ∧ (∀ T, stb n q (2 ^ b) T → (∀ t, T t = true → kp t = true) → ∀ t, T t = true → kp' t = true) ∧ ((fl' = 1 ∧ fb_ct kp' 256 < fb_ct kp 256) ∨ (fl' = fl ∧ kp' = kp ∧ ∀ v, i ≤ v → v < 2 ^ n → kp v = true → 2 ^ b ≤ wyC n q kp v))
  | 0, i, f + 1, M, kp, fl, hi, hf, hs, hl, hk, ht => by
    have hw := pw_hi n8
    refine ⟨M, kp, fl, ?_, fun _ _ => rfl, hk, ht, fun T _ h => h, Or.inr ⟨rfl, rfl, fun v h1 h2 => by omega⟩⟩
    rw [M_findKept_L15, hs, pw_n n (by omega), if_neg (by rw [nI_ltI (by omega) (by omega)]; omega)]
  | j + 1, i, f + 1, M, kp, fl, hi, hf, hs, hl, hk, ht => by
    have hw := pw_hi n8
    have hb2 : 2 ^ b ≤ 256 := pw_hi hb
    rw [M_findKept_L15, hs, pw_n n (by omega), if_pos (by rw [nI_ltI (by omega) (by omega)]; omega), chk_n _ (by omega) (by decide), nI_clamp (by omega), hk i (by omega), jn_e]
    simp only [bnd_e, nI_1]
    by_cases g : kp i = true
    · have ew : wyC n q kp i ≤ 256 := by
        have := fb_ct_le (fun b => kp b && decide (slw n 0 i b ≤ q)) (2 ^ n)
        unfold wyC
        omega
      rw [if_pos g, if_neg (show ¬ nI 1 = 0 by decide), M_waysFrom_e hF n8 hq (by omega) hs hl hk, crd_s, pw_n b (by omega)]
      have lt := nI_ltI (a := wyC n q kp i) (b := 2 ^ b) (by omega) (by omega)
      by_cases g2 : wyC n q kp i < 2 ^ b
      · have ct := kpD_ct (show i < 256 by omega) g
        rw [if_pos (lt.mpr g2), chk_n _ (by omega) (by decide)]
        have k1 : K12 (sI M 12 i 0) (kpD kp i) := fun v hv => by
          rw [sI_at]
          by_cases e : v = i
          · rw [if_pos ⟨rfl, e⟩, e]
            unfold kpD
            rw [decide_eq_true rfl, Bool.not_true, Bool.and_false]
            rfl
          · rw [if_neg (fun z => e z.2), hk v hv]
            unfold kpD
            rw [decide_eq_false e, Bool.not_false, Bool.and_true]
        obtain ⟨M', kp', fl', c1, c2, c3, c5, c6, c7⟩ := mkeep_in (k12 := k12) hF n8 hq hb j (i + 1) f (sI M 12 i 0) (kpD kp i) 1 (by omega) (by omega) (by rw [sI_row _ _ _ _ _ (by decide), hs]) (fun a b ha hb => by rw [sI_row _ _ _ _ _ (by decide)]; exact hl a b ha hb) k1 (kpD_lt ht)
        refine ⟨M', kp', fl', c1, fun q hq => by rw [c2 q hq, sI_row _ _ _ _ _ hq], c3, c5, fun T hT h => c6 T hT (kpD_keeps hT h g2), Or.inl ?_⟩
        rcases c7 with ⟨c7, c8⟩ | ⟨c7, c8, -⟩
        · exact ⟨c7, by omega⟩
        · exact ⟨c7, by rw [c8]; omega⟩
      · rw [if_neg (fun z => g2 (lt.mp z))]
        obtain ⟨M', kp', fl', c1, c2, c3, c5, c6, c7⟩ := mkeep_in (k12 := k12) hF n8 hq hb j (i + 1) f M kp fl (by omega) (by omega) hs hl hk ht
        refine ⟨M', kp', fl', c1, c2, c3, c5, c6, ?_⟩
        rcases c7 with c7 | ⟨c7, c8, c9⟩
        · exact Or.inl c7
        · refine Or.inr ⟨c7, c8, fun v h1 h2 h3 => ?_⟩
          by_cases e : v = i
          · rw [e]; omega
          · exact c9 v (by omega) h2 h3
    · rw [if_neg g, if_pos (show nI 0 = 0 from rfl)]
      obtain ⟨M', kp', fl', c1, c2, c3, c5, c6, c7⟩ := mkeep_in (k12 := k12) hF n8 hq hb j (i + 1) f M kp fl (by omega) (by omega) hs hl hk ht
      refine ⟨M', kp', fl', c1, c2, c3, c5, c6, ?_⟩
      rcases c7 with c7 | ⟨c7, c8, c9⟩
      · exact Or.inl c7
      · refine Or.inr ⟨c7, c8, fun v h1 h2 h3 => ?_⟩
        by_cases e : v = i
        · rw [e] at h3; exact absurd h3 g
        · exact c9 v (by omega) h2 h3
theorem mkeep_out {F n q b : Nat} {k2 : St → Option (Int32 × St)} (hF : 300 ≤ F) (n8 : n ≤ 8) (hq : q < 5) (hb : b ≤ 8) : ∀ (c f : Nat) (M : St) (kp : Nat → Bool), fb_ct kp 256 ≤ c → c + 1 < f → M.1 0 0 = nI n → slM n M → K12 M kp → (∀ t, kp t = true → t < 2 ^ n) → (∀ T, stb n q (2 ^ b) T → ∀ t, T t = true → kp t = true) → ∃ M' kp', M_findKept_L6 F (nI q) (nI b) k2 f M 1 = k2 M' ∧ (∀ q, q ≠ 12 → M'.1 q = M.1 q) ∧ K12 M' kp' ∧ GS n q (2 ^ b) kp' := by
  intro c
  induction c using Nat.strongRecOn with
  | _ c ih =>
    intro f M kp hc hf hs hl hk ht hT
    obtain ⟨f', rfl⟩ : ∃ f', f = f' + 2 := ⟨f - 2, by omega⟩
    have hw := pw_hi n8
    obtain ⟨M1, kp1, fl, a1, a2, a3, a5, a6, a7⟩ := mkeep_in (F := F) (q := q) (b := b) (k12 := fun S13 v14 => M_findKept_L6 F (nI q) (nI b) k2 (f' + 1) S13 v14) hF n8 hq hb (2 ^ n) 0 F M kp 0 (by omega) (by omega) hs hl hk ht
    rw [nI_0] at a1
    rw [M_findKept_L6, if_neg (show ¬ (1 : Int32) = 0 by decide), a1]
    have hT1 : ∀ T, stb n q (2 ^ b) T → ∀ t, T t = true → kp1 t = true := fun T hs => a6 T hs (hT T hs)
    rcases a7 with ⟨a7, a8⟩ | ⟨a7, a8, a9⟩
    · rw [a7]
      obtain ⟨M', kp', d1, d2, d3, d4⟩ := ih (c - 1) (by omega) (f' + 1) M1 kp1 (by omega) (by omega) (by rw [a2 0 (by decide), hs]) (fun a b ha hb => by rw [a2 13 (by decide)]; exact hl a b ha hb) a3 a5 hT1
      exact ⟨M', kp', d1, fun q hq => by rw [d2 q hq, a2 q hq], d3, d4⟩
    · rw [a7, M_findKept_L6, if_pos rfl]
      refine ⟨M1, kp1, rfl, a2, a3, fun v hv => ⟨a5 v hv, ?_⟩, hT1⟩
      rw [a8] at hv ⊢
      exact a9 v (Nat.zero_le _) (ht v hv) hv
theorem cnt_loop {F n : Nat} {M : St} {kp : Nat → Bool} (n8 : n ≤ 8) (hs : M.1 0 0 = nI n) (hk : K12 M kp) : ∀ (j i f : Nat), i + j = 2 ^ n → j < f → M_findKept_L74 F M f (nI (fb_ct kp i)) (nI i) = some (nI (fb_ct kp (2 ^ n)), M)
  | 0, i, f + 1, hi, hf => by
    have hw := pw_hi n8
    rw [M_findKept_L74, hs, pw_n n (by omega), if_neg (by rw [nI_ltI (by omega) (by omega)]; omega), show i = 2 ^ n by omega]
  | j + 1, i, f + 1, hi, hf => by
    have hw := pw_hi n8
    have ih := cnt_loop (F := F) n8 hs hk j (i + 1) f (by omega) (by omega)
    rw [fb_ct_succ] at ih
    rw [M_findKept_L74, hs, pw_n n (by omega), if_pos (by rw [nI_ltI (by omega) (by omega)]; omega), chk_n _ (by omega) (by decide), nI_clamp (by omega), hk i (by omega)]
    simp only [jn_e, bnd_e, nI_1]
    cases g : kp i
    · rw [g] at ih
      rw [if_pos (show nI (if false = true then 1 else 0) = 0 from rfl), show (0 : Int32) = nI 0 from rfl, nI_add]
      exact ih
    · rw [g] at ih
      rw [if_pos rfl, if_neg (show ¬ nI 1 = 0 by decide)]
      exact ih
/-- the reference's set of words kept -/
theorem keep_M {n q b : Nat} {M : St} (n2 : 2 ≤ n) (n8 : n ≤ 8) (hq : q < 5) (hb : b ≤ 8) (hs : M.1 0 0 = nI n) (h : RelD M) : ∃ M' kp, M_findKept F9 M (nI q) (nI b) = some (nI (fb_ct kp (2 ^ n)), M') ∧ GS n q (2 ^ b) kp ∧ SqK M M' ∧ M'.1 0 31 = nI n ∧ slM n M' ∧ K12 M' kp := by
  have hw := pw_hi n8
  have hF9 : F9 = 1000000000 := rfl
  obtain ⟨M1, a1, a2, a3, a4, a5⟩ := allKept_e n2 n8 hs h
  have hs1 : M1.1 0 0 = nI n := by rw [a2.1 0 (by decide) (by decide) (by decide), hs]
  have c256 := fb_ct_le (fun v => decide (v < 2 ^ n)) 256
  obtain ⟨M2, kp, b1, b2, b3, b4⟩ := mkeep_out (F := F9) (q := q) (b := b) (k2 := fun S3 => M_findKept_L74 F9 S3 F9 0 0) (by omega) n8 hq hb 256 F9 M1 (fun v => decide (v < 2 ^ n)) c256 (by omega) hs1 a4 a5 (fun t ht => of_decide_eq_true ht) (fun T hT t ht => decide_eq_true (hT t ht).1)
  have e := cnt_loop (F := F9) n8 (show M2.1 0 0 = nI n by rw [b2 0 (by decide), hs1]) b3 (2 ^ n) 0 F9 (by omega) (by omega)
  rw [nI_0] at e
  refine ⟨M2, kp, ?_, b4, ⟨fun k h1 h2 h3 => by rw [b2 0 (by decide), a2.1 k h1 h2 h3], fun q h1 h2 h3 h4 => by rw [b2 q h3, a2.2 q h1 h2 h3 h4]⟩, by rw [b2 0 (by decide), a3], fun a b ha hb => by rw [b2 13 (by decide)]; exact a4 a b ha hb, b3⟩
  unfold M_findKept
  rw [a1, cav_s, b1]
  exact e
