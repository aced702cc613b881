/-! B: WORDS KEPT: the greatest set of words each of which has ways enough within it -/
def wyC (n q : Nat) (kp : Nat → Bool) (v : Nat) : Nat := fb_ct (fun b => kp b && decide (slw n 0 v b ≤ q)) (2 ^ n)
def stb (n q thr : Nat) (T : Nat → Bool) : Prop := ∀ v, T v = true → v < 2 ^ n ∧ thr ≤ wyC n q T v
def GS (n q thr : Nat) (kp : Nat → Bool) : Prop := stb n q thr kp ∧ ∀ T, stb n q thr T → ∀ v, T v = true → kp v = true
theorem GS_one {n q thr : Nat} {k1 k2 : Nat → Bool} (h1 : GS n q thr k1) (h2 : GS n q thr k2) : k1 = k2 := by
  funext v
  cases e1 : k1 v <;> cases e2 : k2 v
  · rfl
  · exact absurd (h1.2 k2 h2.1 v e2) (by rw [e1]; decide)
  · exact absurd (h2.2 k1 h1.1 v e1) (by rw [e2]; decide)
  · rfl
theorem wyC_sub {n q v : Nat} {T kp : Nat → Bool} (h : ∀ t, T t = true → kp t = true) : wyC n q T v ≤ wyC n q kp v := by
  refine fb_ct_sub fun b _ hb => ?_
  rw [Bool.and_eq_true] at hb ⊢
  exact ⟨h b hb.1, hb.2⟩
def kpD (kp : Nat → Bool) (v : Nat) : Nat → Bool := fun t => kp t && !decide (t = v)
theorem kpD_keeps {n q thr v : Nat} {T kp : Nat → Bool} (hT : stb n q thr T) (h : ∀ t, T t = true → kp t = true) (hv : wyC n q kp v < thr) : ∀ t, T t = true → kpD kp v t = true := by
  intro t ht
  unfold kpD
  rw [h t ht]
  by_cases e : t = v
  · subst e
    have := (hT t ht).2
    have := wyC_sub (n := n) (q := q) (v := t) h
    omega
  · rw [decide_eq_false e]; rfl
theorem kpD_ct {kp : Nat → Bool} {v m : Nat} (hv : v < m) (h : kp v = true) : fb_ct (kpD kp v) m + 1 = fb_ct kp m := by
  have := fb_ct_upd kp false hv
  rw [h] at this
  have e : fb_ct (fun k => if k = v then false else kp k) m = fb_ct (kpD kp v) m := fb_ct_cong fun k _ => by
    unfold kpD
    by_cases g : k = v
    · rw [if_pos g, decide_eq_true g]; cases kp k <;> rfl
    · rw [if_neg g, decide_eq_false g]; cases kp k <;> rfl
  rw [e] at this
  simpa using this
theorem kpD_lt {kp : Nat → Bool} {v m : Nat} (h : ∀ t, kp t = true → t < m) : ∀ t, kpD kp v t = true → t < m := fun t ht => h t (by
  unfold kpD at ht
  rw [Bool.and_eq_true] at ht
  exact ht.1)
/-- the four longs of a set -/
def lbit (x : Int64) (i : Nat) : Bool := x.toBitVec.getLsbD i
def L4 (f : Nat → Int64) (kp : Nat → Bool) : Prop := ∀ v, v < 256 → lbit (f (v / 64)) (v % 64) = kp v
theorem lN_of (x : Int64) : lN x.toBitVec.toNat = x := Int64.toBitVec_inj.mp (by show BitVec.ofNat 64 x.toBitVec.toNat = _; simp)
theorem Jl_any (F : Nat) (S : St) (x : Int64) : Jl_bitCount F S x = some (nI (fb_ct (fun i => lbit x i) 64)) := by
  have e := Jl_bits (F := F) (S := S) (x := x.toBitVec.toNat) x.toBitVec.isLt
  rw [lN_of] at e
  rw [e, pc]
  rfl
theorem ct_part {f : Nat → Bool} {x : Int64} {i : Nat} (h : ∀ j, j < 64 → lbit x j = f (64 * i + j)) : fb_ct f (64 * (i + 1)) = fb_ct f (64 * i) + fb_ct (fun j => lbit x j) 64 := by
  rw [Nat.mul_succ, fb_ct_split]
  congr 1
  exact fb_ct_cong fun j hj => (h j hj).symm
theorem nearPart_e {F q v i : Nat} {S : St} (hq : q < 5) (hv : v < 256) (hi : i < 4) : K_nearPart F S (nI q) (nI v) (nI i) = some (S.2 18 ((q * 256 + v) * 4 + i)) := by
  unfold K_nearPart
  rw [K_rowOf_e, crd_s, bnd_e, jn_e, nI_add, if_neg (nI_pos (by omega)), if_pos (show _ < (5120 : Int32) from (nI_ltI (b := 5120) (by omega) (by omega)).mpr (by omega)), chk_n _ (by omega) (by decide), nI_clamp (by omega)]
theorem nb_part {S : St} {q v i j : Nat} (hj : j < 64) : lbit (S.2 18 ((q * 256 + v) * 4 + i)) j = nb S q v (64 * i + j) := by
  unfold nb lbit
  rw [show (64 * i + j) / 64 = i by omega, show (64 * i + j) % 64 = j by omega]
theorem waysFrom_e {F q v : Nat} {S : St} (hF : 10 ≤ F) (hq : q < 5) (hv : v < 256) : K_waysFrom F S (nI q) (nI v) = some (nI (fb_ct (fun b => nb S q v b) 256)) := by
  have loop : ∀ (j i f : Nat), i + j = 4 → j < f → K_waysFrom_L5 F (nI q) (nI v) S f (nI (fb_ct (fun b => nb S q v b) (64 * i))) (nI i) = some (nI (fb_ct (fun b => nb S q v b) 256)) := by
    intro j
    induction j with
    | zero =>
      intro i f hi hf
      obtain ⟨f', rfl⟩ : ∃ f', f = f' + 1 := ⟨f - 1, by omega⟩
      rw [K_waysFrom_L5, if_neg (show ¬ nI i < 4 by rw [show (4 : Int32) = nI 4 from rfl, nI_ltI (by omega) (by omega)]; omega), show i = 4 by omega]
    | succ j ih =>
      intro i f hi hf
      obtain ⟨f', rfl⟩ : ∃ f', f = f' + 1 := ⟨f - 1, by omega⟩
      rw [K_waysFrom_L5, if_pos (show nI i < 4 from (nI_ltI (b := 4) (by omega) (by omega)).mpr (by omega)), nearPart_e hq hv (by omega), crd_s, Jl_any, crd_s, bnd_e, bnd_e, nI_1, nI_add, ← ct_part (f := fun b => nb S q v b) (i := i) (fun j hj => nb_part hj)]
      exact ih (i + 1) f' (by omega) (by omega)
  unfold K_waysFrom
  have := loop 4 0 F (by omega) (by omega)
  rw [Nat.mul_zero] at this
  exact this
theorem keptWays_e {F q v : Nat} {S : St} {kp : Nat → Bool} (hF : 10 ≤ F) (hq : q < 5) (hv : v < 256) (hk : L4 (S.2 19) kp) : K_keptWays F S (nI q) (nI v) = some (nI (fb_ct (fun b => kp b && nb S q v b) 256)) := by
  have loop : ∀ (j i f : Nat), i + j = 4 → j < f → K_keptWays_L5 F (nI q) (nI v) S f (nI (fb_ct (fun b => kp b && nb S q v b) (64 * i))) (nI i) = some (nI (fb_ct (fun b => kp b && nb S q v b) 256)) := by
    intro j
    induction j with
    | zero =>
      intro i f hi hf
      obtain ⟨f', rfl⟩ : ∃ f', f = f' + 1 := ⟨f - 1, by omega⟩
      rw [K_keptWays_L5, if_neg (show ¬ nI i < 4 by rw [show (4 : Int32) = nI 4 from rfl, nI_ltI (by omega) (by omega)]; omega), show i = 4 by omega]
    | succ j ih =>
      intro i f hi hf
      obtain ⟨f', rfl⟩ : ∃ f', f = f' + 1 := ⟨f - 1, by omega⟩
      rw [K_keptWays_L5, if_pos (show nI i < 4 from (nI_ltI (b := 4) (by omega) (by omega)).mpr (by omega)), chk_n _ (by omega) (by decide), nI_clamp (by omega), nearPart_e hq hv (by omega), crd_s, Jl_any, crd_s, bnd_e, bnd_e, nI_1, nI_add, ← ct_part (f := fun b => kp b && nb S q v b) (i := i) (fun j hj => by
        have h1 := hk (64 * i + j) (by omega)
        rw [show (64 * i + j) / 64 = i by omega, show (64 * i + j) % 64 = j by omega] at h1
        rw [← h1, ← nb_part hj]
        unfold lbit
        rw [Int64.toBitVec_and, BitVec.getLsbD_and])]
      exact ih (i + 1) f' (by omega) (by omega)
  unfold K_keptWays
  have := loop 4 0 F (by omega) (by omega)
  rw [Nat.mul_zero] at this
  exact this
theorem ct_cut {f : Nat → Bool} {m : Nat} (hm : m ≤ 256) (h : ∀ t, f t = true → t < m) : fb_ct f 256 = fb_ct f m := by
  have e := fb_ct_split f m (256 - m)
  rw [show m + (256 - m) = 256 by omega] at e
  have z : fb_ct (fun k => f (m + k)) (256 - m) = 0 := fb_ct_zero.mpr (fun j _ => by
    cases g : f (m + j)
    · rfl
    · exact absurd (h _ g) (by omega))
  rw [e, z, Nat.add_zero]
def nbs (n : Nat) (S : St) : Prop := ∀ k a b, k < 5 → a < 256 → b < 256 → nb S k a b = decide (a < 2 ^ n ∧ b < 2 ^ n ∧ slw n 0 a b ≤ k)
theorem wy_nb {n q v : Nat} {S : St} {kp : Nat → Bool} (n8 : n ≤ 8) (hq : q < 5) (hv : v < 2 ^ n) (hb : nbs n S) : fb_ct (fun b => kp b && nb S q v b) 256 = wyC n q kp v := by
  have hw := pw_hi n8
  have e : fb_ct (fun b => kp b && nb S q v b) 256 = fb_ct (fun b => kp b && decide (v < 2 ^ n ∧ b < 2 ^ n ∧ slw n 0 v b ≤ q)) 256 := fb_ct_cong fun b hb' => by rw [hb q v b hq (by omega) hb']
  rw [e, ct_cut hw (fun t ht => by
    rw [Bool.and_eq_true] at ht
    exact (of_decide_eq_true ht.2).2.1), wyC]
  refine fb_ct_cong fun b hb' => ?_
  congr 1
  exact decide_eq_decide.mpr ⟨fun h => h.2.2, fun h => ⟨hv, hb', h⟩⟩
theorem lg0 : ∀ b : Bool, lg_cmp (lN (if b = true then 1 else 0)) 0 = if b = true then 1 else 0 := by decide
theorem K_isIn_e {F A v : Nat} {S : St} (hA : lenN A = 4) (hv : v < 256) : K_isIn F A S (nI v) = some (if lbit (S.2 A (v / 64)) (v % 64) = true then 1 else 0) := by
  unfold K_isIn
  have e : jlushr (S.2 A (v / 64)) (nI (v % 64)) &&& 1 = lN (if lbit (S.2 A (v / 64)) (v % 64) = true then 1 else 0) := by
    have h := jlushr_n (x := (S.2 A (v / 64)).toBitVec.toNat) (k := v % 64) (BitVec.isLt _) (Nat.mod_lt _ (by decide))
    rw [lN_of] at h
    rw [h, show (1 : Int64) = lN (2 ^ 1 - 1) from rfl, fb_maskL, Nat.pow_one, bit_n, BitVec.testBit_toNat]
    rfl
  rw [bnd_e, jn_e, jd64 (by omega), hA, if_neg (nI_pos (by omega)), if_pos (show nI (v / 64) < Int32.ofNat 4 from (nI_ltI (b := 4) (by omega) (by omega)).mpr (by omega)), chk_n _ (by omega) (by decide), nI_clamp (by omega), jr64 (by omega), e, lg0]
  cases lbit (S.2 A (v / 64)) (v % 64) <;> rfl
theorem drop_e {F v : Nat} {S : St} {kp : Nat → Bool} (hv : v < 256) (hk : L4 (S.2 19) kp) : ∃ S', K_drop F S (nI v) = some S' ∧ S'.1 = S.1 ∧ (∀ q, q ≠ 19 → S'.2 q = S.2 q) ∧ L4 (S'.2 19) (kpD kp v) := by
  refine ⟨sL S 19 (v / 64) (S.2 19 (v / 64) &&& (jlshl 1 (nI (v % 64)) ^^^ (-1))), ?_, rfl, fun q hq => ?_, fun t ht => ?_⟩
  · unfold K_drop
    rw [bnd_e, jd64 (by omega), if_neg (nI_pos (by omega)), if_pos (show nI (v / 64) < 4 from (nI_ltI (b := 4) (by omega) (by omega)).mpr (by omega)), chk_n _ (by omega) (by decide), chk_n _ (by omega) (by decide), nI_clamp (by omega), jr64 (by omega), bnd_e]
  · funext j
    rw [sL_at, if_neg (fun z => hq z.1)]
  · have h1 := hk t ht
    unfold kpD
    rw [sL_at]
    by_cases g : t / 64 = v / 64
    · have ht64 : t % 64 < 64 := Nat.mod_lt _ (by decide)
      rw [if_pos ⟨rfl, g⟩, ← h1, g]
      unfold lbit
      have m1 : (-1 : Int64).toBitVec.getLsbD (t % 64) = true := by
        rw [show (-1 : Int64).toBitVec = BitVec.allOnes 64 by decide, BitVec.getLsbD_allOnes, decide_eq_true ht64]
      rw [Int64.toBitVec_and, BitVec.getLsbD_and, Int64.toBitVec_xor, BitVec.getLsbD_xor, m1, one64 _ (Nat.mod_lt _ (by decide)) _ ht64, Bool.xor_true]
      congr 2
      exact decide_eq_decide.mpr (by omega)
    · rw [if_neg (fun z => g z.2), h1, decide_eq_false (show ¬ t = v by rintro rfl; exact g rfl), Bool.not_false, Bool.and_true]
theorem keep_in {F n q b : Nat} {v8 v10 : Int32} {k11 : St → Int32 → Option (Int32 × St)} (hF : 20 ≤ F) (n8 : n ≤ 8) (hq : q < 5) (hb : b ≤ 8) : ∀ (j i f : Nat) (S : St) (kp : Nat → Bool), i + j = 2 ^ n → j < f → S.1 17 5 = nI (2 ^ n) → nbs n S → L4 (S.2 19) kp → (∀ t, kp t = true → t < 2 ^ n) → ∃ S' kp', K_keep_L34 F (nI q) (nI b) v8 v10 k11 f S (nI (fb_ct kp 256)) (nI i) = k11 S' (nI (fb_ct kp' 256)) ∧ S'.1 = S.1 ∧ (∀ q, q ≠ 19 → S'.2 q = S.2 q) ∧ L4 (S'.2 19) kp' ∧ (∀ t, kp' t = true → t < 2 ^ n) ∧ (∀ T, stb n q (2 ^ b) T → (∀ t, T t = true → kp t = true) → ∀ t, T t = true → kp' t = true) ∧ (fb_ct kp' 256 < fb_ct kp 256 ∨ (kp' = kp ∧ ∀ v, i ≤ v → v < 2 ^ n → kp v = true → 2 ^ b ≤ wyC n q kp v))
  | 0, i, f + 1, S, kp, hi, hf, h5, hn, hk, hl => by
    have hw := pw_hi n8
    refine ⟨S, kp, ?_, rfl, fun _ _ => rfl, hk, hl, fun T _ h => h, Or.inr ⟨rfl, fun v h1 h2 => by omega⟩⟩
    rw [K_keep_L34, h5, if_neg (by rw [nI_ltI (by omega) (by omega)]; omega)]
  | j + 1, i, f + 1, S, kp, hi, hf, h5, hn, hk, hl => by
    have hw := pw_hi n8
    have hb2 : 2 ^ b ≤ 256 := pw_hi hb
    have e1 : lbit (S.2 19 (i / 64)) (i % 64) = kp i := hk i (by omega)
    have c256 := fb_ct_le kp 256
    rw [K_keep_L34, h5, if_pos (by rw [nI_ltI (by omega) (by omega)]; omega), K_isIn_e (by decide) (by omega), crd_s, jn_e, e1]
    simp only [bnd_e, nI_1]
    by_cases g : kp i = true
    · have ew : wyC n q kp i ≤ 256 := by
        have := fb_ct_le (fun b => kp b && decide (slw n 0 i b ≤ q)) (2 ^ n)
        unfold wyC
        omega
      rw [if_pos g, if_neg (show ¬ (1 : Int32) = 0 by decide), keptWays_e (by omega) hq (by omega) hk, crd_s, wy_nb n8 hq (by omega) hn, pw_n b (by omega)]
      have lt := nI_ltI (a := wyC n q kp i) (b := 2 ^ b) (by omega) (by omega)
      by_cases g2 : wyC n q kp i < 2 ^ b
      · obtain ⟨S1, a1, a2, a3, a4⟩ := drop_e (F := F) (v := i) (by omega) hk
        have ct := kpD_ct (show i < 256 by omega) g
        have nbs1 : nbs n S1 := fun k x y hk hx hy => by
          rw [← hn k x y hk hx hy]
          unfold nb
          rw [a3 18 (by decide)]
        rw [if_pos (lt.mpr g2), a1, cav_s, i_m1, ← ct, nI_pred]
        obtain ⟨S', kp', c1, c2, c3, c4, c5, c6, c7⟩ := keep_in (v8 := v8) (v10 := v10) (k11 := k11) hF n8 hq hb j (i + 1) f S1 (kpD kp i) (by omega) (by omega) (by rw [a2, h5]) nbs1 a4 (kpD_lt hl)
        refine ⟨S', kp', c1, by rw [c2, a2], fun q hq => by rw [c3 q hq, a3 q hq], c4, c5, fun T hT h => c6 T hT (kpD_keeps hT h g2), Or.inl ?_⟩
        rcases c7 with c7 | ⟨c7, -⟩
        · omega
        · rw [c7]; omega
      · rw [if_neg (fun z => g2 (lt.mp z))]
        obtain ⟨S', kp', c1, c2, c3, c4, c5, c6, c7⟩ := keep_in (v8 := v8) (v10 := v10) (k11 := k11) hF n8 hq hb j (i + 1) f S kp (by omega) (by omega) h5 hn hk hl
        refine ⟨S', kp', c1, c2, c3, c4, c5, c6, ?_⟩
        rcases c7 with c7 | ⟨c7, c8⟩
        · exact Or.inl c7
        · refine Or.inr ⟨c7, fun v h1 h2 h3 => ?_⟩
          by_cases e : v = i
          · rw [e]; omega
          · exact c8 v (by omega) h2 h3
    · rw [if_neg g, if_pos (show (0 : Int32) = 0 from rfl)]
      obtain ⟨S', kp', c1, c2, c3, c4, c5, c6, c7⟩ := keep_in (v8 := v8) (v10 := v10) (k11 := k11) hF n8 hq hb j (i + 1) f S kp (by omega) (by omega) h5 hn hk hl
      refine ⟨S', kp', c1, c2, c3, c4, c5, c6, ?_⟩
      rcases c7 with c7 | ⟨c7, c8⟩
      · exact Or.inl c7
      · refine Or.inr ⟨c7, fun v h1 h2 h3 => ?_⟩
        by_cases e : v = i
        · rw [e] at h3; exact absurd h3 g
        · exact c8 v (by omega) h2 h3
theorem keep_out {F n q b : Nat} {k3 : St → Int32 → Option (Int32 × St)} (hF : 300 ≤ F) (n8 : n ≤ 8) (hq : q < 5) (hb : b ≤ 8) : ∀ (c i f : Nat) (S : St) (kp : Nat → Bool), fb_ct kp 256 ≤ c → c + i ≤ 256 → c + 1 < f → S.1 17 5 = nI (2 ^ n) → nbs n S → L4 (S.2 19) kp → (∀ t, kp t = true → t < 2 ^ n) → (∀ T, stb n q (2 ^ b) T → ∀ t, T t = true → kp t = true) → ∃ S' kp', K_keep_L15 F (nI q) (nI b) k3 f S (nI (fb_ct kp 256)) 1 (nI i) = k3 S' (nI (fb_ct kp' 256)) ∧ S'.1 = S.1 ∧ (∀ q, q ≠ 19 → S'.2 q = S.2 q) ∧ L4 (S'.2 19) kp' ∧ GS n q (2 ^ b) kp' := by
  intro c
  induction c using Nat.strongRecOn with
  | _ c ih =>
    intro i f S kp hc hci hf h5 hn hk hl hT
    obtain ⟨f', rfl⟩ : ∃ f', f = f' + 2 := ⟨f - 2, by omega⟩
    have hw := pw_hi n8
    have c256 := fb_ct_le kp 256
    obtain ⟨S1, kp1, a1, a2, a3, a4, a5, a6, a7⟩ := keep_in (F := F) (q := q) (b := b) (v8 := nI (fb_ct kp 256)) (v10 := nI i) (k11 := fun S12 v13 => jn (fun (v14 : Int32) => bnd (nI i + 1) fun v16 => K_keep_L15 F (nI q) (nI b) k3 (f' + 1) S12 v13 v14 v16) fun (J15 : Int32 → Option (Int32 × St)) => (if v13 < nI (fb_ct kp 256) then J15 1 else J15 0)) (by omega) n8 hq hb (2 ^ n) 0 F S kp (by omega) (by omega) h5 hn hk hl
    rw [nI_0] at a1
    rw [K_keep_L15, if_neg (show ¬ (1 : Int32) = 0 by decide), if_neg (show ¬ (256 : Int32) < nI i by rw [show (256 : Int32) = nI 256 from rfl, nI_ltI (by omega) (by omega)]; omega), a1, jn_e]
    have c1 := fb_ct_le kp1 256
    have lt := nI_ltI (a := fb_ct kp1 256) (b := fb_ct kp 256) (by omega) (by omega)
    simp only [bnd_e, nI_1]
    have hT1 : ∀ T, stb n q (2 ^ b) T → ∀ t, T t = true → kp1 t = true := fun T hs => a6 T hs (hT T hs)
    by_cases g : fb_ct kp1 256 < fb_ct kp 256
    · rw [if_pos (lt.mpr g)]
      have nbs1 : nbs n S1 := fun k x y hk hx hy => by
        rw [← hn k x y hk hx hy]
        unfold nb
        rw [a3 18 (by decide)]
      obtain ⟨S', kp', d1, d2, d3, d4, d5⟩ := ih (c - 1) (by omega) (i + 1) (f' + 1) S1 kp1 (by omega) (by omega) (by omega) (by rw [a2, h5]) nbs1 a4 a5 hT1
      exact ⟨S', kp', d1, by rw [d2, a2], fun q hq => by rw [d3 q hq, a3 q hq], d4, d5⟩
    · rw [if_neg (fun z => g (lt.mp z)), K_keep_L15, if_pos rfl]
      refine ⟨S1, kp1, rfl, a2, a3, a4, fun v hv => ⟨a5 v hv, ?_⟩, hT1⟩
      rcases a7 with a7 | ⟨a7, a8⟩
      · exact absurd a7 g
      · rw [a7] at hv ⊢
        exact a8 v (Nat.zero_le _) (hl v hv) hv
def fillv (n v : Nat) : Int64 := if nI (2 ^ n) - nI (v * 64) < 64 then (if nI (v * 64) < nI (2 ^ n) then jlshl 1 (nI (2 ^ n) - nI (v * 64)) - 1 else 0) else -1
theorem fillv_bit : ∀ n, n < 9 → ∀ v, v < 4 → ∀ j, j < 64 → lbit (fillv n v) j = decide (v * 64 + j < 2 ^ n) := by decide +kernel
theorem fill_loop {F n : Nat} (n8 : n ≤ 8) : ∀ (j i f : Nat) (S : St), i + j = 4 → j < f → S.1 17 5 = nI (2 ^ n) → (∀ t, t < i → S.2 19 t = fillv n t) → ∃ S', K_fillKept_L2 F f S (nI i) = some S' ∧ S'.1 = S.1 ∧ (∀ q, q ≠ 19 → S'.2 q = S.2 q) ∧ ∀ t, t < 4 → S'.2 19 t = fillv n t
  | 0, i, f + 1, S, hi, hf, h5, hz => by
    refine ⟨S, ?_, rfl, fun _ _ => rfl, fun t ht => hz t (by omega)⟩
    rw [K_fillKept_L2, if_neg (show ¬ nI i < 4 by rw [show (4 : Int32) = nI 4 from rfl, nI_ltI (by omega) (by omega)]; omega)]
  | j + 1, i, f + 1, S, hi, hf, h5, hz => by
    obtain ⟨S', c1, c2, c3, c4⟩ := fill_loop (F := F) n8 j (i + 1) f (sL S 19 i (fillv n i)) (by omega) (by omega) h5 (fun t ht => by
      rw [sL_at]
      by_cases g : t = i
      · rw [if_pos ⟨rfl, g⟩, g]
      · rw [if_neg (fun z => g z.2), hz t (by omega)])
    refine ⟨S', ?_, c2, fun q hq => ?_, c4⟩
    · rw [K_fillKept_L2, if_pos (show nI i < 4 from (nI_ltI (b := 4) (by omega) (by omega)).mpr (by omega)), bnd_e, h5, show (64 : Int32) = nI 64 from rfl, pk_mul]
      simp only [jn_e, bnd_e, nI_1, chk_n _ (show i < 4 by omega) (show 4 < 2 ^ 31 by decide), nI_clamp (show i < 2 ^ 31 by omega)]
      rw [fillv, show (64 : Int32) = nI 64 from rfl] at c1
      by_cases g1 : nI (2 ^ n) - nI (i * 64) < nI 64
      · rw [if_pos g1] at c1 ⊢
        rw [if_pos True.intro]
        by_cases g2 : nI (i * 64) < nI (2 ^ n)
        · rw [if_pos g2] at c1 ⊢
          exact c1
        · rw [if_neg g2] at c1 ⊢
          exact c1
      · rw [if_neg g1] at c1 ⊢
        rw [if_neg (show ¬ (1 : Int32) = 0 by decide)]
        exact c1
    · rw [c3 q hq]
      funext t
      rw [sL_at, if_neg (fun z => hq z.1)]
/-- the class's set of words kept -/
theorem keep_N {n q b : Nat} {S : St} (n2 : 2 ≤ n) (n8 : n ≤ 8) (hq : q < 5) (hb : b ≤ 8) (hs : S.1 1 0 = nI n) (h : RelC S) : ∃ S' kp, N_keep F9 S (nI q) (nI b) = some (nI (fb_ct kp 256), S') ∧ GS n q (2 ^ b) kp ∧ (∀ q, q ≠ 5 → q ≠ 17 → S'.1 q = S.1 q) ∧ S'.1 17 4 = nI n ∧ S'.1 17 5 = nI (2 ^ n) ∧ nbs n S' ∧ L4 (S'.2 19) kp ∧ L4 (S'.2 20) kp := by
  have hw := pw_hi n8
  have hF9 : F9 = 1000000000 := rfl
  obtain ⟨S1, a1, a2, a3, a4, a5, a6⟩ := prepare_e n2 n8 h
  obtain ⟨S2, b1, b2, b3, b4⟩ := fill_loop (F := F9) n8 4 0 F9 S1 (by omega) (by omega) a5 (fun t ht => by omega)
  rw [nI_0] at b1
  have nbs2 : nbs n S2 := fun k x y hk hx hy => by
    rw [← a6 k x y hk hx hy]
    unfold nb
    rw [b3 18 (by decide)]
  have k0 : L4 (S2.2 19) (fun v => decide (v < 2 ^ n)) := fun v hv => by
    rw [b4 _ (by omega), fillv_bit n (by omega) _ (by omega) _ (Nat.mod_lt _ (by decide))]
    exact decide_eq_decide.mpr (by omega)
  have ct : fb_ct (fun v => decide (v < 2 ^ n)) 256 = 2 ^ n := by
    rw [ct_cut hw (fun t ht => of_decide_eq_true ht)]
    exact fb_ct_all.mpr fun k hk => decide_eq_true hk
  obtain ⟨S3, kp, c1, c2, c3, c4, c5⟩ := keep_out (F := F9) (q := q) (b := b) (k3 := fun S4 v5 => bnd (sB S4 20 (va_cpy (S4.2 19) (S4.2 20) 0 0 (Int32.toNatClampNeg 4))) fun S6 => some (v5, S6)) (by omega) n8 hq hb 256 0 F9 S2 (fun v => decide (v < 2 ^ n)) (by rw [ct]; omega) (by omega) (by omega) (by rw [b2, a5]) nbs2 k0 (fun t ht => of_decide_eq_true ht) (fun T hT t ht => decide_eq_true (hT t ht).1)
  rw [nI_0, ct] at c1
  refine ⟨sB S3 20 (va_cpy (S3.2 19) (S3.2 20) 0 0 (Int32.toNatClampNeg 4)), kp, ?_, c5, fun q h1 h2 => ?_, ?_, ?_, fun k x y hk hx hy => ?_, ?_, fun v hv => ?_⟩
  · unfold N_keep K_keep K_fillKept
    rw [hs, a1, cav_s, b1, cav_s, bnd_e, b2, a5, c1, bnd_e, cal_s]
  · rw [sB_1, c2, b2, a2 q h1 h2]
  · rw [sB_1, c2, b2, a4]
  · rw [sB_1, c2, b2, a5]
  · rw [← nbs2 k x y hk hx hy]
    unfold nb
    rw [sB_2, if_neg (by decide), c3 18 (by decide)]
  · rw [sB_2, if_neg (by decide)]
    exact c4
  · rw [sB_2, if_pos rfl, pk_cpy_in (by omega) (by rw [show (4 : Int32).toNatClampNeg = 4 by decide]; omega), Nat.sub_zero, Nat.zero_add]
    exact c4 v hv
