/-! B: BOOKS -/
theorem isIn_mono {F F' : Nat} {x y r : Int32} {M M' : St} (hM : M'.1 0 0 = M.1 0 0) (k : Nat) : ∀ (n : Nat) (a b : Int32), M_isIn_L5 F x y M n a b = some r → M_isIn_L5 F' x y M' (n + k) a b = some r
  | 0, a, b, h => by cases h
  | n + 1, a, b, h => by
    have ih := isIn_mono (F := F) (F' := F') (x := x) (y := y) (r := r) hM k n
    rw [show n + 1 + k = (n + k) + 1 by omega, M_isIn_L5]
    rw [M_isIn_L5] at h
    rw [hM]
    simp only [jn_e, bnd_e] at h ⊢
    grind
def S1w (n : Nat) : St := sI Sz 1 0 (nI n)
def M1w (n : Nat) : St := sI Sz 0 0 (nI n)
def inB (n kd v : Nat) : Bool := decide (N_isInBook 0 (S1w n) (nI kd) (nI v) = some 1)
theorem inB_all : ∀ n, n < 9 → 2 ≤ n → ∀ kd, kd < 2 → ∀ v, v < 256 → N_isInBook 0 (S1w n) (nI kd) (nI v) = some (if inB n kd v then 1 else 0) ∧ M_isIn_L5 0 (nI kd) (nI v) (M1w n) 10 1 0 = some (if inB n kd v then 1 else 0) := by decide +kernel
theorem N_isInBook_e {F n kd v : Nat} {S : St} (hs : S.1 1 0 = nI n) (n2 : 2 ≤ n) (n8 : n ≤ 8) (hk : kd < 2) (hv : v < 256) : N_isInBook F S (nI kd) (nI v) = some (if inB n kd v then 1 else 0) := by
  have h := (inB_all n (by omega) n2 kd hk v hv).1
  have e : (S1w n).1 1 0 = nI n := by unfold S1w; rw [sI_at, if_pos ⟨rfl, rfl⟩]
  unfold N_isInBook at h ⊢
  rw [e] at h
  rw [hs]
  exact h
theorem M_isIn_e {F n kd v : Nat} {M : St} (hF : 10 ≤ F) (hs : M.1 0 0 = nI n) (n2 : 2 ≤ n) (n8 : n ≤ 8) (hk : kd < 2) (hv : v < 256) : M_isIn F M (nI kd) (nI v) = some (if inB n kd v then 1 else 0) := by
  have h := (inB_all n (by omega) n2 kd hk v hv).2
  have e : (M1w n).1 0 0 = nI n := by unfold M1w; rw [sI_at, if_pos ⟨rfl, rfl⟩]
  have := isIn_mono (F' := F) (M' := M) (by rw [e, hs]) (F - 10) 10 1 0 h
  rw [show 10 + (F - 10) = F by omega] at this
  exact this
def cB (n kd m : Nat) : Nat := fb_ct (inB n kd) m
theorem cB_s (n kd m : Nat) : cB n kd (m + 1) = cB n kd m + (if inB n kd m then 1 else 0) := rfl
theorem cB_le (n kd m : Nat) : cB n kd m ≤ m := fb_ct_le _ m
theorem N_lesser_loop {F n kd m : Nat} {S : St} (hs : S.1 1 0 = nI n) (n2 : 2 ≤ n) (n8 : n ≤ 8) (hk : kd < 2) (hm : m ≤ 256) : ∀ (k i f : Nat), i + k = m → k < f → N_lesser_L5 F (nI kd) (nI m) S f (nI (cB n kd i)) (nI i) = some (nI (cB n kd m))
  | 0, i, f + 1, e, hf => by
    have : i = m := by omega
    subst this
    rw [N_lesser_L5, if_neg (show ¬ nI i < nI i from nI_nlt (by omega) (by omega))]
  | k + 1, i, f + 1, e, hf => by
    rw [N_lesser_L5, if_pos (show nI i < nI m from nI_lt (by omega) (by omega)), N_isInBook_e hs n2 n8 hk (by omega), crd_s]
    have := N_lesser_loop (F := F) hs n2 n8 hk hm k (i + 1) f (by omega) (by omega)
    simp only [jn_e, bnd_e, i10, nI_1]
    rw [cB_s] at this
    by_cases g : inB n kd i = true
    · rw [if_pos g] at this ⊢
      exact this
    · rw [if_neg g] at this ⊢
      exact this
theorem N_lesser_e {F n kd m : Nat} {S : St} (hF : 300 ≤ F) (hs : S.1 1 0 = nI n) (n2 : 2 ≤ n) (n8 : n ≤ 8) (hk : kd < 2) (hm : m ≤ 256) : N_lesser F S (nI kd) (nI m) = some (nI (cB n kd m)) := by
  unfold N_lesser
  exact N_lesser_loop hs n2 n8 hk hm m 0 F (by omega) (by omega)
theorem M_book_loop {F n kd : Nat} {M : St} (hF : 10 ≤ F) (hs : M.1 0 0 = nI n) (n2 : 2 ≤ n) (n8 : n ≤ 8) (hk : kd < 2) : ∀ (k i f : Nat), i + k = 2 ^ n → k < f → M_book_L16 F (nI kd) M f (nI (cB n kd i)) (nI i) = some (nI (cB n kd (2 ^ n)))
  | 0, i, f + 1, e, hf => by
    have h1 := pw_hi n8
    rw [M_book_L16, hs, pw_n n (by omega), if_neg (show ¬ nI i < nI (2 ^ n) from nI_nlt (by omega) (by omega)), show i = 2 ^ n by omega]
  | k + 1, i, f + 1, e, hf => by
    have h1 := pw_hi n8
    have := M_book_loop hF hs n2 n8 hk k (i + 1) f (by omega) (by omega)
    rw [M_book_L16, hs, pw_n n (by omega), if_pos (show nI i < nI (2 ^ n) from nI_lt (by omega) (by omega)), M_isIn_e hF hs n2 n8 hk (by omega), crd_s]
    simp only [jn_e, bnd_e, i10, nI_1]
    rw [cB_s] at this
    by_cases g : inB n kd i = true
    · rw [if_pos g] at this ⊢
      exact this
    · rw [if_neg g] at this ⊢
      rw [show nI (cB n kd i) + (0 : Int32) = nI (cB n kd i + 0) from nI_add _ 0]
      exact this
theorem M_place_loop {F n kd m : Nat} {M : St} {K : Int32 → Option Int32} (hF : 10 ≤ F) (hs : M.1 0 0 = nI n) (n2 : 2 ≤ n) (n8 : n ≤ 8) (hk : kd < 2) (hm : m ≤ 256) : ∀ (k i f : Nat), i + k = m → k < f → M_place_L25 F (nI kd) (nI m) M K f (nI (cB n kd i)) (nI i) = K (nI (cB n kd m))
  | 0, i, f + 1, e, hf => by
    have : i = m := by omega
    subst this
    rw [M_place_L25, if_neg (show ¬ nI i < nI i from nI_nlt (by omega) (by omega))]
  | k + 1, i, f + 1, e, hf => by
    have := M_place_loop (K := K) hF hs n2 n8 hk hm k (i + 1) f (by omega) (by omega)
    rw [M_place_L25, if_pos (show nI i < nI m from nI_lt (by omega) (by omega)), M_isIn_e hF hs n2 n8 hk (by omega), crd_s]
    simp only [jn_e, bnd_e, i10, nI_1]
    rw [cB_s] at this
    by_cases g : inB n kd i = true
    · rw [if_pos g] at this ⊢
      exact this
    · rw [if_neg g] at this ⊢
      rw [show nI (cB n kd i) + (0 : Int32) = nI (cB n kd i + 0) from nI_add _ 0]
      exact this
theorem N_isKind_e {F : Nat} {S : St} {x : Int32} : N_isKind F S x = some (if 0 ≤ x.toInt ∧ x.toInt ≤ 1 then 1 else 0) := by
  unfold N_isKind
  have b0 : x = 0 ↔ x.toInt = 0 := by rw [ieq, c0]
  have b1 : x = 1 ↔ x.toInt = 1 := by rw [ieq, c1]
  simp only [jn_e, b0, b1]
  grind
theorem ok_book : st_book F9 Rel9 := by
  intro S M h x
  obtain ⟨n, hp⟩ := h.1
  obtain ⟨n2, n8, sn, mn, -⟩ := id hp
  have h0 : (0 : Int64) = (0 : Int32).toInt64 := by decide
  have h1 : (1 : Int64) = (1 : Int32).toInt64 := by decide
  have hw := pw_hi n8
  unfold N_book M_book P_words
  rw [N_isKind_e, h0, h1, M_in_e, sn, pw_n n (by omega)]
  simp only [crd_s, i10, c0, c1]
  by_cases g : 0 ≤ x.toInt ∧ x.toInt ≤ 1
  · obtain ⟨kd, hk, rfl, hk2⟩ := i_nat g.1
    rw [if_pos g, if_pos g, N_lesser_e (by decide) sn n2 n8 (by omega) hw, crd_s]
    exact ⟨_, rfl, M_book_loop (by decide) mn n2 n8 (by omega) (2 ^ n) 0 F9 (by omega) (by have : F9 = 1000000000 := rfl; omega), h⟩
  · rw [if_neg g, if_neg g]
    exact ⟨-1, rfl, rfl, h⟩
theorem ok_place : st_place F9 Rel9 := by
  intro S M h x y
  obtain ⟨n, hp⟩ := h.1
  obtain ⟨n2, n8, sn, mn, -⟩ := id hp
  have h0 : (0 : Int64) = (0 : Int32).toInt64 := by decide
  have h1 : (1 : Int64) = (1 : Int32).toInt64 := by decide
  have hw := pw_hi n8
  unfold N_place M_place
  rw [N_isKind_e, h0, h1, M_in_e, P_isWord_e 1 n8 sn, M_isWord_e n8 mn]
  simp only [crd_s, i10, c0, c1]
  by_cases g : 0 ≤ x.toInt ∧ x.toInt ≤ 1
  · obtain ⟨kd, hk, rfl, hk2⟩ := i_nat g.1
    rw [if_pos g, if_pos g]
    by_cases g2 : 0 ≤ y.toInt ∧ y.toInt < 2 ^ n
    · obtain ⟨v, hv, rfl, hv2⟩ := i_nat g2.1
      have vl : v < 2 ^ n := by have := g2.2; rw [hv2] at this; exact_mod_cast this
      have e1 := M_place_loop (F := F9) (M := M) (K := fun v4 => crd (M_isIn F9 M (nI kd) (nI v)) fun v5 => (if v5 = 0 then some (-4) else some v4)) (by decide) mn n2 n8 (show kd < 2 by omega) (show v ≤ 256 by omega) v 0 F9 (by omega) (by have : F9 = 1000000000 := rfl; omega)
      rw [if_pos g2, if_pos g2, N_isInBook_e sn n2 n8 (by omega) (by omega), crd_s, N_lesser_e (by decide) sn n2 n8 (by omega) (by omega)]
      refine ⟨if inB n kd v then nI (cB n kd v) else -4, ?_, ?_, h⟩
      · simp only [i10, crd_s]
        by_cases gi : inB n kd v = true
        · rw [if_pos gi, if_pos gi]
        · rw [if_neg gi, if_neg gi]
      · refine Eq.trans e1 ?_
        rw [M_isIn_e (by decide) mn n2 n8 (by omega) (by omega), crd_s]
        simp only [i10]
        by_cases gi : inB n kd v = true
        · rw [if_pos gi, if_pos gi]
        · rw [if_neg gi, if_neg gi]
    · rw [if_neg g2, if_neg g2]
      exact ⟨-1, rfl, rfl, h⟩
  · rw [if_neg g, if_neg g]
    exact ⟨-1, rfl, rfl, h⟩
