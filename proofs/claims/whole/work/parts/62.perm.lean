/-! B: ORDERS AS FUNCTIONS; the next one in rising order -/
def Pm (n : Nat) (p : Nat → Nat) : Prop := (∀ i, i < n → p i < n) ∧ ∀ i j, i < n → j < n → p i = p j → i = j
def lxp (n : Nat) (p r : Nat → Nat) : Prop := ∃ k, k < n ∧ p k < r k ∧ ∀ j, j < k → p j = r j
theorem lxp_cases (n : Nat) (p r : Nat → Nat) : lxp n p r ∨ lxp n r p ∨ ∀ i, i < n → p i = r i := by
  by_cases h : ∃ i, i < n ∧ p i ≠ r i
  · obtain ⟨i, h1, h2, h3⟩ := fb_first (p := fun i => p i ≠ r i) h
    have ag : ∀ j, j < i → p j = r j := fun j hj => Decidable.not_not.mp (h3 j hj)
    rcases Nat.lt_or_gt_of_ne h2 with g | g
    · exact Or.inl ⟨i, h1, g, ag⟩
    · exact Or.inr (Or.inl ⟨i, h1, g, fun j hj => (ag j hj).symm⟩)
  · refine Or.inr (Or.inr fun i hi => ?_)
    exact Decidable.not_not.mp fun g => h ⟨i, hi, g⟩
theorem lxp_tr {n : Nat} {p q r : Nat → Nat} (h : lxp n p q) (g : lxp n q r) : lxp n p r := by
  obtain ⟨i, h0, h1, h2⟩ := h
  obtain ⟨k, g0, g1, g2⟩ := g
  rcases Nat.lt_trichotomy i k with c | c | c
  · exact ⟨i, h0, by rw [← g2 i c]; exact h1, fun j hj => by rw [h2 j hj, g2 j (by omega)]⟩
  · subst c
    exact ⟨i, h0, by omega, fun j hj => by rw [h2 j hj, g2 j hj]⟩
  · exact ⟨k, g0, by rw [h2 k c]; exact g1, fun j hj => by rw [h2 j (by omega), g2 j hj]⟩
theorem lxp_irr {n : Nat} {p : Nat → Nat} (h : lxp n p p) : False := by
  obtain ⟨i, -, h1, -⟩ := h
  omega
theorem lxp_eqL {n : Nat} {p p' r : Nat → Nat} (e : ∀ i, i < n → p i = p' i) (h : lxp n p r) : lxp n p' r := by
  obtain ⟨i, h0, h1, h2⟩ := h
  exact ⟨i, h0, by rw [← e i h0]; exact h1, fun j hj => by rw [← e j (by omega)]; exact h2 j hj⟩
theorem lxp_eqR {n : Nat} {p r r' : Nat → Nat} (e : ∀ i, i < n → r i = r' i) (h : lxp n p r) : lxp n p r' := by
  obtain ⟨i, h0, h1, h2⟩ := h
  exact ⟨i, h0, by rw [← e i h0]; exact h1, fun j hj => by rw [← e j (by omega)]; exact h2 j hj⟩
theorem Pm_onto {n : Nat} {p : Nat → Nat} (h : Pm n p) {v : Nat} (hv : v < n) : ∃ i, i < n ∧ p i = v := fb_onto h.1 (fun i j hij hj e => by
  have := h.2 i j (by omega) hj e
  omega) hv
theorem Pm_rest {n k : Nat} {p r : Nat → Nat} (hp : Pm n p) (hr : Pm n r) (hk : k < n) (ag : ∀ j, j < k → p j = r j) : ∃ j, k ≤ j ∧ j < n ∧ r k = p j := by
  obtain ⟨j, h1, h2⟩ := Pm_onto hp (hr.1 k hk)
  refine ⟨j, Nat.le_of_not_lt fun g => ?_, h1, h2.symm⟩
  have := hr.2 j k h1 hk (by rw [← ag j g, h2])
  omega
theorem desc_lt {n s : Nat} {p : Nat → Nat} (hd : ∀ i, s < i → i + 1 < n → p (i + 1) < p i) : ∀ (t i : Nat), s < i → i + t + 1 < n → p (i + t + 1) < p i
  | 0, i, h1, h2 => hd i h1 h2
  | t + 1, i, h1, h2 => by
    have a := desc_lt hd t i h1 (by omega)
    have b := hd (i + t + 1) (by omega) (by omega)
    rw [show i + (t + 1) + 1 = i + t + 1 + 1 by omega]
    omega
theorem desc_le {n s i j : Nat} {p : Nat → Nat} (hd : ∀ i, s < i → i + 1 < n → p (i + 1) < p i) (h1 : s < i) (h2 : i ≤ j) (h3 : j < n) : p j ≤ p i := by
  by_cases e : i = j
  · rw [e]; exact Nat.le_refl _
  · obtain ⟨t, rfl⟩ : ∃ t, j = i + t + 1 := ⟨j - i - 1, by omega⟩
    exact Nat.le_of_lt (desc_lt hd t i h1 h3)
def NX (n : Nat) (p : Nat → Nat) (s e : Nat) : Prop := s + 1 < n ∧ s < e ∧ e < n ∧ p s < p e ∧ (∀ j, e < j → j < n → p j < p s) ∧ ∀ i, s < i → i + 1 < n → p (i + 1) < p i
def sgx (n s e j : Nat) : Nat := if j < s then j else if j = s then e else if n + s - j = e then s else n + s - j
theorem sgx_in {n s e : Nat} (h1 : s < e) (h2 : e < n) : ∀ i, i < n → sgx n s e i < n := by
  intro i hi
  unfold sgx
  repeat (first | omega | split)
theorem sgx_inj {n s e : Nat} (h1 : s < e) (h2 : e < n) : ∀ i j, i < n → j < n → sgx n s e i = sgx n s e j → i = j := by
  intro i j hi hj
  unfold sgx
  repeat (first | omega | split)
theorem nxq_Pm {n s e : Nat} {p : Nat → Nat} (hp : Pm n p) (h : NX n p s e) : Pm n (fun j => p (sgx n s e j)) := by
  obtain ⟨h1, h2, h3, -⟩ := h
  refine ⟨fun i hi => hp.1 _ (sgx_in h2 h3 i hi), fun i j hi hj e => ?_⟩
  exact sgx_inj h2 h3 i j hi hj (hp.2 _ _ (sgx_in h2 h3 i hi) (sgx_in h2 h3 j hj) e)
theorem nxq_gt {n s e : Nat} {p : Nat → Nat} (h : NX n p s e) : lxp n p (fun j => p (sgx n s e j)) := by
  obtain ⟨h1, h2, h3, h4, -⟩ := h
  refine ⟨s, by omega, ?_, fun j hj => ?_⟩
  · show p s < p (sgx n s e s)
    unfold sgx
    rw [if_neg (by omega), if_pos rfl]
    exact h4
  · show p j = p (sgx n s e j)
    unfold sgx
    rw [if_pos hj]
theorem nxq_asc {n s e : Nat} {p : Nat → Nat} (h : NX n p s e) {i j : Nat} (hi : s < i) (hij : i < j) (hj : j < n) : p (sgx n s e i) < p (sgx n s e j) := by
  obtain ⟨h1, h2, h3, h4, h5, h6⟩ := h
  unfold sgx
  rw [if_neg (show ¬ i < s by omega), if_neg (show ¬ i = s by omega), if_neg (show ¬ j < s by omega), if_neg (show ¬ j = s by omega)]
  by_cases e1 : n + s - i = e
  · rw [if_pos e1, if_neg (by omega)]
    have := desc_le h6 (i := n + s - j) (j := e) (by omega) (by omega) h3
    omega
  · rw [if_neg e1]
    by_cases e2 : n + s - j = e
    · rw [if_pos e2]
      exact h5 _ (by omega) (by omega)
    · rw [if_neg e2]
      obtain ⟨t, ht⟩ : ∃ t, n + s - i = (n + s - j) + t + 1 := ⟨j - i - 1, by omega⟩
      rw [ht]
      exact desc_lt h6 t _ (by omega) (by omega)
theorem nxq_next {n s e : Nat} {p r : Nat → Nat} (hp : Pm n p) (hr : Pm n r) (h : NX n p s e) (a : lxp n p r) (b : lxp n r (fun j => p (sgx n s e j))) : False := by
  have hq := nxq_Pm hp h
  have asc := fun i j => nxq_asc h (i := i) (j := j)
  obtain ⟨h1, h2, h3, h4, h5, h6⟩ := id h
  obtain ⟨k, a0, a1, a2⟩ := a
  have qlow : ∀ j, j < s → p (sgx n s e j) = p j := fun j hj => by unfold sgx; rw [if_pos hj]
  have qs : p (sgx n s e s) = p e := by unfold sgx; rw [if_neg (by omega), if_pos rfl]
  rcases Nat.lt_trichotomy k s with c | c | c
  · refine lxp_irr (lxp_tr b ⟨k, a0, ?_, fun j hj => ?_⟩)
    · show p (sgx n s e k) < r k
      rw [qlow k c]; exact a1
    · show p (sgx n s e j) = r j
      rw [qlow j (by omega)]; exact a2 j hj
  · subst c
    obtain ⟨j, j1, j2, j3⟩ := Pm_rest hp hr a0 a2
    have jk : k < j := by
      refine Nat.lt_of_le_of_ne j1 fun z => ?_
      rw [← z] at j3
      omega
    have je : j ≤ e := by
      refine Nat.le_of_not_lt fun z => ?_
      have := h5 j z j2
      omega
    have ge : p e ≤ r k := by rw [j3]; exact desc_le h6 jk je h3
    by_cases g : p e < r k
    · refine lxp_irr (lxp_tr b ⟨k, a0, ?_, fun j hj => ?_⟩)
      · show p (sgx n k e k) < r k
        rw [qs]; exact g
      · show p (sgx n k e j) = r j
        rw [qlow j hj]; exact a2 j hj
    · obtain ⟨m, b0, b1, b2⟩ := b
      have b1' : r m < p (sgx n k e m) := b1
      have mk : k < m := by
        rcases Nat.lt_trichotomy m k with c | c | c
        · rw [qlow m c] at b1'
          have := a2 m c
          omega
        · rw [c, qs] at b1'
          omega
        · exact c
      obtain ⟨t, t1, t2, t3⟩ := Pm_rest hq hr b0 (fun j hj => (b2 j hj).symm)
      have t3' : r m = p (sgx n k e t) := t3
      by_cases g2 : m = t
      · rw [← g2] at t3'; omega
      · have := asc m t mk (by omega) t2
        omega
  · obtain ⟨j, j1, j2, j3⟩ := Pm_rest hp hr a0 a2
    have := desc_le h6 (i := k) (j := j) c j1 j2
    omega
theorem Pm_last {n : Nat} {p r : Nat → Nat} (hp : Pm n p) (hr : Pm n r) (hd : ∀ i, i + 1 < n → p (i + 1) < p i) : ¬ lxp n p r := by
  rintro ⟨k, a0, a1, a2⟩
  obtain ⟨j, j1, j2, j3⟩ := Pm_rest hp hr a0 a2
  by_cases e : k = j
  · rw [← e] at j3; omega
  · have a := hd k (by omega)
    have b := desc_le (s := k) (i := k + 1) (j := j) (fun i _ h => hd i h) (by omega) (by omega) j2
    omega
theorem Pm_id (n : Nat) : Pm n (fun i => i) := ⟨fun _ h => h, fun _ _ _ _ h => h⟩
theorem Pm_first {n : Nat} {r : Nat → Nat} (hr : Pm n r) : ¬ lxp n r (fun i => i) := by
  rintro ⟨k, a0, a1, a2⟩
  obtain ⟨j, j1, j2, j3⟩ := Pm_rest (Pm_id n) hr a0 (fun j hj => (a2 j hj).symm)
  have a1' : r k < k := a1
  have j3' : r k = j := j3
  omega
def fgp (p : Nat → Nat) : Nat → Nat
  | 0 => 0
  | k + 1 => 10 * fgp p k + p k
theorem fgp_cong {p r : Nat → Nat} : ∀ {k : Nat}, (∀ j, j < k → p j = r j) → fgp p k = fgp r k
  | 0, _ => rfl
  | k + 1, h => by rw [fgp, fgp, fgp_cong (fun j hj => h j (by omega)), h k (by omega)]
theorem fgp_lt {p : Nat → Nat} {n : Nat} (h : ∀ i, i < n → p i < 10) : ∀ k, k ≤ n → fgp p k < 10 ^ k
  | 0, _ => by rw [fgp]; decide
  | k + 1, hk => by
    have a := fgp_lt h k (by omega)
    have b := h k (by omega)
    rw [fgp, Nat.pow_succ]
    omega
theorem fgp_mono {n : Nat} {p r : Nat → Nat} (hp : ∀ i, i < n → p i < 10) (h : lxp n p r) : fgp p n < fgp r n := by
  obtain ⟨k, a0, a1, a2⟩ := h
  have loop : ∀ t, k + 1 + t ≤ n → fgp p (k + 1 + t) < fgp r (k + 1 + t) := by
    intro t
    induction t with
    | zero =>
      intro _
      rw [Nat.add_zero, fgp, fgp, fgp_cong a2]
      omega
    | succ t ih =>
      intro ht
      have a := ih (by omega)
      have b := hp (k + 1 + t) (by omega)
      rw [show k + 1 + (t + 1) = k + 1 + t + 1 by omega, fgp, fgp]
      omega
  have := loop (n - (k + 1)) (by omega)
  rw [show k + 1 + (n - (k + 1)) = n by omega] at this
  exact this
