/-! THE RELATION of the two sides' states -/
def mvz (a b p : Nat) : Int := ((b.testBit p).toNat : Int) - (a.testBit p).toNat
def sdz (sh a b g : Nat) : Nat := if sh.testBit g then 1 else (mvz a b g - mvz a b (g + 1)).natAbs
def slz (n sh a b p : Nat) : Nat := if mvz a b p = 0 then 0 else (if 0 < p then sdz sh a b (p - 1) else 0) + (if p + 1 < n then sdz sh a b p else 0)
def mxz (f : Nat → Nat) : Nat → Nat
  | 0 => 0
  | k + 1 => max (mxz f k) (f k)
/-- SLOW of a change between two words by places -/
def slw (n sh a b : Nat) : Nat := mxz (slz n sh a b) n
def RelP (n : Nat) (S M : St) : Prop := 2 ≤ n ∧ n ≤ 8 ∧ S.1 1 0 = nI n ∧ M.1 0 0 = nI n ∧ (∃ o, o ≤ 99 ∧ S.1 1 1 = nI o ∧ M.1 0 1 = nI o) ∧ (∃ d, d ≤ 99 ∧ S.1 1 2 = nI d ∧ M.1 0 2 = nI d) ∧ (∃ h, h < 2 ^ (n - 1) ∧ S.1 1 3 = nI h ∧ M.1 0 3 = nI h) ∧ (∃ l, l ≤ 40 ∧ S.1 1 4 = nI l ∧ M.1 0 4 = nI l ∧ ∀ k, k < l → ∃ v, v < 2 ^ n ∧ S.1 3 k = nI v ∧ M.1 1 k = nI v) ∧ (∀ p, p < n → ∃ v, v < n ∧ S.1 2 p = nI v ∧ M.1 2 p = nI v) ∧ (∀ p q, p < n → q < n → S.1 2 p = S.1 2 q → p = q)
def RelT (S M : St) : Prop := ∃ t, t ≤ 240 ∧ S.1 7 0 = nI t ∧ M.1 0 15 = nI t ∧ ∀ k, k < t → ∃ v, v < 256 ∧ M.1 5 k = nI v ∧ S.1 8 k = jb (nI v)
def RelF (S M : St) : Prop := S.1 6 2 = M.1 0 20 ∧ S.1 0 7 = M.1 0 36
def RelH (S M : St) : Prop := ∀ k, k < 4 → ((S.1 (22 + 2 * k) 0 = -1 ∧ M.1 14 k = -4) ∨ ∃ v, v < 3 ∧ S.1 (22 + 2 * k) 0 = nI v ∧ M.1 14 k = nI v) ∧ (∃ z, z ≤ 40 ∧ S.1 (22 + 2 * k) 1 = nI z ∧ M.1 15 k = nI z) ∧ ∀ i, i < 40 → S.1 (23 + 2 * k) i = M.1 16 (40 * k + i)
def RelC (S : St) : Prop := S.1 17 4 = 0 ∨ ∃ m, 2 ≤ m ∧ m ≤ 8 ∧ S.1 17 4 = nI m ∧ S.1 17 5 = nI (2 ^ m) ∧ ∀ k a b, k < 5 → a < 256 → b < 256 → (S.2 18 ((k * 256 + a) * 4 + b / 64)).toBitVec.getLsbD (b % 64) = decide (a < 2 ^ m ∧ b < 2 ^ m ∧ slw m 0 a b ≤ k)
def RelD (M : St) : Prop := M.1 0 31 = 0 ∨ ∃ m, 2 ≤ m ∧ m ≤ 8 ∧ M.1 0 31 = nI m ∧ ∀ a b, a < 2 ^ m → b < 2 ^ m → M.1 13 (256 * a + b) = nI (slw m 0 a b)
def F9 : Nat := 1000000000
def Rel9 (S M : St) : Prop := (∃ n, RelP n S M) ∧ RelT S M ∧ RelF S M ∧ RelH S M ∧ RelC S ∧ RelD M
/-- what a call that changes nothing that lasts leaves as it was -/
def SqN (S S' : St) : Prop := (∀ a, (a = 0 ∨ a = 1 ∨ a = 2 ∨ a = 3 ∨ a = 6 ∨ a = 7 ∨ a = 8 ∨ a = 17 ∨ 22 ≤ a) → S'.1 a = S.1 a) ∧ S'.2 18 = S.2 18
def SqM (M M' : St) : Prop := (∀ k, k ≠ 24 → k ≠ 25 → M'.1 0 k = M.1 0 k) ∧ ∀ a, (a = 1 ∨ a = 2 ∨ a = 5 ∨ 13 ≤ a) → M'.1 a = M.1 a
theorem SqN.rf {S : St} : SqN S S := ⟨fun _ _ => rfl, rfl⟩
theorem SqM.rf {S : St} : SqM S S := ⟨fun _ _ _ => rfl, fun _ _ => rfl⟩
theorem SqN.tr {S T U : St} (h : SqN S T) (g : SqN T U) : SqN S U := ⟨fun a ha => (g.1 a ha).trans (h.1 a ha), g.2.trans h.2⟩
theorem SqM.tr {S T U : St} (h : SqM S T) (g : SqM T U) : SqM S U := ⟨fun k h1 h2 => (g.1 k h1 h2).trans (h.1 k h1 h2), fun a ha => (g.2 a ha).trans (h.2 a ha)⟩
theorem rel_sq {S M S' M' : St} (h : Rel9 S M) (hN : SqN S S') (hM : SqM M M') : Rel9 S' M' := by
  obtain ⟨⟨n, hp⟩, ht, hf, hh, hc, hd⟩ := h
  have e (a : Nat) (ha : a = 0 ∨ a = 1 ∨ a = 2 ∨ a = 3 ∨ a = 6 ∨ a = 7 ∨ a = 8 ∨ a = 17 ∨ 22 ≤ a) : S'.1 a = S.1 a := hN.1 a ha
  have m (k : Nat) (h1 : k ≠ 24) (h2 : k ≠ 25) : M'.1 0 k = M.1 0 k := hM.1 k h1 h2
  have g (a : Nat) (ha : a = 1 ∨ a = 2 ∨ a = 5 ∨ 13 ≤ a) : M'.1 a = M.1 a := hM.2 a ha
  refine ⟨⟨n, ?_⟩, ?_, ?_, ?_, ?_, ?_⟩
  · unfold RelP at hp ⊢
    rw [e 1 (by omega), e 2 (by omega), e 3 (by omega), m 0 (by omega) (by omega), m 1 (by omega) (by omega), m 2 (by omega) (by omega), m 3 (by omega) (by omega), m 4 (by omega) (by omega), g 1 (by omega), g 2 (by omega)]
    exact hp
  · unfold RelT at ht ⊢
    rw [e 7 (by omega), e 8 (by omega), m 15 (by omega) (by omega), g 5 (by omega)]
    exact ht
  · unfold RelF at hf ⊢
    rw [e 6 (by omega), e 0 (by omega), m 20 (by omega) (by omega), m 36 (by omega) (by omega)]
    exact hf
  · intro k hk
    rw [e (22 + 2 * k) (by omega), e (23 + 2 * k) (by omega), g 14 (by omega), g 15 (by omega), g 16 (by omega)]
    exact hh k hk
  · unfold RelC at hc ⊢
    rw [e 17 (by omega), hN.2]
    exact hc
  · unfold RelD at hd ⊢
    rw [m 31 (by omega) (by omega), g 13 (by omega)]
    exact hd
