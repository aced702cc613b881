/-! B: BOOKS -/
theorem isIn_mono {F F' : Nat} {x y r : Int32} {M M' : St} (hM : M'.1 0 0 = M.1 0 0) (k : Nat) : ∀ (n : Nat) (a b : Int32), M_isIn_L5 F x y M n a b = some r → M_isIn_L5 F' x y M' (n + k) a b = some r
  | 0, a, b, h => by cases h
  | n + 1, a, b, h => by
    have ih := isIn_mono (F := F) (F' := F') (x := x) (y := y) (r := r) hM k n
    rw [show n + 1 + k = (n + k) + 1 by omega, M_isIn_L5]
    rw [M_isIn_L5] at h
    rw [hM]
    simp only [jn_e, bnd_e] at h ⊢
    grind
def S1w (n : Nat) : St := sI Sz 1 0 (nI n)
def M1w (n : Nat) : St := sI Sz 0 0 (nI n)
def inB (n kd v : Nat) : Bool := decide (N_isInBook 0 (S1w n) (nI kd) (nI v) = some 1)
theorem inB_all : ∀ n, n < 9 → 2 ≤ n → ∀ kd, kd < 2 → ∀ v, v < 256 → N_isInBook 0 (S1w n) (nI kd) (nI v) = some (if inB n kd v then 1 else 0) ∧ M_isIn_L5 0 (nI kd) (nI v) (M1w n) 10 1 0 = some (if inB n kd v then 1 else 0) := by decide +kernel
