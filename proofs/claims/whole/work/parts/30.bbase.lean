/-! B: PURE. rows for functions over states -/
theorem crd_s {α β : Type} (r : α) (k : α → Option β) : crd (some r) k = k r := rfl
theorem cal_s {α β : Type} (r : α) (S : St) (k : α → St → Option β) : cal (some (r, S)) k = k r S := rfl
theorem cav_s {β : Type} (S : St) (k : St → Option β) : cav (some S) k = k S := rfl
theorem bnd_e {α β : Type} (v : α) (k : α → β) : bnd v k = k v := rfl
theorem jn_e {α β : Type} (k : α) (b : α → β) : jn k b = b k := rfl
theorem chk_t {β : Type} {i : Int32} {n : Nat} (k : Option β) (h : 0 ≤ i ∧ i.toNatClampNeg < n) : chk i n k = k := if_pos h
theorem chk_n {β : Type} {j n : Nat} (k : Option β) (h : j < n) (hn : n < 2 ^ 31) : chk (nI j) n k = k := chk_t k ⟨nI_pos' (by omega), by rw [nI_clamp (by omega)]; exact h⟩
theorem zk_t {β : Type} {v : Int32} (k : Option β) (h : v = 0 ∨ v = 1) : zk v k = k := if_pos h
theorem nz_t {β : Type} {d : Int32} (k : Option β) (h : ¬ d = 0) : nz d k = k := if_neg h
theorem sI_at (S : St) (q k : Nat) (v : Int32) (a j : Nat) : (sI S q k v).1 a j = if a = q ∧ j = k then v else S.1 a j := by
  show (if a = q then upd (S.1 a) k v else S.1 a) j = _
  by_cases h : a = q
  · rw [if_pos h]
    by_cases h2 : j = k
    · rw [if_pos ⟨h, h2⟩, h2, pk_us]
    · rw [if_neg (fun z => h2 z.2), pk_un h2]
  · rw [if_neg h, if_neg (fun z => h z.1)]
theorem sI_2 (S : St) (q k : Nat) (v : Int32) : (sI S q k v).2 = S.2 := rfl
theorem sL_1 (S : St) (q k : Nat) (v : Int64) : (sL S q k v).1 = S.1 := rfl
theorem sL_at (S : St) (q k : Nat) (v : Int64) (a j : Nat) : (sL S q k v).2 a j = if a = q ∧ j = k then v else S.2 a j := by
  show (if a = q then vp_updL (S.2 a) k v else S.2 a) j = _
  by_cases h : a = q
  · rw [if_pos h]
    by_cases h2 : j = k
    · rw [if_pos ⟨h, h2⟩, h2, pk_uLs]
    · rw [if_neg (fun z => h2 z.2), pk_uLn h2]
  · rw [if_neg h, if_neg (fun z => h z.1)]
theorem sA_1 (S : St) (q : Nat) (f : Nat → Int32) (a : Nat) : (sA S q f).1 a = if a = q then f else S.1 a := rfl
theorem sA_2 (S : St) (q : Nat) (f : Nat → Int32) : (sA S q f).2 = S.2 := rfl
theorem sB_1 (S : St) (q : Nat) (f : Nat → Int64) : (sB S q f).1 = S.1 := rfl
theorem sB_2 (S : St) (q : Nat) (f : Nat → Int64) (a : Nat) : (sB S q f).2 a = if a = q then f else S.2 a := rfl
theorem ilt (a b : Int32) : a < b ↔ a.toInt < b.toInt := Int32.lt_iff_toInt_lt
theorem ile (a b : Int32) : a ≤ b ↔ a.toInt ≤ b.toInt := Int32.le_iff_toInt_le
theorem ieq (a b : Int32) : a = b ↔ a.toInt = b.toInt := Int32.toInt_inj.symm
theorem i_lo (a : Int32) : -2147483648 ≤ a.toInt := by have := Int32.le_toInt a; omega
theorem i_hi (a : Int32) : a.toInt < 2147483648 := by have := Int32.toInt_lt a; omega
theorem iadd {a b : Int32} (h1 : -2147483648 ≤ a.toInt + b.toInt) (h2 : a.toInt + b.toInt < 2147483648) : (a + b).toInt = a.toInt + b.toInt := by
  rw [Int32.toInt_add, Int.bmod_eq_of_le (by omega) (by omega)]
theorem isub {a b : Int32} (h1 : -2147483648 ≤ a.toInt - b.toInt) (h2 : a.toInt - b.toInt < 2147483648) : (a - b).toInt = a.toInt - b.toInt := by
  rw [Int32.toInt_sub, Int.bmod_eq_of_le (by omega) (by omega)]
theorem imul {a b : Int32} (h1 : -2147483648 ≤ a.toInt * b.toInt) (h2 : a.toInt * b.toInt < 2147483648) : (a * b).toInt = a.toInt * b.toInt := by
  rw [Int32.toInt_mul, Int.bmod_eq_of_le (by omega) (by omega)]
theorem i_nat {x : Int32} (h : 0 ≤ x.toInt) : ∃ k : Nat, k < 2 ^ 31 ∧ x = nI k ∧ x.toInt = k := by
  obtain ⟨k, hk, rfl⟩ := nI_of (x := x) (by rw [ilt]; have : (0 : Int32).toInt = 0 := by decide
                                            omega)
  exact ⟨k, hk, rfl, nI_toInt hk⟩
theorem lt64 (a b : Int32) : a.toInt64 < b.toInt64 ↔ a.toInt < b.toInt := by
  rw [Int64.lt_iff_toInt_lt, Int32.toInt_toInt64, Int32.toInt_toInt64]
theorem eq64 (a b : Int32) : a.toInt64 = b.toInt64 ↔ a.toInt = b.toInt := by
  rw [← Int64.toInt_inj, Int32.toInt_toInt64, Int32.toInt_toInt64]
theorem M_in_e (F : Nat) (S : St) (a b c : Int32) : M_in F S a.toInt64 b.toInt64 c.toInt64 = some (if b.toInt ≤ a.toInt ∧ a.toInt ≤ c.toInt then 1 else 0) := by
  have h1 : (lg_cmp a.toInt64 b.toInt64 < 0) ↔ a.toInt < b.toInt := by
    have h := lg_cmp_ge a.toInt64 b.toInt64
    rw [Int64.le_iff_toInt_le, Int32.toInt_toInt64, Int32.toInt_toInt64] at h
    rw [← Int32.not_le, h]
    omega
  have h2 : (0 < lg_cmp a.toInt64 c.toInt64) ↔ c.toInt < a.toInt := by
    have h := lt64 c a
    rw [← h]
    unfold lg_cmp
    by_cases g : a.toInt64 > c.toInt64
    · rw [if_pos g]; exact ⟨fun _ => g, fun _ => by decide⟩
    · rw [if_neg g]
      by_cases g2 : a.toInt64 = c.toInt64
      · rw [if_pos g2]; exact ⟨fun h => absurd h (by decide), fun h => absurd h g⟩
      · rw [if_neg g2]; exact ⟨fun h => absurd h (by decide), fun h => absurd h g⟩
  unfold M_in
  rw [jn_e]
  by_cases g1 : a.toInt < b.toInt
  · rw [if_pos (h1.mpr g1), if_neg (by omega)]
  · rw [if_neg (fun h => g1 (h1.mp h))]
    by_cases g2 : c.toInt < a.toInt
    · rw [if_pos (h2.mpr g2), if_neg (by omega)]
    · rw [if_neg (fun h => g2 (h2.mp h)), if_pos (by omega)]
