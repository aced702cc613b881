/-! B: A CHANGE ON NINE WIRES (as 42 and 43, for one wire more) -/
theorem pw_n9 : ∀ n, n < 10 → jshl 1 (nI n) = nI (2 ^ n) := by decide +kernel
theorem pw_hi9 {n : Nat} (h : n ≤ 9) : 2 ^ n ≤ 512 := Nat.pow_le_pow_right (by decide) (show n ≤ 9 from h)
theorem pw_19 {n : Nat} (hn : n ≤ 9) : nI (2 ^ n) - 1 = nI (2 ^ n - 1) := by
  have := Nat.two_pow_pos n
  rw [show (1 : Int32) = nI 1 from rfl, pk_sub (by omega)]
theorem C_between_9 {F n sh a b : Nat} {S : St} (h1 : 1 ≤ n) (n8 : n ≤ 9) (hs : sh < 2 ^ (n - 1)) (ha : a < 2 ^ n) (hb : b < 2 ^ n) : ∃ S' u w x y, C_between F S (nI a) (nI b) (nI n) (nI sh) = some S' ∧ Sq5 S S' ∧ CV S' n sh a b u w x y := by
  have hp := pw_hi9 n8
  have hp2 : 2 ^ (n - 1) < 2 ^ n := Nat.pow_lt_pow_right (by decide) (by omega)
  have e1 : nI n - 1 = nI (n - 1) := pk_sub (a := n) (b := 1) h1
  have e2 : nI (2 ^ (n - 1)) - 1 = nI (2 ^ (n - 1) - 1) := pk_sub (a := 2 ^ (n - 1)) (b := 1) (Nat.two_pow_pos _)
  have hu : nd b a < 2 ^ n := nd_lt hb
  have hw : nd a b < 2 ^ n := nd_lt ha
  have hm : nd b a ||| nd a b < 2 ^ n := Nat.or_lt_two_pow hu hw
  have hsm : sh &&& (2 ^ (n - 1) - 1) = sh := by rw [Nat.and_two_pow_sub_one_eq_mod, Nat.mod_eq_of_lt hs]
  have bu : ∀ p, (nd b a).testBit p = (b.testBit p && !a.testBit p) := fun p => nd_bit (by omega)
  have bw : ∀ p, (nd a b).testBit p = (a.testBit p && !b.testBit p) := fun p => nd_bit (by omega)
  have bg : ∀ p, (nd (2 ^ (n - 1) - 1) sh).testBit p = (decide (p + 1 < n) && !sh.testBit p) := fun p => by
    rw [nd_bit (by omega), Nat.testBit_two_pow_sub_one]
    congr 1
    exact decide_eq_decide.mpr (by omega)
  have hg : nd (2 ^ (n - 1) - 1) sh < 2 ^ n := Nat.lt_of_le_of_lt Nat.and_le_left (by omega)
  unfold C_between
  simp only [bnd_e, e1, pw_n9 n (by omega), pw_n9 (n - 1) (by omega), e2, pw_19 n8, nd_e, sI_at, ni_or, ni_and, hsm, and_self, and_true, true_and, if_true, ite_true, reduceIte, reduceCtorEq, Nat.reduceEqDiff, false_and, and_false, if_false, ite_false]
  simp only [jshr1 (show nd b a ||| nd a b < 2 ^ 31 by omega), jshr1 (show nd b a < 2 ^ 31 by omega), jshr1 (show nd a b < 2 ^ 31 by omega), ni_xor, ni_and, ni_or]
  refine ⟨_, nd b a, nd a b, ((nd b a ||| nd a b) ^^^ (nd b a ||| nd a b) / 2) &&& nd (2 ^ (n - 1) - 1) sh, (nd b a &&& nd a b / 2 ||| nd a b &&& nd b a / 2) &&& nd (2 ^ (n - 1) - 1) sh, rfl, ⟨fun q hq => ?_, rfl⟩, ?_⟩
  · simp only [sI_row _ _ _ _ q hq]
  · refine ⟨by simp [sI_at], by simp [sI_at], by simp [sI_at], by simp [sI_at], by simp [sI_at], by simp [sI_at], by simp [sI_at], hu, hw, ?_, ?_, hs, bu, bw, fun p => ?_, fun p => ?_⟩
    · exact Nat.lt_of_le_of_lt Nat.and_le_right hg
    · exact Nat.lt_of_le_of_lt Nat.and_le_right hg
    · rw [Nat.testBit_and, Nat.testBit_xor, Nat.testBit_div_two, Nat.testBit_or, Nat.testBit_or, bg, bu, bw, bu, bw, bx1, Bool.and_comm]
      rfl
    · rw [Nat.testBit_and, Nat.testBit_or, Nat.testBit_and, Nat.testBit_and, Nat.testBit_div_two, Nat.testBit_div_two, bg, bu, bw, bu, bw, bx2, Bool.and_comm]
      rfl
theorem C_moves_9 {F n sh a b u w x y : Nat} {S : St} (n8 : n ≤ 9) (h : CV S n sh a b u w x y) : C_moves F S = some (nI (mvD n (mvz a b))) := by
  obtain ⟨h0, h1, h2, h3, h4, h5, h6, lu, lw, lx, ly, ls, bu, bw, bx, by'⟩ := h
  have hp := pw_hi9 n8
  have hm : u ||| w < 2 ^ n := Nat.or_lt_two_pow lu lw
  unfold C_moves
  rw [h3, Ji_small (by omega), crd_s, pc_cut (k := n) (by omega) (fun i hi => bit_hi hm hi)]
  congr 2
  refine fb_ct_cong fun p _ => ?_
  rw [Nat.testBit_or, bu, bw, mvz_4, bx0]
theorem C_cost_9 {F n sh a b u w x y o s : Nat} {S : St} (n8 : n ≤ 9) (h : CV S n sh a b u w x y) : C_cost F S (nI o) (nI s) = some (nI (coD n sh o s (mvz a b))) := by
  have cs := cost_sum h (n - 1) (Nat.le_refl _)
  have cm := C_moves_9 (F := F) n8 h
  obtain ⟨h0, h1, h2, h3, h4, h5, h6, lu, lw, lx, ly, ls, bu, bw, bx, by'⟩ := id h
  have hp := pw_hi9 n8
  have hp2 : 2 ^ (n - 1) ≤ 2 ^ n := Nat.pow_le_pow_right (by decide) (by omega)
  have hm : u ||| w < 2 ^ n := Nat.or_lt_two_pow lu lw
  have l1 : (u ||| w) &&& sh < 2 ^ (n - 1) := Nat.lt_of_le_of_lt Nat.and_le_right ls
  have l2 : (u ||| w) / 2 &&& sh < 2 ^ (n - 1) := Nat.lt_of_le_of_lt Nat.and_le_right ls
  have f4 : (4 : Int32) = nI 4 := rfl
  unfold C_cost
  rw [h3, h4, h5, h6, ni_and, jshr1 (by omega), ni_and, Ji_small (by omega), Ji_small (by omega), Ji_small (by omega), Ji_small (by omega), cm]
  simp only [crd_s, bnd_e]
  simp only [f4, pk_mul, nI_add]
  rw [pc_cut (k := n - 1) (by omega) (fun i hi => bit_hi l1 hi), pc_cut (k := n - 1) (by omega) (fun i hi => bit_hi l2 hi), pc_cut (v := x) (k := n - 1) (by omega) (fun i hi => by rw [bx, decide_eq_false (by omega)]; rfl), pc_cut (v := y) (k := n - 1) (by omega) (fun i hi => by rw [by', decide_eq_false (by omega)]; rfl), cs]
  rfl
theorem C_greatestSlow_9 {F n sh a b u w x y : Nat} {S : St} (n8 : n ≤ 9) (h : CV S n sh a b u w x y) : C_greatestSlow F S = some (nI (slw n sh a b)) := by
  obtain ⟨h0, h1, h2, h3, h4, h5, h6, lu, lw, lx, ly, ls, bu, bw, bx, by'⟩ := id h
  have hp := pw_hi9 n8
  have hp2 : 2 ^ (n - 1) ≤ 2 ^ n := Nat.pow_le_pow_right (by decide) (by omega)
  have hm : u ||| w < 2 ^ n := Nat.or_lt_two_pow lu lw
  have hv : (x ||| y) ||| sh < 2 ^ n := Nat.or_lt_two_pow (Nat.or_lt_two_pow lx ly) (by omega)
  have bm : ∀ p, (u ||| w).testBit p = decide (mvz a b p ≠ 0) := fun p => by rw [Nat.testBit_or, bu, bw, mvz_4, bx0]
  have ml : ∀ z, (u ||| w) &&& z < 2 ^ n := fun z => Nat.lt_of_le_of_lt Nat.and_le_left hm
  have al : ∀ {z r : Nat}, z < 2 ^ n → z &&& r < 2 ^ n := fun hz => Nat.lt_of_le_of_lt Nat.and_le_left hz
  unfold C_greatestSlow
  rw [h3, h4, h5, h6, ni_or, ni_or]
  simp only [bnd_e]
  rw [jshl1 (by omega), jshl1 (by omega), ni_and, ni_and, ni_and, ni_and, ni_and, ni_and, ni_and, ni_and, ni_or, ni_or, ni_or, ni_or]
  have c4 : nI (((u ||| w) &&& y) &&& ((u ||| w) &&& (y * 2 ^ 1))) = 0 ↔ slw n sh a b ≤ 3 := by
    rw [z_bits (al (ml _)) (by omega), slw, mxz_le]
    refine forall_congr' fun p => forall_congr' fun hp => ?_
    rw [Nat.testBit_and, Nat.testBit_and, Nat.testBit_and, bm, gpz_2 h, gpb_2 h, slz_g hp]
    exact gs4 _ (gpz_lt _ _ _ _ _) _ (gpb_lt _ _ _ _ _) _
  have c3 : nI (((u ||| w) &&& y) &&& ((u ||| w) &&& (((x ||| y) ||| sh) * 2 ^ 1)) ||| ((u ||| w) &&& ((x ||| y) ||| sh)) &&& ((u ||| w) &&& (y * 2 ^ 1))) = 0 ↔ slw n sh a b ≤ 2 := by
    rw [z_bits (Nat.or_lt_two_pow (al (ml _)) (al (ml _))) (by omega), slw, mxz_le]
    refine forall_congr' fun p => forall_congr' fun hp => ?_
    rw [Nat.testBit_or, Nat.testBit_and, Nat.testBit_and, Nat.testBit_and, Nat.testBit_and, Nat.testBit_and, Nat.testBit_and, bm, gpz_2 h, gpb_2 h, gpz_1 h, gpb_1 h, slz_g hp]
    exact gs3 _ (gpz_lt _ _ _ _ _) _ (gpb_lt _ _ _ _ _) _
  have c2 : nI (((u ||| w) &&& y ||| (u ||| w) &&& (y * 2 ^ 1)) ||| ((u ||| w) &&& ((x ||| y) ||| sh)) &&& ((u ||| w) &&& (((x ||| y) ||| sh) * 2 ^ 1))) = 0 ↔ slw n sh a b ≤ 1 := by
    rw [z_bits (Nat.or_lt_two_pow (Nat.or_lt_two_pow (ml _) (ml _)) (al (ml _))) (by omega), slw, mxz_le]
    refine forall_congr' fun p => forall_congr' fun hp => ?_
    rw [Nat.testBit_or, Nat.testBit_or, Nat.testBit_and, Nat.testBit_and, Nat.testBit_and, Nat.testBit_and, Nat.testBit_and, bm, gpz_2 h, gpb_2 h, gpz_1 h, gpb_1 h, slz_g hp]
    exact gs2 _ (gpz_lt _ _ _ _ _) _ (gpb_lt _ _ _ _ _) _
  have c1 : nI ((u ||| w) &&& ((x ||| y) ||| sh) ||| (u ||| w) &&& (((x ||| y) ||| sh) * 2 ^ 1)) = 0 ↔ slw n sh a b ≤ 0 := by
    rw [z_bits (Nat.or_lt_two_pow (ml _) (ml _)) (by omega), slw, mxz_le]
    refine forall_congr' fun p => forall_congr' fun hp => ?_
    rw [Nat.testBit_or, Nat.testBit_and, Nat.testBit_and, bm, gpz_1 h, gpb_1 h, slz_g hp]
    exact gs1 _ (gpz_lt _ _ _ _ _) _ (gpb_lt _ _ _ _ _) _
  simp only [c4, c3, c2, c1]
  have := slw_le4 n sh a b
  rcases (show slw n sh a b = 0 ∨ slw n sh a b = 1 ∨ slw n sh a b = 2 ∨ slw n sh a b = 3 ∨ slw n sh a b = 4 by omega) with e | e | e | e | e <;> rw [e] <;> rfl
