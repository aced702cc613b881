def Z0 : Nat → Int32 := fun _ => 0
def S0N : St := (fun q => match q with
  | 1 => S_reset.1 0
  | 2 => S_reset.1 1
  | 3 => S_reset.1 2
  | 4 => S_reset.1 3
  | 9 => S_reset.1 0
  | 10 => S_reset.1 1
  | 11 => S_reset.1 2
  | 12 => S_reset.1 3
  | 22 => fun k => match k with
    | 0 => -1
    | _ => 0
  | 24 => fun k => match k with
    | 0 => -1
    | _ => 0
  | 26 => fun k => match k with
    | 0 => -1
    | _ => 0
  | 28 => fun k => match k with
    | 0 => -1
    | _ => 0
  | _ => fun _ => 0, fun _ _ => 0)
def S0M : St := (fun q => match q with
  | 0 => fun k => match k with
    | 0 => 4
    | 1 => 1
    | 2 => 1
    | _ => 0
  | 2 => (upd (upd (upd (upd (upd (upd (upd (upd (upd (fun _ => 0) (Int32.toNatClampNeg 0) 0) (Int32.toNatClampNeg 1) 1) (Int32.toNatClampNeg 2) 2) (Int32.toNatClampNeg 3) 3) (Int32.toNatClampNeg 4) 4) (Int32.toNatClampNeg 5) 5) (Int32.toNatClampNeg 6) 6) (Int32.toNatClampNeg 7) 7) (Int32.toNatClampNeg 8) 8)
  | 14 => (upd (upd (upd (upd (fun _ => 0) (Int32.toNatClampNeg 0) (-4)) (Int32.toNatClampNeg 1) (-4)) (Int32.toNatClampNeg 2) (-4)) (Int32.toNatClampNeg 3) (-4))
  | _ => fun _ => 0, fun _ _ => 0)
set_option maxRecDepth 20000 in
theorem W_N0 (w : Ww) (n0 n1 n2 n3 n4 n5 n6 n7 n8 n9 n10 n11 n12 n13 n14 n15 n16 n17 n18 n19 n20 n21 n22 n23 n24 n25 n26 n27 n28 n29 : Nat) : [(n0, .inr (8, [.ref n1, .ref n5, .ref n6, .ref n13, .ref n16, .ref n17, .ref n21, .int 0])), (n1, .inr (3, [.int (S_reset.1 0 0), .int (S_reset.1 0 1), .int (S_reset.1 0 2), .int (S_reset.1 0 3), .int (S_reset.1 0 4), .ref n2, .ref n3, .ref n4])), (n2, .inl (w.2.1 0, 8, .inl (S_reset.1 1))), (n3, .inl (w.2.1 0, 40, .inl (S_reset.1 2))), (n4, .inl (w.2.1 0, 40, .inl (S_reset.1 3))), (n5, .inr (0, [.int 0, .int 0, .int 0, .int 0, .int 0, .int 0, .int 0])), (n6, .inr (4, [.ref n7, .ref n9, .int 0, .int 0, .int 0, .int 0])), (n7, .inr (6, [.int 0, .int 0, .int 0, .int 0, .ref n8, .int 0])), (n8, .inl (w.2.1 2, 240, .inl (fun _ => 0))), (n9, .inr (3, [.int (S_reset.1 0 0), .int (S_reset.1 0 1), .int (S_reset.1 0 2), .int (S_reset.1 0 3), .int (S_reset.1 0 4), .ref n10, .ref n11, .ref n12])), (n10, .inl (w.2.1 0, 8, .inl (S_reset.1 1))), (n11, .inl (w.2.1 0, 40, .inl (S_reset.1 2))), (n12, .inl (w.2.1 0, 40, .inl (S_reset.1 3))), (n13, .inr (2, [.ref n14, .ref n15, .ref n1, .int 0, .int 0])), (n14, .inl (w.2.1 0, 64, .inl (fun _ => 0))), (n15, .inl (w.2.1 0, 2048, .inl (fun _ => 0))), (n16, .inr (7, [.int 0, .int 0, .int 0, .int 0, .ref n1, .ref n5])), (n17, .inr (1, [.ref n5, .ref n18, .ref n19, .ref n20, .int 0, .int 0])), (n18, .inl (w.2.1 1, 5120, .inr (.inl (fun _ => 0)))), (n19, .inl (w.2.1 1, 4, .inr (.inl (fun _ => 0)))), (n20, .inl (w.2.1 1, 4, .inr (.inl (fun _ => 0)))), (n21, .inl (w.2.1 4, 4, .inr (.inr (.inr (.inr (va_up (va_up (va_up (va_up (fun _ => none) (Int32.toNatClampNeg 0) (some n22)) (Int32.toNatClampNeg 1) (some n24)) (Int32.toNatClampNeg 2) (some n26)) (Int32.toNatClampNeg 3) (some n28))))))), (n22, .inr (5, [.int (-1), .int 0, .ref n23])), (n23, .inl (w.2.1 0, 40, .inl (fun _ => 0))), (n24, .inr (5, [.int (-1), .int 0, .ref n25])), (n25, .inl (w.2.1 0, 40, .inl (fun _ => 0))), (n26, .inr (5, [.int (-1), .int 0, .ref n27])), (n27, .inl (w.2.1 0, 40, .inl (fun _ => 0))), (n28, .inr (5, [.int (-1), .int 0, .ref n29])), (n29, .inl (w.2.1 0, 40, .inl (fun _ => 0)))] = mkW ((fun k => [n0, n1, n2, n3, n4, n5, n6, n7, n8, n9, n10, n11, n12, n13, n14, n15, n16, n17, n18, n19, n20, n21, n22, n23, n24, n25, n26, n27, n28, n29].getD k 0), w.2) S0N 0 shN := by
  have hE : (va_up (va_up (va_up (va_up (fun _ => none) (Int32.toNatClampNeg 0) (some n22)) (Int32.toNatClampNeg 1) (some n24)) (Int32.toNatClampNeg 2) (some n26)) (Int32.toNatClampNeg 3) (some n28)) = (fun i => (([22, 24, 26, 28] : List Nat)[i]?).map (fun k => [n0, n1, n2, n3, n4, n5, n6, n7, n8, n9, n10, n11, n12, n13, n14, n15, n16, n17, n18, n19, n20, n21, n22, n23, n24, n25, n26, n27, n28, n29].getD k 0)) := by
    funext i
    match i with
    | 0 => rfl
    | 1 => rfl
    | 2 => rfl
    | 3 => rfl
    | i + 4 => rfl
  rw [hE]
  rfl
set_option maxRecDepth 20000 in
theorem W_M0 (w : Ww) (m0 m1 m2 m3 m4 m5 m6 m7 m8 m9 m10 m11 m12 m13 m14 m15 m16 : Nat) : [(m0, .inr (9, [.int 4, .int 1, .int 1, .int 0, .int 0, .ref m1, .ref m2, .int 0, .int 0, .int 0, .int 0, .int 0, .ref m3, .ref m4, .ref m5, .int 0, .int 0, .int 0, .int 0, .int 0, .int 0, .int 0, .ref m6, .ref m7, .int 0, .int 0, .ref m8, .ref m9, .ref m10, .ref m11, .ref m12, .int 0, .ref m13, .ref m14, .ref m15, .ref m16, .int 0])), (m1, .inl (w.2.1 0, 40, .inl (fun _ => 0))), (m2, .inl (w.2.1 0, 9, .inl (upd (upd (upd (upd (upd (upd (upd (upd (upd (fun _ => 0) (Int32.toNatClampNeg 0) 0) (Int32.toNatClampNeg 1) 1) (Int32.toNatClampNeg 2) 2) (Int32.toNatClampNeg 3) 3) (Int32.toNatClampNeg 4) 4) (Int32.toNatClampNeg 5) 5) (Int32.toNatClampNeg 6) 6) (Int32.toNatClampNeg 7) 7) (Int32.toNatClampNeg 8) 8))), (m3, .inl (w.2.1 0, 40, .inl (fun _ => 0))), (m4, .inl (w.2.1 3, 6, .inl (fun _ => 0))), (m5, .inl (w.2.1 0, 240, .inl (fun _ => 0))), (m6, .inl (w.2.1 0, 9, .inl (fun _ => 0))), (m7, .inl (w.2.1 0, 9, .inl (fun _ => 0))), (m8, .inl (w.2.1 0, 64, .inl (fun _ => 0))), (m9, .inl (w.2.1 0, 8, .inl (fun _ => 0))), (m10, .inl (w.2.1 0, 82, .inl (fun _ => 0))), (m11, .inl (w.2.1 0, 16, .inl (fun _ => 0))), (m12, .inl (w.2.1 3, 256, .inl (fun _ => 0))), (m13, .inl (w.2.1 0, 65536, .inl (fun _ => 0))), (m14, .inl (w.2.1 0, 4, .inl (upd (upd (upd (upd (fun _ => 0) (Int32.toNatClampNeg 0) (-4)) (Int32.toNatClampNeg 1) (-4)) (Int32.toNatClampNeg 2) (-4)) (Int32.toNatClampNeg 3) (-4)))), (m15, .inl (w.2.1 0, 4, .inl (fun _ => 0))), (m16, .inl (w.2.1 0, 160, .inl (fun _ => 0)))] = mkW ((fun k => [m0, m1, m2, m3, m4, m5, m6, m7, m8, m9, m10, m11, m12, m13, m14, m15, m16].getD k 0), w.2) S0M 0 shM := rfl
set_option maxRecDepth 20000 in
set_option maxHeartbeats 4000000 in
theorem start_walk {F : Nat} {Rel : St → St → Prop} (OK : RelOK F Rel) (R0 : Rel S0N S0M) {w : Ww} {l0 : Launch} {x : Cx} {b L : Nat} {xs : Nat → Int32} (hL : L ≤ 2560) (hnL : x.2.2.2.2.2.2.2.2.2.2.2.2 = 4) (C : KC w "NeighbourWiresLaw" b_L_law l0 100 600000 7302250 x) (X : SC b L xs x)
    (hret : ∀ (wN wM : Ww) (S M : St) (lo : List (Nat × Value)), CX w x (LW wN wM S M) 47 74412 1168 lo [.int 1]) : CX w x [] 0 0 0 [(0, .ref b)] [] := by
  refine c_new C t8 [.null, .null, .null, .null, .null, .null, .null, .int 0] d_L_law_0 (ci := 8) rfl in8 t8_ok ⟨wd91, wd92, wd73⟩ (fun j hj => by rcases (show j = 0 ∨ j = 1 ∨ j = 2 ∨ j = 3 ∨ j = 4 ∨ j = 5 ∨ j = 6 ∨ j = 7 by omega) with rfl | rfl | rfl | rfl | rfl | rfl | rfl | rfl <;> rfl) ⟨(Nat.le_of_ble_eq_true rfl), (Nat.le_of_ble_eq_true rfl)⟩ (fun n0 => ?_)
  change CX w x [(n0, .inr (8, [.null, .null, .null, .null, .null, .null, .null, .int 0]))] _ _ _ _ _
  refine c_dup C d_L_law_3 rfl ?_
  refine c_callI C [(n0, .inr (8, [.null, .null, .null, .null, .null, .null, .null, .int 0]))] [] [0] [] d_L_law_4 wd93 cm_N_init [] rfl rfl (by decide) (Nat.le_of_ble_eq_true rfl) rfl rfl (by decide) (by decide) (by decide) ⟨(Nat.le_of_ble_eq_true rfl), (Nat.le_of_ble_eq_true rfl)⟩ m_N_init (fun u hu => ?_)
  obtain ⟨n1, n2, n3, n4, n5, n6, n7, n8, n9, n10, n11, n12, n13, n14, n15, n16, n17, n18, n19, n20, n21, n22, n23, n24, n25, n26, n27, n28, n29, rfl⟩ := hu
  change CX w x [(n0, .inr (8, [.ref n1, .ref n5, .ref n6, .ref n13, .ref n16, .ref n17, .ref n21, .int 0])), (n1, .inr (3, [.int (S_reset.1 0 0), .int (S_reset.1 0 1), .int (S_reset.1 0 2), .int (S_reset.1 0 3), .int (S_reset.1 0 4), .ref n2, .ref n3, .ref n4])), (n2, .inl (w.2.1 0, 8, .inl (S_reset.1 1))), (n3, .inl (w.2.1 0, 40, .inl (S_reset.1 2))), (n4, .inl (w.2.1 0, 40, .inl (S_reset.1 3))), (n5, .inr (0, [.int 0, .int 0, .int 0, .int 0, .int 0, .int 0, .int 0])), (n6, .inr (4, [.ref n7, .ref n9, .int 0, .int 0, .int 0, .int 0])), (n7, .inr (6, [.int 0, .int 0, .int 0, .int 0, .ref n8, .int 0])), (n8, .inl (w.2.1 2, 240, .inl (fun _ => 0))), (n9, .inr (3, [.int (S_reset.1 0 0), .int (S_reset.1 0 1), .int (S_reset.1 0 2), .int (S_reset.1 0 3), .int (S_reset.1 0 4), .ref n10, .ref n11, .ref n12])), (n10, .inl (w.2.1 0, 8, .inl (S_reset.1 1))), (n11, .inl (w.2.1 0, 40, .inl (S_reset.1 2))), (n12, .inl (w.2.1 0, 40, .inl (S_reset.1 3))), (n13, .inr (2, [.ref n14, .ref n15, .ref n1, .int 0, .int 0])), (n14, .inl (w.2.1 0, 64, .inl (fun _ => 0))), (n15, .inl (w.2.1 0, 2048, .inl (fun _ => 0))), (n16, .inr (7, [.int 0, .int 0, .int 0, .int 0, .ref n1, .ref n5])), (n17, .inr (1, [.ref n5, .ref n18, .ref n19, .ref n20, .int 0, .int 0])), (n18, .inl (w.2.1 1, 5120, .inr (.inl (fun _ => 0)))), (n19, .inl (w.2.1 1, 4, .inr (.inl (fun _ => 0)))), (n20, .inl (w.2.1 1, 4, .inr (.inl (fun _ => 0)))), (n21, .inl (w.2.1 4, 4, .inr (.inr (.inr (.inr (va_up (va_up (va_up (va_up (fun _ => none) (Int32.toNatClampNeg 0) (some n22)) (Int32.toNatClampNeg 1) (some n24)) (Int32.toNatClampNeg 2) (some n26)) (Int32.toNatClampNeg 3) (some n28))))))), (n22, .inr (5, [.int (-1), .int 0, .ref n23])), (n23, .inl (w.2.1 0, 40, .inl (fun _ => 0))), (n24, .inr (5, [.int (-1), .int 0, .ref n25])), (n25, .inl (w.2.1 0, 40, .inl (fun _ => 0))), (n26, .inr (5, [.int (-1), .int 0, .ref n27])), (n27, .inl (w.2.1 0, 40, .inl (fun _ => 0))), (n28, .inr (5, [.int (-1), .int 0, .ref n29])), (n29, .inl (w.2.1 0, 40, .inl (fun _ => 0)))] 30 7892 _ _ _
  refine l_astore_n C d_L_law_7 [(1, .ref n0), (0, .ref b)] (by rw [hnL]; decide) rfl ?_
  refine c_new C t9 [.int 0, .int 0, .int 0, .int 0, .int 0, .null, .null, .int 0, .int 0, .int 0, .int 0, .int 0, .null, .null, .null, .int 0, .int 0, .int 0, .int 0, .int 0, .int 0, .int 0, .null, .null, .int 0, .int 0, .null, .null, .null, .null, .null, .int 0, .null, .null, .null, .null, .int 0] d_L_law_8 (ci := 9) rfl in9 t9_ok ⟨wd959, wd960, wd82⟩ (fun j hj => by rcases (show j = 0 ∨ j = 1 ∨ j = 2 ∨ j = 3 ∨ j = 4 ∨ j = 5 ∨ j = 6 ∨ j = 7 ∨ j = 8 ∨ j = 9 ∨ j = 10 ∨ j = 11 ∨ j = 12 ∨ j = 13 ∨ j = 14 ∨ j = 15 ∨ j = 16 ∨ j = 17 ∨ j = 18 ∨ j = 19 ∨ j = 20 ∨ j = 21 ∨ j = 22 ∨ j = 23 ∨ j = 24 ∨ j = 25 ∨ j = 26 ∨ j = 27 ∨ j = 28 ∨ j = 29 ∨ j = 30 ∨ j = 31 ∨ j = 32 ∨ j = 33 ∨ j = 34 ∨ j = 35 ∨ j = 36 by omega) with rfl | rfl | rfl | rfl | rfl | rfl | rfl | rfl | rfl | rfl | rfl | rfl | rfl | rfl | rfl | rfl | rfl | rfl | rfl | rfl | rfl | rfl | rfl | rfl | rfl | rfl | rfl | rfl | rfl | rfl | rfl | rfl | rfl | rfl | rfl | rfl | rfl <;> rfl) ⟨(Nat.le_of_ble_eq_true rfl), (Nat.le_of_ble_eq_true rfl)⟩ (fun m0 => ?_)
  rw [W_N0 w n0 n1 n2 n3 n4 n5 n6 n7 n8 n9 n10 n11 n12 n13 n14 n15 n16 n17 n18 n19 n20 n21 n22 n23 n24 n25 n26 n27 n28 n29]
  refine c_dup C d_L_law_11 rfl ?_
  refine c_callI C [(m0, .inr (9, [.int 0, .int 0, .int 0, .int 0, .int 0, .null, .null, .int 0, .int 0, .int 0, .int 0, .int 0, .null, .null, .null, .int 0, .int 0, .int 0, .int 0, .int 0, .int 0, .int 0, .null, .null, .int 0, .int 0, .null, .null, .null, .null, .null, .int 0, .null, .null, .null, .null, .int 0]))] (mkW ((fun k => [n0, n1, n2, n3, n4, n5, n6, n7, n8, n9, n10, n11, n12, n13, n14, n15, n16, n17, n18, n19, n20, n21, n22, n23, n24, n25, n26, n27, n28, n29].getD k 0), w.2) S0N 0 shN) [30] (List.range 30) d_L_law_12 wd961 cm_M_init [] rfl rfl (by decide) (Nat.le_of_ble_eq_true rfl) rfl rfl (by decide) (by decide) (by decide) ⟨(Nat.le_of_ble_eq_true rfl), (Nat.le_of_ble_eq_true rfl)⟩ m_M_init (fun u hu => ?_)
  obtain ⟨m1, m2, m3, m4, m5, m6, m7, m8, m9, m10, m11, m12, m13, m14, m15, m16, rfl⟩ := hu
  change CX w x (mkW ((fun k => [n0, n1, n2, n3, n4, n5, n6, n7, n8, n9, n10, n11, n12, n13, n14, n15, n16, n17, n18, n19, n20, n21, n22, n23, n24, n25, n26, n27, n28, n29].getD k 0), w.2) S0N 0 shN ++ [(m0, .inr (9, [.int 4, .int 1, .int 1, .int 0, .int 0, .ref m1, .ref m2, .int 0, .int 0, .int 0, .int 0, .int 0, .ref m3, .ref m4, .ref m5, .int 0, .int 0, .int 0, .int 0, .int 0, .int 0, .int 0, .ref m6, .ref m7, .int 0, .int 0, .ref m8, .ref m9, .ref m10, .ref m11, .ref m12, .int 0, .ref m13, .ref m14, .ref m15, .ref m16, .int 0])), (m1, .inl (w.2.1 0, 40, .inl (fun _ => 0))), (m2, .inl (w.2.1 0, 9, .inl (upd (upd (upd (upd (upd (upd (upd (upd (upd (fun _ => 0) (Int32.toNatClampNeg 0) 0) (Int32.toNatClampNeg 1) 1) (Int32.toNatClampNeg 2) 2) (Int32.toNatClampNeg 3) 3) (Int32.toNatClampNeg 4) 4) (Int32.toNatClampNeg 5) 5) (Int32.toNatClampNeg 6) 6) (Int32.toNatClampNeg 7) 7) (Int32.toNatClampNeg 8) 8))), (m3, .inl (w.2.1 0, 40, .inl (fun _ => 0))), (m4, .inl (w.2.1 3, 6, .inl (fun _ => 0))), (m5, .inl (w.2.1 0, 240, .inl (fun _ => 0))), (m6, .inl (w.2.1 0, 9, .inl (fun _ => 0))), (m7, .inl (w.2.1 0, 9, .inl (fun _ => 0))), (m8, .inl (w.2.1 0, 64, .inl (fun _ => 0))), (m9, .inl (w.2.1 0, 8, .inl (fun _ => 0))), (m10, .inl (w.2.1 0, 82, .inl (fun _ => 0))), (m11, .inl (w.2.1 0, 16, .inl (fun _ => 0))), (m12, .inl (w.2.1 3, 256, .inl (fun _ => 0))), (m13, .inl (w.2.1 0, 65536, .inl (fun _ => 0))), (m14, .inl (w.2.1 0, 4, .inl (upd (upd (upd (upd (fun _ => 0) (Int32.toNatClampNeg 0) (-4)) (Int32.toNatClampNeg 1) (-4)) (Int32.toNatClampNeg 2) (-4)) (Int32.toNatClampNeg 3) (-4)))), (m15, .inl (w.2.1 0, 4, .inl (fun _ => 0))), (m16, .inl (w.2.1 0, 160, .inl (fun _ => 0)))]) 47 74412 _ _ _
  rw [W_M0 w m0 m1 m2 m3 m4 m5 m6 m7 m8 m9 m10 m11 m12 m13 m14 m15 m16]
  refine l_astore_n C d_L_law_15 [(2, .ref m0), (1, .ref n0), (0, .ref b)] (by rw [hnL]; decide) rfl ?_
  refine c_iconst C d_L_law_16 0 ?_
  refine c_istore_n C d_L_law_17 [(3, .int 0), (2, .ref m0), (1, .ref n0), (0, .ref b)] (by rw [hnL]; decide) rfl ?_
  exact c_sub [3, 2, 1, 0] rfl (law_loop OK (wN := ((fun k => [n0, n1, n2, n3, n4, n5, n6, n7, n8, n9, n10, n11, n12, n13, n14, n15, n16, n17, n18, n19, n20, n21, n22, n23, n24, n25, n26, n27, n28, n29].getD k 0), w.2)) (wM := ((fun k => [m0, m1, m2, m3, m4, m5, m6, m7, m8, m9, m10, m11, m12, m13, m14, m15, m16].getD k 0), w.2)) hL hnL C X rfl rfl (hret _ _) (L + 1) 0 S0N S0M (Nat.zero_le _) (by omega) R0)
set_option maxRecDepth 20000 in
set_option maxHeartbeats 4000000 in
theorem whole_start_of {F : Nat} {Rel : St → St → Prop} (OK : RelOK F Rel) (R0 : Rel S0N S0M) {p : Program} {e : Env} {s : State} {m : MethodId} {below : List Frame} {meth : Method} {c : Code} (l : Launch) {b L : Nat} {xs : Nat → Int32} (hL : L ≤ 2560) (C0 : lw_At p s m meth c b L xs) : W p l e room_1 s m #[Value.ref b] below meth c s.heap [] 0 0 (lw_Z below #[Value.ref b] s) (entryFrame m ([Value.ref b] : List Value).toArray 4) := by
  obtain ⟨hx, hb, hr, hml, hown, hts, hX, hbl, hlocks, hgv⟩ := id C0
  have hs := flat_of_before _ hgv
  have htw : ∀ w ∈ tw, w.before #[Value.ref b] s = true := fun w hw => hts w (tw_tbl hw)
  have hA : ∀ q : Nat, s.heap.size ≤ q → (fun q : Nat => s.heap.size ≤ q) q := fun _ h => h
  have hnA : ∀ a : Nat, a < s.heap.size → ¬ (fun q : Nat => s.heap.size ≤ q) a := fun a h => Nat.not_le.mpr h
  obtain ⟨c0, iS0, hKn0⟩ := u_known (C := "NeighbourWires$Change") (T := T0) (N := 7) (n := 7) htw in0 (htw _ wd154)
  obtain ⟨c1, iS1, hKn1⟩ := u_known (C := "NeighbourWires$Machine") (T := T1) (N := 6) (n := 6) htw in1 (htw _ wd293)
  obtain ⟨c2, iS2, hKn2⟩ := u_known (C := "NeighbourWires$Orders") (T := T2) (N := 5) (n := 5) htw in2 (htw _ wd242)
  obtain ⟨c3, iS3, hKn3⟩ := u_known (C := "NeighbourWires$Plan") (T := T3) (N := 8) (n := 8) htw in3 (htw _ wd100)
  obtain ⟨c4, iS4, hKn4⟩ := u_known (C := "NeighbourWires$Reader") (T := T4) (N := 6) (n := 6) htw in4 (htw _ wd182)
  obtain ⟨c5, iS5, hKn5⟩ := u_known (C := "NeighbourWires$Sheet") (T := T5) (N := 3) (n := 3) htw in5 (htw _ wd320)
  obtain ⟨c6, iS6, hKn6⟩ := u_known (C := "NeighbourWires$Tape") (T := T6) (N := 6) (n := 6) htw in6 (htw _ wd188)
  obtain ⟨c7, iS7, hKn7⟩ := u_known (C := "NeighbourWires$Turns") (T := T7) (N := 6) (n := 6) htw in7 (htw _ wd264)
  obtain ⟨c8, iS8, hKn8⟩ := u_known (C := "NeighbourWires") (T := T8) (N := 8) (n := 8) htw in8 (htw _ wd92)
  obtain ⟨c9, iS9, hKn9⟩ := u_known (C := "NeighbourWiresModel") (T := T9) (N := 37) (n := 37) htw in9 (htw _ wd960)
  obtain ⟨dC, dI, hKc⟩ : ∃ (dC : Nat → ClassId) (dI : Nat → Nat → Nat), ∀ (k : Nat) (q : vw_C), cls[k]? = some q → u_Kn s q.1 q.2.1 q.2.2 (dC k) (dI k) := by
    refine ⟨fun k => if k = 0 then c0 else if k = 1 then c1 else if k = 2 then c2 else if k = 3 then c3 else if k = 4 then c4 else if k = 5 then c5 else if k = 6 then c6 else if k = 7 then c7 else if k = 8 then c8 else c9, fun k => if k = 0 then iS0 else if k = 1 then iS1 else if k = 2 then iS2 else if k = 3 then iS3 else if k = 4 then iS4 else if k = 5 then iS5 else if k = 6 then iS6 else if k = 7 then iS7 else if k = 8 then iS8 else iS9, ?_⟩
    intro k q hq
    match k, hq with
    | 0, hq => cases hq; exact hKn0
    | 1, hq => cases hq; exact hKn1
    | 2, hq => cases hq; exact hKn2
    | 3, hq => cases hq; exact hKn3
    | 4, hq => cases hq; exact hKn4
    | 5, hq => cases hq; exact hKn5
    | 6, hq => cases hq; exact hKn6
    | 7, hq => cases hq; exact hKn7
    | 8, hq => cases hq; exact hKn8
    | 9, hq => cases hq; exact hKn9
    | k + 10, hq => simp [cls] at hq
  obtain ⟨cI, kI, oI, aI1, aI2, aI3⟩ := Cond.arrayClass_spec (htw _ wd152)
  obtain ⟨cJ, kJ, oJ, aJ1, aJ2, aJ3⟩ := Cond.arrayClass_spec (htw _ wd317)
  obtain ⟨cB, kB, oB, aB1, aB2, aB3⟩ := Cond.arrayClass_spec (htw _ wd216)
  obtain ⟨cZ, kZ, oZ, aZ1, aZ2, aZ3⟩ := Cond.arrayClass_spec (htw _ wd1078)
  have hAO : va_AO "NeighbourWires$Sheet" s := va_AO.of (hts (.arrayOver (.object "NeighbourWires$Sheet")) (List.mem_of_getElem? (i := 319) (by decide +kernel)))
  obtain ⟨oS, cS, kS, aS1, aS2, aS3, aS4, aS5⟩ := Cond.arrayOver_spec hAO
  obtain ⟨adK, adV, hVS, hVe⟩ := vk_Sof (args := #[Value.ref b]) (s := s) (N := 6) (tm := fun i => Term.string "NeighbourWires$Tape" (ixS i)) (len := lenS) (byt := bytS) (A := fun q => s.heap.size ≤ q) (by decide) (fun i hi => hs _ ((by decide +kernel : ∀ i, i < 6 → Cond.exactly (Term.string "NeighbourWires$Tape" (ixS i)) "java/lang/String" ∈ flatC (Jvm.Cond.and given_1 narrow_1)) i hi)) (fun i hi => hs _ ((by decide +kernel : ∀ i, i < 6 → Cond.eq (.field (Term.string "NeighbourWires$Tape" (ixS i)) "java/lang/String" "coder" "B") (.int 0) ∈ flatC (Jvm.Cond.and given_1 narrow_1)) i hi)) (fun i hi => hs _ ((by decide +kernel : ∀ i, i < 6 → Cond.arrayOf (.field (Term.string "NeighbourWires$Tape" (ixS i)) "java/lang/String" "value" "[B") .byte ∈ flatC (Jvm.Cond.and given_1 narrow_1)) i hi)) (fun i hi => hs _ ((by decide +kernel : ∀ i, i < 6 → Cond.eq (.length (.field (Term.string "NeighbourWires$Tape" (ixS i)) "java/lang/String" "value" "[B")) (.int (Int32.ofNat (lenS.getD i 0))) ∈ flatC (Jvm.Cond.and given_1 narrow_1)) i hi)) (fun i hi j hj => hs _ ((by decide +kernel : ∀ i, i < 6 → ∀ j, j < lenS.getD i 0 → Cond.eq (.elem (.field (Term.string "NeighbourWires$Tape" (ixS i)) "java/lang/String" "value" "[B") (.int (Int32.ofNat j))) (.int ((bytS.getD i []).getD j 0)) ∈ flatC (Jvm.Cond.and given_1 narrow_1)) i hi j hj)) (fun i j hi hj hne => by
    have h1 : Cond.not (Cond.eq (Term.string "NeighbourWires$Tape" (ixS i)) (Term.string "NeighbourWires$Tape" (ixS j))) ∈ flatC (Jvm.Cond.and given_1 narrow_1) ∨ Cond.not (Cond.eq (Term.string "NeighbourWires$Tape" (ixS j)) (Term.string "NeighbourWires$Tape" (ixS i))) ∈ flatC (Jvm.Cond.and given_1 narrow_1) := (by decide +kernel : ∀ i, i < 6 → ∀ j, j < 6 → i ≠ j → Cond.not (Cond.eq (Term.string "NeighbourWires$Tape" (ixS i)) (Term.string "NeighbourWires$Tape" (ixS j))) ∈ flatC (Jvm.Cond.and given_1 narrow_1) ∨ Cond.not (Cond.eq (Term.string "NeighbourWires$Tape" (ixS j)) (Term.string "NeighbourWires$Tape" (ixS i))) ∈ flatC (Jvm.Cond.and given_1 narrow_1)) i hi j hj hne
    exact h1.elim (fun h => Or.inl (hs _ h)) (fun h => Or.inr (hs _ h))) hnA
  have hVR : ∀ i : Nat, i < 6 → vk_R "NeighbourWires$Tape" (ixS i) (txS i) (adK i) s := fun i hi => vk_R.of (A := #[Value.ref b]) (hts (.stringRef "NeighbourWires$Tape" (ixS i) (txS i)) ((by decide +kernel : ∀ i, i < 6 → Cond.stringRef "NeighbourWires$Tape" (ixS i) (txS i) ∈ lw_tbl) i hi)) (hVe i hi)
  have hCS : va_Z "java/lang/String" "COMPACT_STRINGS" "Z" (.int 1) (fun q => s.heap.size ≤ q) s s.heap := va_Zof (args := #[Value.ref b]) (hts (.laysStatic "java/lang/String" "COMPACT_STRINGS" "Z") (by decide +kernel)) (htw _ wd83) (va_eqt (hs (.eq (.static "java/lang/String" "COMPACT_STRINGS" "Z") (.int 1)) (by decide +kernel))) hnA
  have hSI : va_Zq "jdk/internal/util/Preconditions" "SIOOBE_FORMATTER" "Ljava/util/function/BiFunction;" (fun q => s.heap.size ≤ q) s s.heap := va_Zqof (args := #[Value.ref b]) (hts (.laysStatic "jdk/internal/util/Preconditions" "SIOOBE_FORMATTER" "Ljava/util/function/BiFunction;") (by decide +kernel)) (htw _ wd85) (hs (.isRef (.static "jdk/internal/util/Preconditions" "SIOOBE_FORMATTER" "Ljava/util/function/BiFunction;")) (by decide +kernel)) hnA
  have hEX : EX s := ⟨va_Nw.of rfl (hts _ (List.mem_of_getElem? (i := 155) (by decide +kernel))), va_Nw.of rfl (hts _ (List.mem_of_getElem? (i := 183) (by decide +kernel))), va_Nw.of rfl (hts _ (List.mem_of_getElem? (i := 321) (by decide +kernel))), va_Nw.of rfl (hts _ (List.mem_of_getElem? (i := 189) (by decide +kernel))), hAO⟩
  obtain ⟨w, hw⟩ : ∃ w : Ww, w = (fun _ => 0, fun k => match k with
    | 0 => cI
    | 1 => cJ
    | 2 => cB
    | 3 => cZ
    | _ => cS, (dC, dI), adK, adV) := ⟨_, rfl⟩
  have hK : va_K w.2.2.1 cls (tysW w) s := by
    subst hw
    refine ⟨hKc, fun k q hq => ?_⟩
    match k, hq with
    | 0, hq => cases hq; exact ⟨fun n z => ⟨fun k h => (by cases h), kI, aI2, oI, aI3⟩, aI1⟩
    | 1, hq => cases hq; exact ⟨fun n z => ⟨fun k h => (by cases h), kJ, aJ2, oJ, aJ3⟩, aJ1⟩
    | 2, hq => cases hq; exact ⟨fun n z => ⟨fun k h => (by cases h), kB, aB2, oB, aB3⟩, aB1⟩
    | 3, hq => cases hq; exact ⟨fun n z => ⟨fun k h => (by cases h), kZ, aZ2, oZ, aZ3⟩, aZ1⟩
    | 4, hq => cases hq; exact ⟨fun n z => ⟨fun k h => (by cases h), kS, aS3, oS, aS4⟩, kS, oS, aS3, aS4, aS1, aS5⟩
    | k + 5, hq => simp [tysW] at hq
  have hSX : SX w (fun q => s.heap.size ≤ q) s s.heap := by
    subst hw
    exact ⟨hVS, hVR, hCS, hSI⟩
  have C : KC w "NeighbourWiresLaw" b_L_law l 100 600000 7302250 (p, l, e, room_1, s, m, #[Value.ref b], below, meth, c, lw_Z below #[Value.ref b] s, (fun q => s.heap.size ≤ q), 4) := ⟨⟨⟨hx, hb, hml, hown, htw⟩, rfl, hK, hA, fun k hk => absurd hk (Nat.not_lt_zero _), hSX, hlocks, Nat.le_of_ble_eq_true rfl, Nat.le_of_ble_eq_true rfl⟩, hEX, Nat.le_refl _, Nat.le_refl _, fun h => absurd rfl h⟩
  have main := start_walk OK R0 (b := b) (L := L) (xs := xs) hL rfl C ⟨hX, hbl, Nat.not_le.mpr hbl⟩ (fun wN wM S M lo H lc ls hP hD hS hl => by
    refine va_forget (fun q hq => hS.2.2 q hq) ?_
    refine W.widen (k := 600000) (n := 7302250) (Nat.le_of_ble_eq_true rfl) (Nat.le_of_ble_eq_true rfl) ?_
    exact lw_ret hx hb hr hlocks d_L_law_1168.1)
  rw [lg_entry_eq]
  exact main s.heap [] _ (fun k q h => by simp at h) ⟨fun i j p q h => by simp at h, fun k q h => by simp at h⟩ va_S.rf (lv_entry ([.ref b]) (n := 4) (Nat.le_of_ble_eq_true rfl))
