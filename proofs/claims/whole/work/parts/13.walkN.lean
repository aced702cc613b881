set_option maxRecDepth 4000 in
theorem m_N_change {w : Ww} {l0 : Launch} {F : Nat} {S : St} {p1 : Int32} {p2 : Int32} {p3 : Int32} {r : Int32} {S9 : St}  (hf : N_change F S p1 p2 p3 = some (r, S9)) : MI shN w l0 y_N_change b_N_change 4 .int 3 [.ref (w.1 0), .int p1, .int p2, .int p3] S r S9 bzT := by
  refine MI.of (by decide) (Nat.le_of_ble_eq_true rfl) rfl (fun _ _ => rfl) (fun x hnL C hR => ?_)
  rw [N_change] at hf
  refine x_aload_n C d_N_change_0 0 rfl ?_
  refine x_getr C d_N_change_1 f_N_plan wd337 rfl rfl ?_
  refine x_iload_n C d_N_change_4 1 rfl ?_
  refine x_cvr C d_N_change_5 wd587 cm_P_isWord rfl rfl [.int p1] rfl rfl (by decide) (Nat.le_of_ble_eq_true rfl) hf (fun _ h => m_P_isWord isP1 h) (fun v1 hf hb_v1 => ?_)
  refine x_if_eq C d_N_change_8 hf (fun hf => ?_) (fun hf => ?_)
  · refine x_iconst C d_N_change_22 (-1) ?_
    exact hR _ _ _ _ d_N_change_23.1 hf trivial
  refine x_aload_n C d_N_change_11 0 rfl ?_
  refine x_getr C d_N_change_12 f_N_plan wd337 rfl rfl ?_
  refine x_iload_n C d_N_change_15 2 rfl ?_
  refine x_cvr C d_N_change_16 wd587 cm_P_isWord rfl rfl [.int p2] rfl rfl (by decide) (Nat.le_of_ble_eq_true rfl) hf (fun _ h => m_P_isWord isP1 h) (fun v2 hf hb_v2 => ?_)
  refine x_if_ne C d_N_change_19 hf (fun hf => ?_) (fun hf => ?_)
  · refine x_iconst C d_N_change_22 (-1) ?_
    exact hR _ _ _ _ d_N_change_23.1 hf trivial
  refine x_aload_n C d_N_change_24 0 rfl ?_
  refine x_iload_n C d_N_change_25 1 rfl ?_
  refine x_iload_n C d_N_change_26 2 rfl ?_
  refine x_cvv C d_N_change_27 wd588 cm_N_weigh rfl rfl [.int p1, .int p2] rfl rfl (by decide) (Nat.le_of_ble_eq_true rfl) hf (fun _ h => m_N_weigh h) (fun S3 hf => ?_)
  refine x_iload_n C d_N_change_30 3 rfl ?_
  rcases x_ite hf with ⟨q5, hf⟩ | ⟨q5, hf⟩
  · refine x_tin C d_N_change_31 (k := 0) (t := 60) q5 (by decide) (by decide) rfl (by decide) ?_
    refine x_aload_n C d_N_change_60 0 rfl ?_
    refine x_getr C d_N_change_61 f_N_change wd338 rfl rfl ?_
    refine x_aload_n C d_N_change_64 0 rfl ?_
    refine x_getr C d_N_change_65 f_N_plan wd337 rfl rfl ?_
    refine x_get C d_N_change_68 f_P_own wd118 rfl rfl ?_
    refine x_aload_n C d_N_change_71 0 rfl ?_
    refine x_getr C d_N_change_72 f_N_plan wd337 rfl rfl ?_
    refine x_get C d_N_change_75 f_P_side wd123 rfl rfl ?_
    refine x_cvr C d_N_change_78 wd601 cm_C_cost rfl rfl [.int (S3.1 1 1), .int (S3.1 1 2)] rfl rfl (by decide) (Nat.le_of_ble_eq_true rfl) hf (fun _ h => m_C_cost h) (fun v4 hf hb_v4 => ?_)
    exact hR _ _ _ _ d_N_change_81.1 hf trivial
  rcases x_ite hf with ⟨q7, hf⟩ | ⟨q7, hf⟩
  · refine x_tin C d_N_change_31 (k := 1) (t := 82) q7 (by decide) (by decide) rfl (by decide) ?_
    refine x_aload_n C d_N_change_82 0 rfl ?_
    refine x_getr C d_N_change_83 f_N_change wd338 rfl rfl ?_
    refine x_cvr C d_N_change_86 wd615 cm_C_greatestSlow rfl rfl [] rfl rfl (by decide) (Nat.le_of_ble_eq_true rfl) hf (fun _ h => m_C_greatestSlow h) (fun v6 hf hb_v6 => ?_)
    exact hR _ _ _ _ d_N_change_89.1 hf trivial
  rcases x_ite hf with ⟨q9, hf⟩ | ⟨q9, hf⟩
  · refine x_tin C d_N_change_31 (k := 2) (t := 90) q9 (by decide) (by decide) rfl (by decide) ?_
    refine x_aload_n C d_N_change_90 0 rfl ?_
    refine x_getr C d_N_change_91 f_N_change wd338 rfl rfl ?_
    refine x_cvr C d_N_change_94 wd619 cm_C_noise rfl rfl [] rfl rfl (by decide) (Nat.le_of_ble_eq_true rfl) hf (fun _ h => m_C_noise h) (fun v8 hf hb_v8 => ?_)
    exact hR _ _ _ _ d_N_change_97.1 hf trivial
  rcases x_ite hf with ⟨q11, hf⟩ | ⟨q11, hf⟩
  · refine x_tin C d_N_change_31 (k := 3) (t := 98) q11 (by decide) (by decide) rfl (by decide) ?_
    refine x_aload_n C d_N_change_98 0 rfl ?_
    refine x_getr C d_N_change_99 f_N_change wd338 rfl rfl ?_
    refine x_cvr C d_N_change_102 wd623 cm_C_moves rfl rfl [] rfl rfl (by decide) (Nat.le_of_ble_eq_true rfl) hf (fun _ h => m_C_moves h) (fun v10 hf hb_v10 => ?_)
    exact hR _ _ _ _ d_N_change_105.1 hf trivial
  refine x_tout C d_N_change_31 (t := 106) (by have tq5 := lv_neT q5 (a := 0) (by decide); have tq7 := lv_neT q7 (a := 1) (by decide); have tq9 := lv_neT q9 (a := 2) (by decide); have tq11 := lv_neT q11 (a := 3) (by decide); omega) (by decide) ?_
  refine x_iconst C d_N_change_106 (-1) ?_
  exact hR _ _ _ _ d_N_change_107.1 hf trivial
set_option maxRecDepth 4000 in
theorem w_P_placeOf_L2 {w : Ww} {l0 : Launch} {x : Cx} {F : Nat} {p1 : Int32} {P : Nat} {S : St} {rs : Int32}  (hnL : x.2.2.2.2.2.2.2.2.2.2.2.2 = 3) (C : XC shN w "NeighbourWires$Plan" b_P_placeOf l0 1 x) (hR : RI shN w b_P_placeOf bzT (rs, S) x) (hP : isP P)  : ∀ (n : Nat) (v1 : Int32), P_placeOf_L2 F p1 P S n v1 = some rs → WX shN w x S 2 [(0, .ref (w.1 P)), (1, .int p1), (2, .int v1)] [] := by
  intro n
  induction n with
  | zero => intro v1 hf; cases hf
  | succ n ih =>
    intro v1 hf
    rw [P_placeOf_L2] at hf
    refine x_iload_n C d_P_placeOf_2 2 rfl ?_
    refine x_aload_n C d_P_placeOf_3 0 rfl ?_
    refine x_get C d_P_placeOf_4 f_P_wires wd109 hP.1 rfl ?_
    refine x_icmp_ge C d_P_placeOf_7 hf (fun hf => ?_) (fun hf => ?_)
    · refine x_aload_n C d_P_placeOf_10 0 rfl ?_
      refine x_iload_n C d_P_placeOf_11 2 rfl ?_
      refine x_cvr C d_P_placeOf_12 wd596 cm_P_wireAt rfl hP.1 [.int v1] rfl rfl (by decide) (Nat.le_of_ble_eq_true rfl) hf (fun _ h => m_P_wireAt hP h) (fun v2 hf hb_v2 => ?_)
      refine x_iload_n C d_P_placeOf_15 1 rfl ?_
      refine x_icmp_ne C d_P_placeOf_16 hf (fun hf => ?_) (fun hf => ?_)
      · refine x_iload_n C d_P_placeOf_19 2 rfl ?_
        exact x_retR hR d_P_placeOf_20 hf trivial
      refine x_iinc C 1 d_P_placeOf_21 2 rfl (by rw [hnL]; decide) hf (fun v3 => [(2, .int v3), (0, .ref (w.1 P)), (1, .int p1)]) (fun _ => rfl) (fun v3 hf => ?_)
      refine x_goto C d_P_placeOf_24 ?_
      refine x_sub [1, 2, 0] rfl ?_
      exact ih v3 hf
    refine x_iconst C d_P_placeOf_27 0 ?_
    exact x_retR hR d_P_placeOf_28 hf trivial
set_option maxRecDepth 4000 in
theorem m_P_placeOf {w : Ww} {l0 : Launch} {F : Nat} {P : Nat} {S : St} {p1 : Int32} {rs : Int32} (hP : isP P) (hf : P_placeOf F P S p1 = some rs) : MI shN w l0 y_P_placeOf b_P_placeOf 3 .int 1 [.ref (w.1 P), .int p1] S rs S bzT := by
  refine MI.of (by decide) (Nat.le_of_ble_eq_true rfl) rfl (fun _ _ => rfl) (fun x hnL C hR => ?_)
  rw [P_placeOf] at hf
  refine x_iconst C d_P_placeOf_0 0 ?_
  refine x_istore_n C d_P_placeOf_1 [(2, .int 0), (0, .ref (w.1 P)), (1, .int p1)] (by rw [hnL]; decide) rfl ?_
  refine x_sub [1, 2, 0] rfl ?_
  exact w_P_placeOf_L2 hnL C hR hP  F 0 hf
set_option maxRecDepth 4000 in
theorem m_C_againstOver {w : Ww} {l0 : Launch} {F : Nat} {S : St} {p1 : Int32} {rs : Int32}  (hf : C_againstOver F S p1 = some rs) : MI shN w l0 y_C_againstOver b_C_againstOver 2 .int 0 [.ref (w.1 5), .int p1] S rs S bzT := by
  refine MI.of (by decide) (Nat.le_of_ble_eq_true rfl) rfl (fun _ _ => rfl) (fun x hnL C hR => ?_)
  rw [C_againstOver] at hf
  refine x_aload_n C d_C_againstOver_0 0 rfl ?_
  refine x_get C d_C_againstOver_1 f_C_against2 wd165 rfl rfl ?_
  refine x_iload_n C d_C_againstOver_4 1 rfl ?_
  refine x_ishr C d_C_againstOver_5 ?_
  refine x_iconst C d_C_againstOver_6 1 ?_
  refine x_iand C d_C_againstOver_7 ?_
  refine x_if_eq C d_C_againstOver_8 hf (fun hf => ?_) (fun hf => ?_)
  · refine x_aload_n C d_C_againstOver_13 0 rfl ?_
    refine x_get C d_C_againstOver_14 f_C_against1 wd164 rfl rfl ?_
    refine x_aload_n C d_C_againstOver_17 0 rfl ?_
    refine x_get C d_C_againstOver_18 f_C_shielded wd163 rfl rfl ?_
    refine x_ior C d_C_againstOver_21 ?_
    refine x_iload_n C d_C_againstOver_22 1 rfl ?_
    refine x_ishr C d_C_againstOver_23 ?_
    refine x_iconst C d_C_againstOver_24 1 ?_
    refine x_iand C d_C_againstOver_25 ?_
    exact x_retR hR d_C_againstOver_26 hf trivial
  refine x_iconst C d_C_againstOver_11 2 ?_
  exact x_retR hR d_C_againstOver_12 hf trivial
set_option maxRecDepth 4000 in
theorem m_C_slowAt {w : Ww} {l0 : Launch} {F : Nat} {S : St} {p1 : Int32} {rs : Int32}  (hf : C_slowAt F S p1 = some rs) : MI shN w l0 y_C_slowAt b_C_slowAt 2 .int 1 [.ref (w.1 5), .int p1] S rs S bzT := by
  refine MI.of (by decide) (Nat.le_of_ble_eq_true rfl) rfl (fun _ _ => rfl) (fun x hnL C hR => ?_)
  rw [C_slowAt] at hf
  refine x_aload_n C d_C_slowAt_0 0 rfl ?_
  refine x_get C d_C_slowAt_1 f_C_moving wd162 rfl rfl ?_
  refine x_iload_n C d_C_slowAt_4 1 rfl ?_
  refine x_ishr C d_C_slowAt_5 ?_
  refine x_iconst C d_C_slowAt_6 1 ?_
  refine x_iand C d_C_slowAt_7 ?_
  refine x_if_ne C d_C_slowAt_8 hf (fun hf => ?_) (fun hf => ?_)
  · refine x_iconst C d_C_slowAt_11 0 ?_
    exact x_retR hR d_C_slowAt_12 hf trivial
  refine x_aload_n C d_C_slowAt_13 0 rfl ?_
  refine x_iload_n C d_C_slowAt_14 1 rfl ?_
  refine x_cvr C d_C_slowAt_15 wd636 cm_C_againstOver rfl rfl [.int p1] rfl rfl (by decide) (Nat.le_of_ble_eq_true rfl) hf (fun _ h => m_C_againstOver h) (fun v1 hf hb_v1 => ?_)
  refine x_iload_n C d_C_slowAt_18 1 rfl ?_
  refine x_jn (fun J3 => ∀ (v2 : Int32), J3 v2 = some rs → WX shN w x S 33 [] [.int v2, .int v1]) hf (fun v2 hf => ?_) (fun J3 hJ3 hf => ?_)
  · refine x_iadd C d_C_slowAt_33 ?_
    exact x_retR hR d_C_slowAt_34 hf trivial
  refine x_if_le C d_C_slowAt_19 hf (fun hf => ?_) (fun hf => ?_)
  · refine x_aload_n C d_C_slowAt_22 0 rfl ?_
    refine x_iload_n C d_C_slowAt_23 1 rfl ?_
    refine x_iconst C d_C_slowAt_24 1 ?_
    refine x_isub C d_C_slowAt_25 ?_
    refine x_cvr C d_C_slowAt_26 wd636 cm_C_againstOver rfl rfl [.int (p1 - 1)] rfl rfl (by decide) (Nat.le_of_ble_eq_true rfl) hf (fun _ h => m_C_againstOver h) (fun v4 hf hb_v4 => ?_)
    refine x_goto C d_C_slowAt_29 ?_
    refine x_sub [] rfl ?_
    exact hJ3 v4 hf
  refine x_iconst C d_C_slowAt_32 0 ?_
  refine x_sub [] rfl ?_
  exact hJ3 0 hf
set_option maxRecDepth 4000 in
theorem m_N_slow {w : Ww} {l0 : Launch} {F : Nat} {S : St} {p1 : Int32} {p2 : Int32} {p3 : Int32} {r : Int32} {S9 : St}  (hf : N_slow F S p1 p2 p3 = some (r, S9)) : MI shN w l0 y_N_slow b_N_slow 4 .int 3 [.ref (w.1 0), .int p1, .int p2, .int p3] S r S9 bzT := by
  refine MI.of (by decide) (Nat.le_of_ble_eq_true rfl) rfl (fun _ _ => rfl) (fun x hnL C hR => ?_)
  rw [N_slow] at hf
  refine x_aload_n C d_N_slow_0 0 rfl ?_
  refine x_getr C d_N_slow_1 f_N_plan wd337 rfl rfl ?_
  refine x_iload_n C d_N_slow_4 1 rfl ?_
  refine x_cvr C d_N_slow_5 wd587 cm_P_isWord rfl rfl [.int p1] rfl rfl (by decide) (Nat.le_of_ble_eq_true rfl) hf (fun _ h => m_P_isWord isP1 h) (fun v1 hf hb_v1 => ?_)
  refine x_if_eq C d_N_slow_8 hf (fun hf => ?_) (fun hf => ?_)
  · refine x_iconst C d_N_slow_33 (-1) ?_
    exact hR _ _ _ _ d_N_slow_34.1 hf trivial
  refine x_aload_n C d_N_slow_11 0 rfl ?_
  refine x_getr C d_N_slow_12 f_N_plan wd337 rfl rfl ?_
  refine x_iload_n C d_N_slow_15 2 rfl ?_
  refine x_cvr C d_N_slow_16 wd587 cm_P_isWord rfl rfl [.int p2] rfl rfl (by decide) (Nat.le_of_ble_eq_true rfl) hf (fun _ h => m_P_isWord isP1 h) (fun v2 hf hb_v2 => ?_)
  refine x_if_eq C d_N_slow_19 hf (fun hf => ?_) (fun hf => ?_)
  · refine x_iconst C d_N_slow_33 (-1) ?_
    exact hR _ _ _ _ d_N_slow_34.1 hf trivial
  refine x_aload_n C d_N_slow_22 0 rfl ?_
  refine x_getr C d_N_slow_23 f_N_plan wd337 rfl rfl ?_
  refine x_iload_n C d_N_slow_26 3 rfl ?_
  refine x_cvr C d_N_slow_27 wd578 cm_P_isWire rfl rfl [.int p3] rfl rfl (by decide) (Nat.le_of_ble_eq_true rfl) hf (fun _ h => m_P_isWire isP1 h) (fun v3 hf hb_v3 => ?_)
  refine x_if_ne C d_N_slow_30 hf (fun hf => ?_) (fun hf => ?_)
  · refine x_iconst C d_N_slow_33 (-1) ?_
    exact hR _ _ _ _ d_N_slow_34.1 hf trivial
  refine x_aload_n C d_N_slow_35 0 rfl ?_
  refine x_iload_n C d_N_slow_36 1 rfl ?_
  refine x_iload_n C d_N_slow_37 2 rfl ?_
  refine x_cvv C d_N_slow_38 wd588 cm_N_weigh rfl rfl [.int p1, .int p2] rfl rfl (by decide) (Nat.le_of_ble_eq_true rfl) hf (fun _ h => m_N_weigh h) (fun S4 hf => ?_)
  refine x_aload_n C d_N_slow_41 0 rfl ?_
  refine x_getr C d_N_slow_42 f_N_change wd338 rfl rfl ?_
  refine x_aload_n C d_N_slow_45 0 rfl ?_
  refine x_getr C d_N_slow_46 f_N_plan wd337 rfl rfl ?_
  refine x_iload_n C d_N_slow_49 3 rfl ?_
  refine x_cvr C d_N_slow_50 wd628 cm_P_placeOf rfl rfl [.int p3] rfl rfl (by decide) (Nat.le_of_ble_eq_true rfl) hf (fun _ h => m_P_placeOf isP1 h) (fun v5 hf hb_v5 => ?_)
  refine x_cvr C d_N_slow_53 wd632 cm_C_slowAt rfl rfl [.int v5] rfl rfl (by decide) (Nat.le_of_ble_eq_true rfl) hf (fun _ h => m_C_slowAt h) (fun v6 hf hb_v6 => ?_)
  exact hR _ _ _ _ d_N_slow_56.1 hf trivial
set_option maxRecDepth 4000 in
theorem m_N_send {w : Ww} {l0 : Launch} {F : Nat} {S : St} {p1 : Int32} {r : Int32} {S9 : St}  (hf : N_send F S p1 = some (r, S9)) : MI shN w l0 y_N_send b_N_send 2 .int 2 [.ref (w.1 0), .int p1] S r S9 bzT := by
  refine MI.of (by decide) (Nat.le_of_ble_eq_true rfl) rfl (fun _ _ => rfl) (fun x hnL C hR => ?_)
  rw [N_send] at hf
  refine x_aload_n C d_N_send_0 0 rfl ?_
  refine x_getr C d_N_send_1 f_N_plan wd337 rfl rfl ?_
  refine x_iload_n C d_N_send_4 1 rfl ?_
  refine x_cvr C d_N_send_5 wd587 cm_P_isWord rfl rfl [.int p1] rfl rfl (by decide) (Nat.le_of_ble_eq_true rfl) hf (fun _ h => m_P_isWord isP1 h) (fun v1 hf hb_v1 => ?_)
  refine x_if_ne C d_N_send_8 hf (fun hf => ?_) (fun hf => ?_)
  · refine x_iconst C d_N_send_11 (-1) ?_
    exact hR _ _ _ _ d_N_send_12.1 hf trivial
  refine x_aload_n C d_N_send_13 0 rfl ?_
  refine x_getr C d_N_send_14 f_N_plan wd337 rfl rfl ?_
  refine x_iload_n C d_N_send_17 1 rfl ?_
  refine x_cvi C d_N_send_18 wd644 cm_P_append rfl rfl [.int p1] rfl rfl (by decide) (Nat.le_of_ble_eq_true rfl) hf (fun _ _ h => m_P_append isP1 h) (fun v2 S3 hf hb_v2 => ?_)
  refine x_if_eq C d_N_send_21 hf (fun hf => ?_) (fun hf => ?_)
  · refine x_bipush C d_N_send_34 (-3) ?_
    exact hR _ _ _ _ d_N_send_36.1 hf trivial
  refine x_aload_n C d_N_send_24 0 rfl ?_
  refine x_getr C d_N_send_25 f_N_plan wd337 rfl rfl ?_
  refine x_get C d_N_send_28 f_P_length wd130 rfl rfl ?_
  refine x_goto C d_N_send_31 ?_
  exact hR _ _ _ _ d_N_send_36.1 hf trivial
set_option maxRecDepth 4000 in
theorem m_N_empty {w : Ww} {l0 : Launch} {F : Nat} {S : St} {r : Int32} {S9 : St}  (hf : N_empty F S = some (r, S9)) : MI shN w l0 y_N_empty b_N_empty 2 .int 0 [.ref (w.1 0)] S r S9 bzT := by
  refine MI.of (by decide) (Nat.le_of_ble_eq_true rfl) rfl (fun _ _ => rfl) (fun x hnL C hR => ?_)
  rw [N_empty] at hf
  refine x_aload_n C d_N_empty_0 0 rfl ?_
  refine x_getr C d_N_empty_1 f_N_plan wd337 rfl rfl ?_
  refine x_get C d_N_empty_4 f_P_length wd130 rfl rfl ?_
  refine x_bi hf (fun v1 hf => ?_)
  refine x_istore_n C d_N_empty_7 [(1, .int v1), (0, .ref (w.1 0))] (by rw [hnL]; decide) rfl ?_
  refine x_aload_n C d_N_empty_8 1 rfl ?_
  refine x_getr C d_N_empty_9 f_N_plan wd337 rfl rfl ?_
  refine x_iconst C d_N_empty_12 0 ?_
  refine x_put C d_N_empty_13 f_P_length wd130 rfl rfl hf (fun S2 hf => ?_)
  refine x_iload_n C d_N_empty_16 0 rfl ?_
  exact hR _ _ _ _ d_N_empty_17.1 hf trivial
set_option maxRecDepth 4000 in
theorem m_P_wordAt {w : Ww} {l0 : Launch} {F : Nat} {P : Nat} {S : St} {p1 : Int32} {rs : Int32} (hP : isP P) (hf : P_wordAt F P S p1 = some rs) : MI shN w l0 y_P_wordAt b_P_wordAt 2 .int 0 [.ref (w.1 P), .int p1] S rs S bzT := by
  refine MI.of (by decide) (Nat.le_of_ble_eq_true rfl) rfl (fun _ _ => rfl) (fun x hnL C hR => ?_)
  rw [P_wordAt] at hf
  refine x_iload_n C d_P_wordAt_0 1 rfl ?_
  refine x_jn (fun J1 => J1  = some rs → WX shN w x S 22 [] []) hf (fun hf => ?_) (fun J1 hJ1 hf => ?_)
  · refine x_iconst C d_P_wordAt_22 0 ?_
    exact x_retR hR d_P_wordAt_23 hf trivial
  refine x_if_lt C d_P_wordAt_1 hf (fun hf => ?_) (fun hf => ?_)
  · refine x_sub [] rfl ?_
    exact hJ1  hf
  refine x_iload_n C d_P_wordAt_4 1 rfl ?_
  refine x_aload_n C d_P_wordAt_5 0 rfl ?_
  refine x_getr C d_P_wordAt_6 f_P_row wd133 hP.1 rfl ?_
  refine x_alen C (40) d_P_wordAt_9 hP.2.2.1 rfl (by decide) ?_
  refine x_icmp_ge C d_P_wordAt_10 hf (fun hf => ?_) (fun hf => ?_)
  · refine x_aload_n C d_P_wordAt_13 0 rfl ?_
    refine x_getr C d_P_wordAt_14 f_P_row wd133 hP.1 rfl ?_
    refine x_iload_n C d_P_wordAt_17 1 rfl ?_
    refine x_iald C d_P_wordAt_18 hP.2.2.1 hf (fun hf => ?_)
    refine x_goto C d_P_wordAt_19 ?_
    exact x_retR hR d_P_wordAt_23 hf trivial
  refine x_sub [] rfl ?_
  exact hJ1  hf
set_option maxRecDepth 4000 in
theorem m_N_sent {w : Ww} {l0 : Launch} {F : Nat} {S : St} {p1 : Int32} {rs : Int32}  (hf : N_sent F S p1 = some rs) : MI shN w l0 y_N_sent b_N_sent 2 .int 1 [.ref (w.1 0), .int p1] S rs S bzT := by
  refine MI.of (by decide) (Nat.le_of_ble_eq_true rfl) rfl (fun _ _ => rfl) (fun x hnL C hR => ?_)
  rw [N_sent] at hf
  refine x_iload_n C d_N_sent_0 1 rfl ?_
  refine x_jn (fun J1 => J1  = some rs → WX shN w x S 26 [] []) hf (fun hf => ?_) (fun J1 hJ1 hf => ?_)
  · refine x_iconst C d_N_sent_26 (-1) ?_
    exact x_retR hR d_N_sent_27 hf trivial
  refine x_if_lt C d_N_sent_1 hf (fun hf => ?_) (fun hf => ?_)
  · refine x_sub [] rfl ?_
    exact hJ1  hf
  refine x_iload_n C d_N_sent_4 1 rfl ?_
  refine x_aload_n C d_N_sent_5 0 rfl ?_
  refine x_getr C d_N_sent_6 f_N_plan wd337 rfl rfl ?_
  refine x_get C d_N_sent_9 f_P_length wd130 rfl rfl ?_
  refine x_icmp_ge C d_N_sent_12 hf (fun hf => ?_) (fun hf => ?_)
  · refine x_aload_n C d_N_sent_15 0 rfl ?_
    refine x_getr C d_N_sent_16 f_N_plan wd337 rfl rfl ?_
    refine x_iload_n C d_N_sent_19 1 rfl ?_
    refine x_cvr C d_N_sent_20 wd653 cm_P_wordAt rfl rfl [.int p1] rfl rfl (by decide) (Nat.le_of_ble_eq_true rfl) hf (fun _ h => m_P_wordAt isP1 h) (fun v2 hf hb_v2 => ?_)
    refine x_goto C d_N_sent_23 ?_
    exact x_retR hR d_N_sent_27 hf trivial
  refine x_sub [] rfl ?_
  exact hJ1  hf
set_option maxRecDepth 4000 in
theorem w_N_row_L71 {w : Ww} {l0 : Launch} {x : Cx} {F : Nat} {p1 : Int32} {rs : (Int32 × St)} {k5 : St → Int32 → Int32 → Int32 → Int32 → Int32 → Int32 → Option (Int32 × St)} (hnL : x.2.2.2.2.2.2.2.2.2.2.2.2 = 11) (C : XC shN w "NeighbourWires" b_N_row l0 3 x) (hR : RI shN w b_N_row bzT rs x)  (hk5 : ∀ (S6 : St) (v7 : Int32) (v8 : Int32) (v9 : Int32) (v10 : Int32) (v11 : Int32) (v12 : Int32), k5 S6 v7 v8 v9 v10 v11 v12 = some rs → WX shN w x S6 199 [(1, .int p1), (3, .int v7), (4, .int v8), (5, .int v9), (6, .int v10), (7, .int v11), (8, .int v12)] []) : ∀ (n : Nat) (S18 : St) (v19 : Int32) (v20 : Int32) (v21 : Int32) (v22 : Int32) (v23 : Int32) (v24 : Int32) (v25 : Int32), N_row_L71 F p1 k5 n S18 v19 v20 v21 v22 v23 v24 v25 = some rs → WX shN w x S18 71 [(0, .ref (w.1 0)), (1, .int p1), (3, .int v19), (4, .int v20), (5, .int v21), (6, .int v22), (7, .int v23), (8, .int v24), (9, .int v25)] [] := by
  intro n
  induction n with
  | zero => intro S18 v19 v20 v21 v22 v23 v24 v25 hf; cases hf
  | succ n ih =>
    intro S18 v19 v20 v21 v22 v23 v24 v25 hf
    rw [N_row_L71] at hf
    refine x_iload C d_N_row_71 8 rfl ?_
    refine x_aload_n C d_N_row_73 0 rfl ?_
    refine x_getr C d_N_row_74 f_N_plan wd337 rfl rfl ?_
    refine x_get C d_N_row_77 f_P_length wd130 rfl rfl ?_
    refine x_icmp_ge C d_N_row_80 hf (fun hf => ?_) (fun hf => ?_)
    · refine x_aload_n C d_N_row_83 0 rfl ?_
      refine x_aload_n C d_N_row_84 0 rfl ?_
      refine x_getr C d_N_row_85 f_N_plan wd337 rfl rfl ?_
      refine x_iload C d_N_row_88 8 rfl ?_
      refine x_iconst C d_N_row_90 1 ?_
      refine x_isub C d_N_row_91 ?_
      refine x_cvr C d_N_row_92 wd653 cm_P_wordAt rfl rfl [.int (v25 - 1)] rfl rfl (by decide) (Nat.le_of_ble_eq_true rfl) hf (fun _ h => m_P_wordAt isP1 h) (fun v26 hf hb_v26 => ?_)
      refine x_aload_n C d_N_row_95 0 rfl ?_
      refine x_getr C d_N_row_96 f_N_plan wd337 rfl rfl ?_
      refine x_iload C d_N_row_99 8 rfl ?_
      refine x_cvr C d_N_row_101 wd653 cm_P_wordAt rfl rfl [.int v25] rfl rfl (by decide) (Nat.le_of_ble_eq_true rfl) hf (fun _ h => m_P_wordAt isP1 h) (fun v27 hf hb_v27 => ?_)
      refine x_cvv C d_N_row_104 wd588 cm_N_weigh rfl rfl [.int v26, .int v27] rfl rfl (by decide) (Nat.le_of_ble_eq_true rfl) hf (fun _ h => m_N_weigh h) (fun S28 hf => ?_)
      refine x_aload_n C d_N_row_107 0 rfl ?_
      refine x_getr C d_N_row_108 f_N_change wd338 rfl rfl ?_
      refine x_cvr C d_N_row_111 wd615 cm_C_greatestSlow rfl rfl [] rfl rfl (by decide) (Nat.le_of_ble_eq_true rfl) hf (fun _ h => m_C_greatestSlow h) (fun v29 hf hb_v29 => ?_)
      refine x_istore C d_N_row_114 [(10, .int v29), (0, .ref (w.1 0)), (1, .int p1), (3, .int v19), (4, .int v20), (5, .int v21), (6, .int v22), (7, .int v23), (8, .int v24), (9, .int v25)] (by rw [hnL]; decide) rfl ?_
      refine x_iload C d_N_row_116 0 rfl ?_
      refine x_iload C d_N_row_118 4 rfl ?_
      refine x_jn (fun J32 => ∀ (v30 : Int32) (v31 : Int32), J32 v30 v31 = some rs → WX shN w x S28 131 [(0, .ref (w.1 0)), (1, .int p1), (3, .int v19), (4, .int v30), (5, .int v21), (6, .int v22), (7, .int v31), (8, .int v24), (9, .int v25), (10, .int v29)] []) hf (fun v30 v31 hf => ?_) (fun J32 hJ32 hf => ?_)
      · refine x_iload C d_N_row_131 9 rfl ?_
        refine x_iload_n C d_N_row_133 1 rfl ?_
        refine x_bipush C d_N_row_134 10 ?_
        refine x_isub C d_N_row_136 ?_
        refine x_jn (fun J34 => ∀ (v33 : Int32), J34 v33 = some rs → WX shN w x S28 143 [(0, .ref (w.1 0)), (1, .int p1), (3, .int v19), (4, .int v30), (5, .int v21), (6, .int v22), (7, .int v31), (8, .int v33), (9, .int v25)] []) hf (fun v33 hf => ?_) (fun J34 hJ34 hf => ?_)
        · refine x_iload_n C d_N_row_143 2 rfl ?_
          refine x_aload_n C d_N_row_144 0 rfl ?_
          refine x_getr C d_N_row_145 f_N_change wd338 rfl rfl ?_
          refine x_aload_n C d_N_row_148 0 rfl ?_
          refine x_getr C d_N_row_149 f_N_plan wd337 rfl rfl ?_
          refine x_get C d_N_row_152 f_P_own wd118 rfl rfl ?_
          refine x_aload_n C d_N_row_155 0 rfl ?_
          refine x_getr C d_N_row_156 f_N_plan wd337 rfl rfl ?_
          refine x_get C d_N_row_159 f_P_side wd123 rfl rfl ?_
          refine x_cvr C d_N_row_162 wd601 cm_C_cost rfl rfl [.int (S28.1 1 1), .int (S28.1 1 2)] rfl rfl (by decide) (Nat.le_of_ble_eq_true rfl) hf (fun _ h => m_C_cost h) (fun v35 hf hb_v35 => ?_)
          refine x_iadd C d_N_row_165 ?_
          refine x_bi hf (fun v36 hf => ?_)
          refine x_istore_n C d_N_row_166 [(3, .int v36), (0, .ref (w.1 0)), (1, .int p1), (4, .int v30), (5, .int v21), (6, .int v22), (7, .int v31), (8, .int v33), (9, .int v25)] (by rw [hnL]; decide) rfl ?_
          refine x_iload C d_N_row_167 4 rfl ?_
          refine x_aload_n C d_N_row_169 1 rfl ?_
          refine x_getr C d_N_row_170 f_N_change wd338 rfl rfl ?_
          refine x_cvr C d_N_row_173 wd619 cm_C_noise rfl rfl [] rfl rfl (by decide) (Nat.le_of_ble_eq_true rfl) hf (fun _ h => m_C_noise h) (fun v37 hf hb_v37 => ?_)
          refine x_mmax C d_N_row_176 wd661 ⟨wd662, wd89, wd663⟩ (by decide) (Nat.le_of_ble_eq_true rfl) ?_
          refine x_bi hf (fun v38 hf => ?_)
          refine x_istore C d_N_row_179 [(5, .int v38), (3, .int v36), (0, .ref (w.1 0)), (1, .int p1), (4, .int v30), (6, .int v22), (7, .int v31), (8, .int v33), (9, .int v25)] (by rw [hnL]; decide) rfl ?_
          refine x_iload C d_N_row_181 5 rfl ?_
          refine x_aload_n C d_N_row_183 2 rfl ?_
          refine x_getr C d_N_row_184 f_N_change wd338 rfl rfl ?_
          refine x_cvr C d_N_row_187 wd623 cm_C_moves rfl rfl [] rfl rfl (by decide) (Nat.le_of_ble_eq_true rfl) hf (fun _ h => m_C_moves h) (fun v39 hf hb_v39 => ?_)
          refine x_iadd C d_N_row_190 ?_
          refine x_bi hf (fun v40 hf => ?_)
          refine x_istore C d_N_row_191 [(6, .int v40), (5, .int v38), (3, .int v36), (0, .ref (w.1 0)), (1, .int p1), (4, .int v30), (7, .int v31), (8, .int v33), (9, .int v25)] (by rw [hnL]; decide) rfl ?_
          refine x_iinc C 1 d_N_row_193 8 rfl (by rw [hnL]; decide) hf (fun v41 => [(9, .int v41), (6, .int v40), (5, .int v38), (3, .int v36), (0, .ref (w.1 0)), (1, .int p1), (4, .int v30), (7, .int v31), (8, .int v33)]) (fun _ => rfl) (fun v41 hf => ?_)
          refine x_goto C d_N_row_196 ?_
          refine x_sub [4, 5, 3, 6, 2, 1, 7, 8, 0] rfl ?_
          exact ih S28 v36 v30 v38 v40 v31 v33 v41 hf
        refine x_icmp_ne C d_N_row_137 hf (fun hf => ?_) (fun hf => ?_)
        · refine x_iinc C 1 d_N_row_140 7 rfl (by rw [hnL]; decide) hf (fun v42 => [(8, .int v42), (0, .ref (w.1 0)), (1, .int p1), (3, .int v19), (4, .int v30), (5, .int v21), (6, .int v22), (7, .int v31), (9, .int v25), (10, .int v29)]) (fun _ => rfl) (fun v42 hf => ?_)
          refine x_sub [1, 2, 3, 4, 5, 6, 7, 0, 8] rfl ?_
          exact hJ34 v42 hf
        refine x_sub [0, 1, 2, 3, 4, 5, 6, 7, 8] rfl ?_
        exact hJ34 v24 hf
      refine x_icmp_le C d_N_row_120 hf (fun hf => ?_) (fun hf => ?_)
      · refine x_iload C d_N_row_123 0 rfl ?_
        refine x_istore C d_N_row_125 [(4, .int v29), (10, .int v29), (0, .ref (w.1 0)), (1, .int p1), (3, .int v19), (5, .int v21), (6, .int v22), (7, .int v23), (8, .int v24), (9, .int v25)] (by rw [hnL]; decide) rfl ?_
        refine x_iload C d_N_row_127 9 rfl ?_
        refine x_istore C d_N_row_129 [(7, .int v25), (4, .int v29), (10, .int v29), (0, .ref (w.1 0)), (1, .int p1), (3, .int v19), (5, .int v21), (6, .int v22), (8, .int v24), (9, .int v25)] (by rw [hnL]; decide) rfl ?_
        refine x_sub [3, 4, 5, 1, 6, 7, 0, 8, 9, 2] rfl ?_
        exact hJ32 v29 v25 hf
      refine x_sub [1, 2, 3, 4, 5, 6, 7, 8, 9, 0] rfl ?_
      exact hJ32 v20 v23 hf
    refine x_sub [1, 2, 3, 4, 5, 6, 7] rfl ?_
    exact hk5 S18 v19 v20 v21 v22 v23 v24 hf
set_option maxRecDepth 4000 in
theorem m_N_row {w : Ww} {l0 : Launch} {F : Nat} {S : St} {p1 : Int32} {r : Int32} {S9 : St}  (hf : N_row F S p1 = some (r, S9)) : MI shN w l0 y_N_row b_N_row 11 .int 3 [.ref (w.1 0), .int p1] S r S9 bzT := by
  refine MI.of (by decide) (Nat.le_of_ble_eq_true rfl) rfl (fun _ _ => rfl) (fun x hnL C hR => ?_)
  rw [N_row] at hf
  refine x_iload_n C d_N_row_0 1 rfl ?_
  refine x_bipush C d_N_row_1 10 ?_
  refine x_jn (fun J2 => ∀ (v1 : Int32), J2 v1 = some (r, S9) → WX shN w x S 17 [(0, .ref (w.1 0)), (1, .int p1)] [.int v1]) hf (fun v1 hf => ?_) (fun J2 hJ2 hf => ?_)
  · refine x_istore_n C d_N_row_17 [(2, .int v1), (0, .ref (w.1 0)), (1, .int p1)] (by rw [hnL]; decide) rfl ?_
    refine x_iload_n C d_N_row_18 0 rfl ?_
    refine x_jn (fun J3 => J3  = some (r, S9) → WX shN w x S 33 [(0, .ref (w.1 0)), (1, .int p1)] []) hf (fun hf => ?_) (fun J3 hJ3 hf => ?_)
    · refine x_iload_n C d_N_row_33 1 rfl ?_
      refine x_iconst C d_N_row_34 4 ?_
      refine x_jn (fun J4 => J4  = some (r, S9) → WX shN w x S 51 [(0, .ref (w.1 0)), (1, .int p1)] []) hf (fun hf => ?_) (fun J4 hJ4 hf => ?_)
      · refine x_iconst C d_N_row_51 0 ?_
        refine x_istore_n C d_N_row_52 [(3, .int 0), (0, .ref (w.1 0)), (1, .int p1)] (by rw [hnL]; decide) rfl ?_
        refine x_iconst C d_N_row_53 0 ?_
        refine x_istore C d_N_row_54 [(4, .int 0), (3, .int 0), (0, .ref (w.1 0)), (1, .int p1)] (by rw [hnL]; decide) rfl ?_
        refine x_iconst C d_N_row_56 0 ?_
        refine x_istore C d_N_row_57 [(5, .int 0), (4, .int 0), (3, .int 0), (0, .ref (w.1 0)), (1, .int p1)] (by rw [hnL]; decide) rfl ?_
        refine x_iconst C d_N_row_59 0 ?_
        refine x_istore C d_N_row_60 [(6, .int 0), (5, .int 0), (4, .int 0), (3, .int 0), (0, .ref (w.1 0)), (1, .int p1)] (by rw [hnL]; decide) rfl ?_
        refine x_iconst C d_N_row_62 0 ?_
        refine x_istore C d_N_row_63 [(7, .int 0), (6, .int 0), (5, .int 0), (4, .int 0), (3, .int 0), (0, .ref (w.1 0)), (1, .int p1)] (by rw [hnL]; decide) rfl ?_
        refine x_iconst C d_N_row_65 0 ?_
        refine x_istore C d_N_row_66 [(8, .int 0), (7, .int 0), (6, .int 0), (5, .int 0), (4, .int 0), (3, .int 0), (0, .ref (w.1 0)), (1, .int p1)] (by rw [hnL]; decide) rfl ?_
        refine x_iconst C d_N_row_68 0 ?_
        refine x_istore C d_N_row_69 [(9, .int 0), (8, .int 0), (7, .int 0), (6, .int 0), (5, .int 0), (4, .int 0), (3, .int 0), (0, .ref (w.1 0)), (1, .int p1)] (by rw [hnL]; decide) rfl ?_
        refine x_sub [7, 8, 6, 5, 4, 3, 2, 1, 0] rfl ?_
        refine w_N_row_L71 hnL C hR (fun S6 v7 v8 v9 v10 v11 v12 hf => ?_) F S 0 0 0 0 0 0 0 hf
        refine x_iload_n C d_N_row_199 0 rfl ?_
        rcases x_ite hf with ⟨q13, hf⟩ | ⟨q13, hf⟩
        · refine x_tin C d_N_row_200 (k := 0) (t := 236) q13 (by decide) (by decide) rfl (by decide) ?_
          refine x_iload_n C d_N_row_236 1 rfl ?_
          exact hR _ _ _ _ d_N_row_237.1 hf trivial
        rcases x_ite hf with ⟨q14, hf⟩ | ⟨q14, hf⟩
        · refine x_tin C d_N_row_200 (k := 1) (t := 238) q14 (by decide) (by decide) rfl (by decide) ?_
          refine x_iload C d_N_row_238 2 rfl ?_
          exact hR _ _ _ _ d_N_row_240.1 hf trivial
        rcases x_ite hf with ⟨q15, hf⟩ | ⟨q15, hf⟩
        · refine x_tin C d_N_row_200 (k := 2) (t := 241) q15 (by decide) (by decide) rfl (by decide) ?_
          refine x_iload C d_N_row_241 3 rfl ?_
          exact hR _ _ _ _ d_N_row_243.1 hf trivial
        rcases x_ite hf with ⟨q16, hf⟩ | ⟨q16, hf⟩
        · refine x_tin C d_N_row_200 (k := 3) (t := 244) q16 (by decide) (by decide) rfl (by decide) ?_
          refine x_iload C d_N_row_244 4 rfl ?_
          exact hR _ _ _ _ d_N_row_246.1 hf trivial
        rcases x_ite hf with ⟨q17, hf⟩ | ⟨q17, hf⟩
        · refine x_tin C d_N_row_200 (k := 4) (t := 247) q17 (by decide) (by decide) rfl (by decide) ?_
          refine x_iload C d_N_row_247 5 rfl ?_
          exact hR _ _ _ _ d_N_row_249.1 hf trivial
        refine x_tout C d_N_row_200 (t := 250) (by have tq13 := lv_neT q13 (a := 0) (by decide); have tq14 := lv_neT q14 (a := 1) (by decide); have tq15 := lv_neT q15 (a := 2) (by decide); have tq16 := lv_neT q16 (a := 3) (by decide); have tq17 := lv_neT q17 (a := 4) (by decide); omega) (by decide) ?_
        refine x_iload C d_N_row_250 6 rfl ?_
        exact hR _ _ _ _ d_N_row_252.1 hf trivial
      refine x_icmp_ne C d_N_row_35 hf (fun hf => ?_) (fun hf => ?_)
      · refine x_aload_n C d_N_row_38 0 rfl ?_
        refine x_getr C d_N_row_39 f_N_plan wd337 rfl rfl ?_
        refine x_get C d_N_row_42 f_P_length wd130 rfl rfl ?_
        refine x_if_ne C d_N_row_45 hf (fun hf => ?_) (fun hf => ?_)
        · refine x_bipush C d_N_row_48 (-4) ?_
          exact hR _ _ _ _ d_N_row_50.1 hf trivial
        exact hJ4  hf
      exact hJ4  hf
    refine x_if_ne C d_N_row_19 hf (fun hf => ?_) (fun hf => ?_)
    · refine x_iload_n C d_N_row_22 2 rfl ?_
      refine x_if_lt C d_N_row_23 hf (fun hf => ?_) (fun hf => ?_)
      · refine x_iconst C d_N_row_31 (-1) ?_
        exact hR _ _ _ _ d_N_row_32.1 hf trivial
      refine x_iload_n C d_N_row_26 2 rfl ?_
      refine x_iconst C d_N_row_27 4 ?_
      refine x_icmp_le C d_N_row_28 hf (fun hf => ?_) (fun hf => ?_)
      · refine x_iconst C d_N_row_31 (-1) ?_
        exact hR _ _ _ _ d_N_row_32.1 hf trivial
      refine x_sub [1, 2] rfl ?_
      exact hJ3  hf
    refine x_sub [1, 2] rfl ?_
    exact hJ3  hf
  refine x_jn (fun J43 => J43  = some (r, S9) → WX shN w x S 16 [(0, .ref (w.1 0)), (1, .int p1)] []) hf (fun hf => ?_) (fun J43 hJ43 hf => ?_)
  · refine x_iconst C d_N_row_16 0 ?_
    exact hJ2 0 hf
  refine x_icmp_lt C d_N_row_3 hf (fun hf => ?_) (fun hf => ?_)
  · exact hJ43  hf
  refine x_iload_n C d_N_row_6 1 rfl ?_
  refine x_bipush C d_N_row_7 14 ?_
  refine x_icmp_gt C d_N_row_9 hf (fun hf => ?_) (fun hf => ?_)
  · exact hJ43  hf
  refine x_iconst C d_N_row_12 1 ?_
  refine x_goto C d_N_row_13 ?_
  exact hJ2 1 hf
set_option maxRecDepth 4000 in
theorem m_O_moveOf {w : Ww} {l0 : Launch} {F : Nat} {S : St} {p1 : Int32} {p2 : Int32} {p3 : Int32} {rs : Int32}  (hf : O_moveOf F S p1 p2 p3 = some rs) : MI shN w l0 y_O_moveOf b_O_moveOf 3 .int 0 [.int p1, .int p2, .int p3] S rs S bzT := by
  refine MI.of (by decide) (Nat.le_of_ble_eq_true rfl) rfl (fun _ _ => rfl) (fun x hnL C hR => ?_)
  rw [O_moveOf] at hf
  refine x_iload_n C d_O_moveOf_0 1 rfl ?_
  refine x_iload_n C d_O_moveOf_1 0 rfl ?_
  refine x_ishr C d_O_moveOf_2 ?_
  refine x_iconst C d_O_moveOf_3 1 ?_
  refine x_iand C d_O_moveOf_4 ?_
  refine x_iload_n C d_O_moveOf_5 2 rfl ?_
  refine x_iload_n C d_O_moveOf_6 0 rfl ?_
  refine x_ishr C d_O_moveOf_7 ?_
  refine x_iconst C d_O_moveOf_8 1 ?_
  refine x_iand C d_O_moveOf_9 ?_
  refine x_isub C d_O_moveOf_10 ?_
  exact x_retR hR d_O_moveOf_11 hf trivial
set_option maxRecDepth 4000 in
theorem m_O_indexOf {w : Ww} {l0 : Launch} {F : Nat} {S : St} {p1 : Int32} {p2 : Int32} {rs : Int32}  (hf : O_indexOf F S p1 p2 = some rs) : MI shN w l0 y_O_indexOf b_O_indexOf 2 .int 0 [.int p1, .int p2] S rs S bzT := by
  refine MI.of (by decide) (Nat.le_of_ble_eq_true rfl) rfl (fun _ _ => rfl) (fun x hnL C hR => ?_)
  rw [O_indexOf] at hf
  refine x_iload_n C d_O_indexOf_0 0 rfl ?_
  refine x_bipush C d_O_indexOf_1 8 ?_
  refine x_imul C d_O_indexOf_3 ?_
  refine x_iload_n C d_O_indexOf_4 1 rfl ?_
  refine x_iadd C d_O_indexOf_5 ?_
  exact x_retR hR d_O_indexOf_6 hf trivial
set_option maxRecDepth 4000 in
theorem m_O_get {w : Ww} {l0 : Launch} {F : Nat} {A : Nat} {S : St} {p2 : Int32} {rs : Int32} (hA : isA A (lenN A)) (hf : O_get F A S p2 = some rs) : MI shN w l0 y_O_get b_O_get 2 .int 0 [.ref (w.1 A), .int p2] S rs S bzT := by
  refine MI.of (by decide) (Nat.le_of_ble_eq_true rfl) rfl (fun _ _ => rfl) (fun x hnL C hR => ?_)
  rw [O_get] at hf
  refine x_iload_n C d_O_get_0 1 rfl ?_
  refine x_jn (fun J1 => J1  = some rs → WX shN w x S 16 [] []) hf (fun hf => ?_) (fun J1 hJ1 hf => ?_)
  · refine x_iconst C d_O_get_16 0 ?_
    exact x_retR hR d_O_get_17 hf trivial
  refine x_if_lt C d_O_get_1 hf (fun hf => ?_) (fun hf => ?_)
  · refine x_sub [] rfl ?_
    exact hJ1  hf
  refine x_iload_n C d_O_get_4 1 rfl ?_
  refine x_aload_n C d_O_get_5 0 rfl ?_
  refine x_alen C (Int32.ofNat (lenN A)) d_O_get_6 hA rfl rfl ?_
  refine x_icmp_ge C d_O_get_7 hf (fun hf => ?_) (fun hf => ?_)
  · refine x_aload_n C d_O_get_10 0 rfl ?_
    refine x_iload_n C d_O_get_11 1 rfl ?_
    refine x_iald C d_O_get_12 hA hf (fun hf => ?_)
    refine x_goto C d_O_get_13 ?_
    exact x_retR hR d_O_get_17 hf trivial
  refine x_sub [] rfl ?_
  exact hJ1  hf
set_option maxRecDepth 4000 in
theorem m_O_put {w : Ww} {l0 : Launch} {F : Nat} {A : Nat} {S : St} {p2 : Int32} {p3 : Int32} {rs : St} (hA : isA A (lenN A)) (hf : O_put F A S p2 p3 = some rs) : MV shN w l0 y_O_put b_O_put 3 0 [.ref (w.1 A), .int p2, .int p3] S rs := by
  refine MV.of (by decide) (Nat.le_of_ble_eq_true rfl) rfl (fun x hnL C hR => ?_)
  rw [O_put] at hf
  refine x_iload_n C d_O_put_0 1 rfl ?_
  refine x_if_lt C d_O_put_1 hf (fun hf => ?_) (fun hf => ?_)
  · exact hR _ _ _ d_O_put_14.1 hf
  refine x_iload_n C d_O_put_4 1 rfl ?_
  refine x_aload_n C d_O_put_5 0 rfl ?_
  refine x_alen C (Int32.ofNat (lenN A)) d_O_put_6 hA rfl rfl ?_
  refine x_icmp_ge C d_O_put_7 hf (fun hf => ?_) (fun hf => ?_)
  · refine x_aload_n C d_O_put_10 0 rfl ?_
    refine x_iload_n C d_O_put_11 1 rfl ?_
    refine x_iload_n C d_O_put_12 2 rfl ?_
    refine x_iast C d_O_put_13 hA hf (fun S1 hf => ?_)
    exact hR _ _ _ d_O_put_14.1 hf
  exact hR _ _ _ d_O_put_14.1 hf
set_option maxRecDepth 4000 in
theorem w_O_addPairs_L15 {w : Ww} {l0 : Launch} {x : Cx} {F : Nat} {p1 : Int32} {p2 : Int32} {p3 : Int32} {v2 : Int32} {rs : St} {k3 : St → Option St} (hnL : x.2.2.2.2.2.2.2.2.2.2.2.2 = 8) (C : XC shN w "NeighbourWires$Orders" b_O_addPairs l0 1 x) (hR : RV shN w b_O_addPairs rs x)  (hk3 : ∀ (S4 : St), k3 S4 = some rs → WX shN w x S4 82 [(0, .ref (w.1 13)), (1, .int p1), (2, .int p2), (3, .int p3), (4, .int v2)] []) : ∀ (n : Nat) (S6 : St) (v7 : Int32), O_addPairs_L15 F p1 p2 p3 v2 k3 n S6 v7 = some rs → WX shN w x S6 15 [(0, .ref (w.1 13)), (1, .int p1), (2, .int p2), (3, .int p3), (4, .int v2), (5, .int v7)] [] := by
  intro n
  induction n with
  | zero => intro S6 v7 hf; cases hf
  | succ n ih =>
    intro S6 v7 hf
    rw [O_addPairs_L15] at hf
    refine x_iload C d_O_addPairs_15 5 rfl ?_
    refine x_aload_n C d_O_addPairs_17 0 rfl ?_
    refine x_get C d_O_addPairs_18 f_O_wires wd250 rfl rfl ?_
    refine x_icmp_ge C d_O_addPairs_21 hf (fun hf => ?_) (fun hf => ?_)
    · refine x_iload C d_O_addPairs_24 4 rfl ?_
      refine x_iload_n C d_O_addPairs_26 1 rfl ?_
      refine x_iload_n C d_O_addPairs_27 2 rfl ?_
      refine x_csr C d_O_addPairs_28 wd678 cm_O_moveOf [.int v2, .int p1, .int p2] rfl rfl (by decide) (Nat.le_of_ble_eq_true rfl) hf (fun _ h => m_O_moveOf h) (fun v8 hf hb_v8 => ?_)
      refine x_iload C d_O_addPairs_31 5 rfl ?_
      refine x_iload_n C d_O_addPairs_33 1 rfl ?_
      refine x_iload_n C d_O_addPairs_34 2 rfl ?_
      refine x_csr C d_O_addPairs_35 wd678 cm_O_moveOf [.int v7, .int p1, .int p2] rfl rfl (by decide) (Nat.le_of_ble_eq_true rfl) hf (fun _ h => m_O_moveOf h) (fun v9 hf hb_v9 => ?_)
      refine x_isub C d_O_addPairs_38 ?_
      refine x_bi hf (fun v10 hf => ?_)
      refine x_istore C d_O_addPairs_39 [(6, .int v10), (0, .ref (w.1 13)), (1, .int p1), (2, .int p2), (3, .int p3), (4, .int v2), (5, .int v7)] (by rw [hnL]; decide) rfl ?_
      refine x_iload C d_O_addPairs_41 5 rfl ?_
      refine x_iload C d_O_addPairs_43 6 rfl ?_
      refine x_csr C d_O_addPairs_45 wd681 cm_O_indexOf [.int v2, .int v7] rfl rfl (by decide) (Nat.le_of_ble_eq_true rfl) hf (fun _ h => m_O_indexOf h) (fun v11 hf hb_v11 => ?_)
      refine x_istore C d_O_addPairs_48 [(7, .int v11), (6, .int v10), (0, .ref (w.1 13)), (1, .int p1), (2, .int p2), (3, .int p3), (4, .int v2), (5, .int v7)] (by rw [hnL]; decide) rfl ?_
      refine x_aload_n C d_O_addPairs_50 2 rfl ?_
      refine x_getr C d_O_addPairs_51 f_O_asNeighbours wd247 rfl rfl ?_
      refine x_iload C d_O_addPairs_54 0 rfl ?_
      refine x_aload_n C d_O_addPairs_56 2 rfl ?_
      refine x_getr C d_O_addPairs_57 f_O_asNeighbours wd247 rfl rfl ?_
      refine x_iload C d_O_addPairs_60 0 rfl ?_
      refine x_csr C d_O_addPairs_62 wd684 cm_O_get [.ref (w.1 14), .int v11] rfl rfl (by decide) (Nat.le_of_ble_eq_true rfl) hf (fun _ h => m_O_get rfl h) (fun v12 hf hb_v12 => ?_)
      refine x_iload_n C d_O_addPairs_65 5 rfl ?_
      refine x_iload C d_O_addPairs_66 1 rfl ?_
      refine x_imul C d_O_addPairs_68 ?_
      refine x_iload C d_O_addPairs_69 1 rfl ?_
      refine x_imul C d_O_addPairs_71 ?_
      refine x_iadd C d_O_addPairs_72 ?_
      refine x_csv C d_O_addPairs_73 wd687 cm_O_put [.ref (w.1 14), .int v11, .int (v12 + ((p3 * v10) * v10))] rfl rfl (by decide) (Nat.le_of_ble_eq_true rfl) hf (fun _ h => m_O_put rfl h) (fun S13 hf => ?_)
      refine x_iinc C 1 d_O_addPairs_76 7 rfl (by rw [hnL]; decide) hf (fun v14 => [(5, .int v14), (7, .int v11), (6, .int v10), (0, .ref (w.1 13)), (1, .int p1), (2, .int p2), (3, .int p3), (4, .int v2)]) (fun _ => rfl) (fun v14 hf => ?_)
      refine x_goto C d_O_addPairs_79 ?_
      refine x_sub [3, 4, 5, 6, 7, 0] rfl ?_
      exact ih S13 v14 hf
    refine x_sub [0, 1, 2, 3, 4] rfl ?_
    exact hk3 S6 hf
set_option maxRecDepth 4000 in
theorem w_O_addPairs_L3 {w : Ww} {l0 : Launch} {x : Cx} {F : Nat} {p1 : Int32} {p2 : Int32} {p3 : Int32} {rs : St}  (hnL : x.2.2.2.2.2.2.2.2.2.2.2.2 = 8) (C : XC shN w "NeighbourWires$Orders" b_O_addPairs l0 1 x) (hR : RV shN w b_O_addPairs rs x)   : ∀ (n : Nat) (S1 : St) (v2 : Int32), O_addPairs_L3 F p1 p2 p3 n S1 v2 = some rs → WX shN w x S1 3 [(0, .ref (w.1 13)), (1, .int p1), (2, .int p2), (3, .int p3), (4, .int v2)] [] := by
  intro n
  induction n with
  | zero => intro S1 v2 hf; cases hf
  | succ n ih =>
    intro S1 v2 hf
    rw [O_addPairs_L3] at hf
    refine x_iload C d_O_addPairs_3 4 rfl ?_
    refine x_aload_n C d_O_addPairs_5 0 rfl ?_
    refine x_get C d_O_addPairs_6 f_O_wires wd250 rfl rfl ?_
    refine x_icmp_ge C d_O_addPairs_9 hf (fun hf => ?_) (fun hf => ?_)
    · refine x_iconst C d_O_addPairs_12 0 ?_
      refine x_istore C d_O_addPairs_13 [(5, .int 0), (0, .ref (w.1 13)), (1, .int p1), (2, .int p2), (3, .int p3), (4, .int v2)] (by rw [hnL]; decide) rfl ?_
      refine x_sub [1, 2, 3, 4, 5, 0] rfl ?_
      refine w_O_addPairs_L15 hnL C hR (fun S4 hf => ?_) F S1 0 hf
      refine x_iinc C 1 d_O_addPairs_82 4 rfl (by rw [hnL]; decide) hf (fun v5 => [(4, .int v5), (0, .ref (w.1 13)), (1, .int p1), (2, .int p2), (3, .int p3)]) (fun _ => rfl) (fun v5 hf => ?_)
      refine x_goto C d_O_addPairs_85 ?_
      refine x_sub [1, 2, 3, 4, 0] rfl ?_
      exact ih S4 v5 hf
    exact hR _ _ _ d_O_addPairs_88.1 hf
set_option maxRecDepth 4000 in
theorem m_O_addPairs {w : Ww} {l0 : Launch} {F : Nat} {S : St} {p1 : Int32} {p2 : Int32} {p3 : Int32} {rs : St}  (hf : O_addPairs F S p1 p2 p3 = some rs) : MV shN w l0 y_O_addPairs b_O_addPairs 8 1 [.ref (w.1 13), .int p1, .int p2, .int p3] S rs := by
  refine MV.of (by decide) (Nat.le_of_ble_eq_true rfl) rfl (fun x hnL C hR => ?_)
  rw [O_addPairs] at hf
  refine x_iconst C d_O_addPairs_0 0 ?_
  refine x_istore C d_O_addPairs_1 [(4, .int 0), (0, .ref (w.1 13)), (1, .int p1), (2, .int p2), (3, .int p3)] (by rw [hnL]; decide) rfl ?_
  refine x_sub [1, 2, 3, 4, 0] rfl ?_
  exact w_O_addPairs_L3 hnL C hR  F S 0 hf
set_option maxRecDepth 4000 in
theorem m_O_costVia {w : Ww} {l0 : Launch} {F : Nat} {S : St} {p1 : Int32} {p2 : Int32} {p3 : Int32} {rs : Int32}  (hf : O_costVia F S p1 p2 p3 = some rs) : MI shN w l0 y_O_costVia b_O_costVia 4 .int 1 [.ref (w.1 13), .int p1, .int p2, .int p3] S rs S bzT := by
  refine MI.of (by decide) (Nat.le_of_ble_eq_true rfl) rfl (fun _ _ => rfl) (fun x hnL C hR => ?_)
  rw [O_costVia] at hf
  refine x_aload_n C d_O_costVia_0 0 rfl ?_
  refine x_getr C d_O_costVia_1 f_O_asNeighbours wd247 rfl rfl ?_
  refine x_iload_n C d_O_costVia_4 1 rfl ?_
  refine x_iload_n C d_O_costVia_5 2 rfl ?_
  refine x_csr C d_O_costVia_6 wd681 cm_O_indexOf [.int p1, .int p2] rfl rfl (by decide) (Nat.le_of_ble_eq_true rfl) hf (fun _ h => m_O_indexOf h) (fun v1 hf hb_v1 => ?_)
  refine x_csr C d_O_costVia_9 wd684 cm_O_get [.ref (w.1 14), .int v1] rfl rfl (by decide) (Nat.le_of_ble_eq_true rfl) hf (fun _ h => m_O_get rfl h) (fun v2 hf hb_v2 => ?_)
  refine x_aload_n C d_O_costVia_12 0 rfl ?_
  refine x_getr C d_O_costVia_13 f_O_least wd248 rfl rfl ?_
  refine x_iload_n C d_O_costVia_16 3 rfl ?_
  refine x_iload_n C d_O_costVia_17 2 rfl ?_
  refine x_csr C d_O_costVia_18 wd681 cm_O_indexOf [.int p3, .int p2] rfl rfl (by decide) (Nat.le_of_ble_eq_true rfl) hf (fun _ h => m_O_indexOf h) (fun v3 hf hb_v3 => ?_)
  refine x_csr C d_O_costVia_21 wd684 cm_O_get [.ref (w.1 15), .int v3] rfl rfl (by decide) (Nat.le_of_ble_eq_true rfl) hf (fun _ h => m_O_get rfl h) (fun v4 hf hb_v4 => ?_)
  refine x_iadd C d_O_costVia_24 ?_
  exact x_retR hR d_O_costVia_25 hf trivial
set_option maxRecDepth 4000 in
theorem w_O_costBehind_L6 {w : Ww} {l0 : Launch} {x : Cx} {F : Nat} {p1 : Int32} {p2 : Int32} {S : St} {rs : Int32} {k1 : Int32 → Option Int32} (hnL : x.2.2.2.2.2.2.2.2.2.2.2.2 = 5) (C : XC shN w "NeighbourWires$Orders" b_O_costBehind l0 2 x) (hR : RI shN w b_O_costBehind bzT (rs, S) x)  (hk1 : ∀ (v2 : Int32), k1 v2 = some rs → WX shN w x S 43 [(2, .int p2), (3, .int v2)] []) : ∀ (n : Nat) (v3 : Int32) (v4 : Int32), O_costBehind_L6 F p1 p2 S k1 n v3 v4 = some rs → WX shN w x S 6 [(0, .ref (w.1 13)), (1, .int p1), (2, .int p2), (3, .int v3), (4, .int v4)] [] := by
  intro n
  induction n with
  | zero => intro v3 v4 hf; cases hf
  | succ n ih =>
    intro v3 v4 hf
    rw [O_costBehind_L6] at hf
    refine x_iload C d_O_costBehind_6 4 rfl ?_
    refine x_aload_n C d_O_costBehind_8 0 rfl ?_
    refine x_get C d_O_costBehind_9 f_O_wires wd250 rfl rfl ?_
    refine x_icmp_ge C d_O_costBehind_12 hf (fun hf => ?_) (fun hf => ?_)
    · refine x_iload_n C d_O_costBehind_15 2 rfl ?_
      refine x_iload C d_O_costBehind_16 4 rfl ?_
      refine x_ishr C d_O_costBehind_18 ?_
      refine x_iconst C d_O_costBehind_19 1 ?_
      refine x_iand C d_O_costBehind_20 ?_
      refine x_jn (fun J6 => ∀ (v5 : Int32), J6 v5 = some rs → WX shN w x S 37 [(0, .ref (w.1 13)), (1, .int p1), (2, .int p2), (3, .int v5), (4, .int v4)] []) hf (fun v5 hf => ?_) (fun J6 hJ6 hf => ?_)
      · refine x_iinc C 1 d_O_costBehind_37 4 rfl (by rw [hnL]; decide) hf (fun v7 => [(4, .int v7), (0, .ref (w.1 13)), (1, .int p1), (2, .int p2), (3, .int v5)]) (fun _ => rfl) (fun v7 hf => ?_)
        refine x_goto C d_O_costBehind_40 ?_
        refine x_sub [1, 2, 3, 4, 0] rfl ?_
        exact ih v5 v7 hf
      refine x_if_eq C d_O_costBehind_21 hf (fun hf => ?_) (fun hf => ?_)
      · exact hJ6 v3 hf
      refine x_iload_n C d_O_costBehind_24 3 rfl ?_
      refine x_aload_n C d_O_costBehind_25 0 rfl ?_
      refine x_iload_n C d_O_costBehind_26 1 rfl ?_
      refine x_iload C d_O_costBehind_27 4 rfl ?_
      refine x_iload_n C d_O_costBehind_29 2 rfl ?_
      refine x_cvr C d_O_costBehind_30 wd695 cm_O_costVia rfl rfl [.int p1, .int v4, .int p2] rfl rfl (by decide) (Nat.le_of_ble_eq_true rfl) hf (fun _ h => m_O_costVia h) (fun v8 hf hb_v8 => ?_)
      refine x_mmin C d_O_costBehind_33 wd699 ⟨wd700, wd89, wd701⟩ (by decide) (Nat.le_of_ble_eq_true rfl) ?_
      refine x_bi hf (fun v9 hf => ?_)
      refine x_istore_n C d_O_costBehind_36 [(3, .int v9), (0, .ref (w.1 13)), (1, .int p1), (2, .int p2), (4, .int v4)] (by rw [hnL]; decide) rfl ?_
      refine x_sub [1, 2, 3, 0, 4] rfl ?_
      exact hJ6 v9 hf
    refine x_sub [2, 3] rfl ?_
    exact hk1 v3 hf
set_option maxRecDepth 4000 in
theorem m_O_costBehind {w : Ww} {l0 : Launch} {F : Nat} {S : St} {p1 : Int32} {p2 : Int32} {rs : Int32}  (hf : O_costBehind F S p1 p2 = some rs) : MI shN w l0 y_O_costBehind b_O_costBehind 5 .int 2 [.ref (w.1 13), .int p1, .int p2] S rs S bzT := by
  refine MI.of (by decide) (Nat.le_of_ble_eq_true rfl) rfl (fun _ _ => rfl) (fun x hnL C hR => ?_)
  rw [O_costBehind] at hf
  refine x_ldc C d_O_costBehind_0 wd694 ?_
  refine x_istore_n C d_O_costBehind_2 [(3, .int 1048576), (0, .ref (w.1 13)), (1, .int p1), (2, .int p2)] (by rw [hnL]; decide) rfl ?_
  refine x_iconst C d_O_costBehind_3 0 ?_
  refine x_istore C d_O_costBehind_4 [(4, .int 0), (3, .int 1048576), (0, .ref (w.1 13)), (1, .int p1), (2, .int p2)] (by rw [hnL]; decide) rfl ?_
  refine x_sub [2, 3, 4, 1, 0] rfl ?_
  refine w_O_costBehind_L6 hnL C hR (fun v2 hf => ?_) F 1048576 0 hf
  refine x_iload_n C d_O_costBehind_43 0 rfl ?_
  refine x_if_ne C d_O_costBehind_44 hf (fun hf => ?_) (fun hf => ?_)
  · refine x_iconst C d_O_costBehind_47 0 ?_
    refine x_goto C d_O_costBehind_48 ?_
    exact x_retR hR d_O_costBehind_52 hf trivial
  refine x_iload_n C d_O_costBehind_51 1 rfl ?_
  exact x_retR hR d_O_costBehind_52 hf trivial
set_option maxRecDepth 4000 in
theorem w_O_search_L137 {w : Ww} {l0 : Launch} {x : Cx} {F : Nat} {v8 : Int32} {rs : St} {k9 : St → Option St} (hnL : x.2.2.2.2.2.2.2.2.2.2.2.2 = 4) (C : XC shN w "NeighbourWires$Orders" b_O_search l0 3 x) (hR : RV shN w b_O_search rs x)  (hk9 : ∀ (S10 : St), k9 S10 = some rs → WX shN w x S10 183 [(0, .ref (w.1 13)), (1, .int v8)] []) : ∀ (n : Nat) (S12 : St) (v13 : Int32), O_search_L137 F v8 k9 n S12 v13 = some rs → WX shN w x S12 137 [(0, .ref (w.1 13)), (1, .int v8), (2, .int v13)] [] := by
  intro n
  induction n with
  | zero => intro S12 v13 hf; cases hf
  | succ n ih =>
    intro S12 v13 hf
    rw [O_search_L137] at hf
    refine x_iload_n C d_O_search_137 2 rfl ?_
    refine x_aload_n C d_O_search_138 0 rfl ?_
    refine x_get C d_O_search_139 f_O_wires wd250 rfl rfl ?_
    refine x_icmp_ge C d_O_search_142 hf (fun hf => ?_) (fun hf => ?_)
    · refine x_iload_n C d_O_search_145 1 rfl ?_
      refine x_iload_n C d_O_search_146 2 rfl ?_
      refine x_ishr C d_O_search_147 ?_
      refine x_iconst C d_O_search_148 1 ?_
      refine x_iand C d_O_search_149 ?_
      refine x_jn (fun J15 => ∀ (S14 : St), J15 S14 = some rs → WX shN w x S14 177 [(0, .ref (w.1 13)), (1, .int v8), (2, .int v13)] []) hf (fun S14 hf => ?_) (fun J15 hJ15 hf => ?_)
      · refine x_iinc C 1 d_O_search_177 2 rfl (by rw [hnL]; decide) hf (fun v16 => [(2, .int v16), (0, .ref (w.1 13)), (1, .int v8)]) (fun _ => rfl) (fun v16 hf => ?_)
        refine x_goto C d_O_search_180 ?_
        refine x_sub [1, 2, 0] rfl ?_
        exact ih S14 v16 hf
      refine x_if_eq C d_O_search_150 hf (fun hf => ?_) (fun hf => ?_)
      · exact hJ15 S12 hf
      refine x_aload_n C d_O_search_153 0 rfl ?_
      refine x_getr C d_O_search_154 f_O_least wd248 rfl rfl ?_
      refine x_iload_n C d_O_search_157 1 rfl ?_
      refine x_iload_n C d_O_search_158 2 rfl ?_
      refine x_csr C d_O_search_159 wd681 cm_O_indexOf [.int v8, .int v13] rfl rfl (by decide) (Nat.le_of_ble_eq_true rfl) hf (fun _ h => m_O_indexOf h) (fun v17 hf hb_v17 => ?_)
      refine x_aload_n C d_O_search_162 0 rfl ?_
      refine x_iload_n C d_O_search_163 2 rfl ?_
      refine x_iload_n C d_O_search_164 1 rfl ?_
      refine x_iconst C d_O_search_165 1 ?_
      refine x_iload_n C d_O_search_166 2 rfl ?_
      refine x_ishl C d_O_search_167 ?_
      refine x_iconst C d_O_search_168 (-1) ?_
      refine x_ixor C d_O_search_169 ?_
      refine x_iand C d_O_search_170 ?_
      refine x_cvr C d_O_search_171 wd690 cm_O_costBehind rfl rfl [.int v13, .int (v8 &&& ((jshl 1 v13) ^^^ (-1)))] rfl rfl (by decide) (Nat.le_of_ble_eq_true rfl) hf (fun _ h => m_O_costBehind h) (fun v18 hf hb_v18 => ?_)
      refine x_csv C d_O_search_174 wd687 cm_O_put [.ref (w.1 15), .int v17, .int v18] rfl rfl (by decide) (Nat.le_of_ble_eq_true rfl) hf (fun _ h => m_O_put rfl h) (fun S19 hf => ?_)
      exact hJ15 S19 hf
    refine x_sub [0, 1] rfl ?_
    exact hk9 S12 hf
set_option maxRecDepth 4000 in
theorem w_O_search_L125 {w : Ww} {l0 : Launch} {x : Cx} {F : Nat}  {rs : St}  (hnL : x.2.2.2.2.2.2.2.2.2.2.2.2 = 4) (C : XC shN w "NeighbourWires$Orders" b_O_search l0 3 x) (hR : RV shN w b_O_search rs x)   : ∀ (n : Nat) (S7 : St) (v8 : Int32), O_search_L125 F n S7 v8 = some rs → WX shN w x S7 125 [(0, .ref (w.1 13)), (1, .int v8)] [] := by
  intro n
  induction n with
  | zero => intro S7 v8 hf; cases hf
  | succ n ih =>
    intro S7 v8 hf
    rw [O_search_L125] at hf
    refine x_iload_n C d_O_search_125 1 rfl ?_
    refine x_iconst C d_O_search_126 1 ?_
    refine x_aload_n C d_O_search_127 0 rfl ?_
    refine x_get C d_O_search_128 f_O_wires wd250 rfl rfl ?_
    refine x_ishl C d_O_search_131 ?_
    refine x_icmp_ge C d_O_search_132 hf (fun hf => ?_) (fun hf => ?_)
    · refine x_iconst C d_O_search_135 0 ?_
      refine x_istore_n C d_O_search_136 [(2, .int 0), (0, .ref (w.1 13)), (1, .int v8)] (by rw [hnL]; decide) rfl ?_
      refine x_sub [1, 2, 0] rfl ?_
      refine w_O_search_L137 hnL C hR (fun S10 hf => ?_) F S7 0 hf
      refine x_iinc C 1 d_O_search_183 1 rfl (by rw [hnL]; decide) hf (fun v11 => [(1, .int v11), (0, .ref (w.1 13))]) (fun _ => rfl) (fun v11 hf => ?_)
      refine x_goto C d_O_search_186 ?_
      refine x_sub [1, 0] rfl ?_
      exact ih S10 v11 hf
    exact hR _ _ _ d_O_search_189.1 hf
set_option maxRecDepth 4000 in
theorem w_O_search_L42 {w : Ww} {l0 : Launch} {x : Cx} {F : Nat}  {rs : St} {k5 : St → Option St} (hnL : x.2.2.2.2.2.2.2.2.2.2.2.2 = 4) (C : XC shN w "NeighbourWires$Orders" b_O_search l0 3 x) (hR : RV shN w b_O_search rs x)  (hk5 : ∀ (S6 : St), k5 S6 = some rs → WX shN w x S6 123 [(0, .ref (w.1 13))] []) : ∀ (n : Nat) (S20 : St) (v21 : Int32), O_search_L42 F k5 n S20 v21 = some rs → WX shN w x S20 42 [(0, .ref (w.1 13)), (1, .int v21)] [] := by
  intro n
  induction n with
  | zero => intro S20 v21 hf; cases hf
  | succ n ih =>
    intro S20 v21 hf
    rw [O_search_L42] at hf
    refine x_iload_n C d_O_search_42 1 rfl ?_
    refine x_aload_n C d_O_search_43 0 rfl ?_
    refine x_getr C d_O_search_44 f_O_plan wd249 rfl rfl ?_
    refine x_get C d_O_search_47 f_P_length wd129 rfl rfl ?_
    refine x_icmp_ge C d_O_search_50 hf (fun hf => ?_) (fun hf => ?_)
    · refine x_aload_n C d_O_search_53 0 rfl ?_
      refine x_getr C d_O_search_54 f_O_plan wd249 rfl rfl ?_
      refine x_iload_n C d_O_search_57 1 rfl ?_
      refine x_iconst C d_O_search_58 1 ?_
      refine x_isub C d_O_search_59 ?_
      refine x_cvr C d_O_search_60 wd672 cm_P_wordAt rfl rfl [.int (v21 - 1)] rfl rfl (by decide) (Nat.le_of_ble_eq_true rfl) hf (fun _ h => m_P_wordAt isP1 h) (fun v22 hf hb_v22 => ?_)
      refine x_istore_n C d_O_search_63 [(2, .int v22), (0, .ref (w.1 13)), (1, .int v21)] (by rw [hnL]; decide) rfl ?_
      refine x_aload_n C d_O_search_64 1 rfl ?_
      refine x_getr C d_O_search_65 f_O_plan wd249 rfl rfl ?_
      refine x_iload_n C d_O_search_68 2 rfl ?_
      refine x_cvr C d_O_search_69 wd672 cm_P_wordAt rfl rfl [.int v21] rfl rfl (by decide) (Nat.le_of_ble_eq_true rfl) hf (fun _ h => m_P_wordAt isP1 h) (fun v23 hf hb_v23 => ?_)
      refine x_istore_n C d_O_search_72 [(3, .int v23), (2, .int v22), (0, .ref (w.1 13)), (1, .int v21)] (by rw [hnL]; decide) rfl ?_
      refine x_aload_n C d_O_search_73 2 rfl ?_
      refine x_dup C d_O_search_74 rfl ?_
      refine x_get C d_O_search_75 f_O_ownCost wd251 rfl rfl ?_
      refine x_aload_n C d_O_search_78 2 rfl ?_
      refine x_getr C d_O_search_79 f_O_plan wd249 rfl rfl ?_
      refine x_get C d_O_search_82 f_P_own wd115 rfl rfl ?_
      refine x_iload_n C d_O_search_85 1 rfl ?_
      refine x_iload_n C d_O_search_86 0 rfl ?_
      refine x_ixor C d_O_search_87 ?_
      refine x_csr C d_O_search_88 wd673 cm_Ji_bitCount [.int (v22 ^^^ v23)] rfl rfl (by decide) (Nat.le_of_ble_eq_true rfl) hf (fun _ h => m_Ji_bitCount h) (fun v24 hf hb_v24 => ?_)
      refine x_imul C d_O_search_91 ?_
      refine x_iadd C d_O_search_92 ?_
      refine x_put C d_O_search_93 f_O_ownCost wd251 rfl rfl hf (fun S25 hf => ?_)
      refine x_aload_n C d_O_search_96 2 rfl ?_
      refine x_iload_n C d_O_search_97 0 rfl ?_
      refine x_iload_n C d_O_search_98 1 rfl ?_
      refine x_iconst C d_O_search_99 (-1) ?_
      refine x_ixor C d_O_search_100 ?_
      refine x_iand C d_O_search_101 ?_
      refine x_iload_n C d_O_search_102 1 rfl ?_
      refine x_iload_n C d_O_search_103 0 rfl ?_
      refine x_iconst C d_O_search_104 (-1) ?_
      refine x_ixor C d_O_search_105 ?_
      refine x_iand C d_O_search_106 ?_
      refine x_aload_n C d_O_search_107 2 rfl ?_
      refine x_getr C d_O_search_108 f_O_plan wd249 rfl rfl ?_
      refine x_get C d_O_search_111 f_P_side wd120 rfl rfl ?_
      refine x_cvv C d_O_search_114 wd674 cm_O_addPairs rfl rfl [.int (v23 &&& (v22 ^^^ (-1))), .int (v22 &&& (v23 ^^^ (-1))), .int (S25.1 1 2)] rfl rfl (by decide) (Nat.le_of_ble_eq_true rfl) hf (fun _ h => m_O_addPairs h) (fun S26 hf => ?_)
      refine x_iinc C 1 d_O_search_117 3 rfl (by rw [hnL]; decide) hf (fun v27 => [(1, .int v27), (3, .int v23), (2, .int v22), (0, .ref (w.1 13))]) (fun _ => rfl) (fun v27 hf => ?_)
      refine x_goto C d_O_search_120 ?_
      refine x_sub [3, 0] rfl ?_
      exact ih S26 v27 hf
    refine x_sub [0] rfl ?_
    exact hk5 S20 hf
set_option maxRecDepth 4000 in
theorem w_O_search_L18 {w : Ww} {l0 : Launch} {x : Cx} {F : Nat}  {rs : St} {k3 : St → Option St} (hnL : x.2.2.2.2.2.2.2.2.2.2.2.2 = 4) (C : XC shN w "NeighbourWires$Orders" b_O_search l0 3 x) (hR : RV shN w b_O_search rs x)  (hk3 : ∀ (S4 : St), k3 S4 = some rs → WX shN w x S4 40 [(0, .ref (w.1 13))] []) : ∀ (n : Nat) (S28 : St) (v29 : Int32), O_search_L18 F k3 n S28 v29 = some rs → WX shN w x S28 18 [(0, .ref (w.1 13)), (1, .int v29)] [] := by
  intro n
  induction n with
  | zero => intro S28 v29 hf; cases hf
  | succ n ih =>
    intro S28 v29 hf
    rw [O_search_L18] at hf
    refine x_iload_n C d_O_search_18 1 rfl ?_
    refine x_aload_n C d_O_search_19 0 rfl ?_
    refine x_getr C d_O_search_20 f_O_asNeighbours wd247 rfl rfl ?_
    refine x_alen C (64) d_O_search_23 rfl rfl (by decide) ?_
    refine x_icmp_ge C d_O_search_24 hf (fun hf => ?_) (fun hf => ?_)
    · refine x_aload_n C d_O_search_27 0 rfl ?_
      refine x_getr C d_O_search_28 f_O_asNeighbours wd247 rfl rfl ?_
      refine x_iload_n C d_O_search_31 1 rfl ?_
      refine x_iconst C d_O_search_32 0 ?_
      refine x_iast C d_O_search_33 rfl hf (fun S30 hf => ?_)
      refine x_iinc C 1 d_O_search_34 1 rfl (by rw [hnL]; decide) hf (fun v31 => [(1, .int v31), (0, .ref (w.1 13))]) (fun _ => rfl) (fun v31 hf => ?_)
      refine x_goto C d_O_search_37 ?_
      refine x_sub [1, 0] rfl ?_
      exact ih S30 v31 hf
    refine x_sub [0] rfl ?_
    exact hk3 S28 hf
set_option maxRecDepth 4000 in
theorem m_O_search {w : Ww} {l0 : Launch} {F : Nat} {S : St} {rs : St}  (hf : O_search F S = some rs) : MV shN w l0 y_O_search b_O_search 4 3 [.ref (w.1 13)] S rs := by
  refine MV.of (by decide) (Nat.le_of_ble_eq_true rfl) rfl (fun x hnL C hR => ?_)
  rw [O_search] at hf
  refine x_aload_n C d_O_search_0 0 rfl ?_
  refine x_aload_n C d_O_search_1 0 rfl ?_
  refine x_getr C d_O_search_2 f_O_plan wd249 rfl rfl ?_
  refine x_get C d_O_search_5 f_P_wires wd110 rfl rfl ?_
  refine x_put C d_O_search_8 f_O_wires wd250 rfl rfl hf (fun S1 hf => ?_)
  refine x_aload_n C d_O_search_11 0 rfl ?_
  refine x_iconst C d_O_search_12 0 ?_
  refine x_put C d_O_search_13 f_O_ownCost wd251 rfl rfl hf (fun S2 hf => ?_)
  refine x_iconst C d_O_search_16 0 ?_
  refine x_istore_n C d_O_search_17 [(1, .int 0), (0, .ref (w.1 13))] (by rw [hnL]; decide) rfl ?_
  refine x_sub [1, 0] rfl ?_
  refine w_O_search_L18 hnL C hR (fun S4 hf => ?_) F S2 0 hf
  refine x_iconst C d_O_search_40 0 ?_
  refine x_istore_n C d_O_search_41 [(1, .int 0), (0, .ref (w.1 13))] (by rw [hnL]; decide) rfl ?_
  refine x_sub [1, 0] rfl ?_
  refine w_O_search_L42 hnL C hR (fun S6 hf => ?_) F S4 0 hf
  refine x_iconst C d_O_search_123 1 ?_
  refine x_istore_n C d_O_search_124 [(1, .int 1), (0, .ref (w.1 13))] (by rw [hnL]; decide) rfl ?_
  refine x_sub [1, 0] rfl ?_
  exact w_O_search_L125 hnL C hR  F S6 1 hf
