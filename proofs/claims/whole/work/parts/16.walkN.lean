set_option maxRecDepth 4000 in
theorem w_K_keptWays_L5 {w : Ww} {l0 : Launch} {x : Cx} {F : Nat} {p1 : Int32} {p2 : Int32} {S : St} {rs : Int32}  (hnL : x.2.2.2.2.2.2.2.2.2.2.2.2 = 5) (C : XC shN w "NeighbourWires$Machine" b_K_keptWays l0 2 x) (hR : RI shN w b_K_keptWays bzT (rs, S) x)   : ∀ (n : Nat) (v1 : Int32) (v2 : Int32), K_keptWays_L5 F p1 p2 S n v1 v2 = some rs → WX shN w x S 5 [(0, .ref (w.1 17)), (1, .int p1), (2, .int p2), (3, .int v1), (4, .int v2)] [] := by
  intro n
  induction n with
  | zero => intro v1 v2 hf; cases hf
  | succ n ih =>
    intro v1 v2 hf
    rw [K_keptWays_L5] at hf
    refine x_iload C d_K_keptWays_5 4 rfl ?_
    refine x_aload_n C d_K_keptWays_7 0 rfl ?_
    refine x_getr C d_K_keptWays_8 f_K_kept wd300 rfl rfl ?_
    refine x_alen C (4) d_K_keptWays_11 rfl rfl (by decide) ?_
    refine x_icmp_ge C d_K_keptWays_12 hf (fun hf => ?_) (fun hf => ?_)
    · refine x_iload_n C d_K_keptWays_15 3 rfl ?_
      refine x_aload_n C d_K_keptWays_16 0 rfl ?_
      refine x_getr C d_K_keptWays_17 f_K_kept wd300 rfl rfl ?_
      refine x_iload C d_K_keptWays_20 4 rfl ?_
      refine x_lald C d_K_keptWays_22 rfl hf (fun hf => ?_)
      refine x_aload_n C d_K_keptWays_23 0 rfl ?_
      refine x_iload_n C d_K_keptWays_24 1 rfl ?_
      refine x_iload_n C d_K_keptWays_25 2 rfl ?_
      refine x_iload C d_K_keptWays_26 4 rfl ?_
      refine x_cvq C d_K_keptWays_28 wd841 cm_K_nearPart rfl rfl [.int p1, .int p2, .int v2] rfl rfl (by decide) (Nat.le_of_ble_eq_true rfl) hf (fun _ h => m_K_nearPart h) (fun u3 hf => ?_)
      refine x_land C d_K_keptWays_31 ?_
      refine x_csr C d_K_keptWays_32 wd845 cm_Jl_bitCount [.long ((S.2 19 (Int32.toNatClampNeg v2)) &&& u3)] rfl rfl (by decide) (Nat.le_of_ble_eq_true rfl) hf (fun _ h => m_Jl_bitCount h) (fun v4 hf hb_v4 => ?_)
      refine x_iadd C d_K_keptWays_35 ?_
      refine x_bi hf (fun v5 hf => ?_)
      refine x_istore_n C d_K_keptWays_36 [(3, .int v5), (0, .ref (w.1 17)), (1, .int p1), (2, .int p2), (4, .int v2)] (by rw [hnL]; decide) rfl ?_
      refine x_iinc C 1 d_K_keptWays_37 4 rfl (by rw [hnL]; decide) hf (fun v6 => [(4, .int v6), (3, .int v5), (0, .ref (w.1 17)), (1, .int p1), (2, .int p2)]) (fun _ => rfl) (fun v6 hf => ?_)
      refine x_goto C d_K_keptWays_40 ?_
      refine x_sub [2, 3, 4, 1, 0] rfl ?_
      exact ih v5 v6 hf
    refine x_iload_n C d_K_keptWays_43 3 rfl ?_
    exact x_retR hR d_K_keptWays_44 hf trivial
set_option maxRecDepth 4000 in
theorem m_K_keptWays {w : Ww} {l0 : Launch} {F : Nat} {S : St} {p1 : Int32} {p2 : Int32} {rs : Int32}  (hf : K_keptWays F S p1 p2 = some rs) : MI shN w l0 y_K_keptWays b_K_keptWays 5 .int 2 [.ref (w.1 17), .int p1, .int p2] S rs S bzT := by
  refine MI.of (by decide) (Nat.le_of_ble_eq_true rfl) rfl (fun _ _ => rfl) (fun x hnL C hR => ?_)
  rw [K_keptWays] at hf
  refine x_iconst C d_K_keptWays_0 0 ?_
  refine x_istore_n C d_K_keptWays_1 [(3, .int 0), (0, .ref (w.1 17)), (1, .int p1), (2, .int p2)] (by rw [hnL]; decide) rfl ?_
  refine x_iconst C d_K_keptWays_2 0 ?_
  refine x_istore C d_K_keptWays_3 [(4, .int 0), (3, .int 0), (0, .ref (w.1 17)), (1, .int p1), (2, .int p2)] (by rw [hnL]; decide) rfl ?_
  refine x_sub [2, 3, 4, 1, 0] rfl ?_
  exact w_K_keptWays_L5 hnL C hR  F 0 0 hf
set_option maxRecDepth 4000 in
theorem m_K_drop {w : Ww} {l0 : Launch} {F : Nat} {S : St} {p1 : Int32} {rs : St}  (hf : K_drop F S p1 = some rs) : MV shN w l0 y_K_drop b_K_drop 3 0 [.ref (w.1 17), .int p1] S rs := by
  refine MV.of (by decide) (Nat.le_of_ble_eq_true rfl) rfl (fun x hnL C hR => ?_)
  rw [K_drop] at hf
  refine x_iload_n C d_K_drop_0 1 rfl ?_
  refine x_bipush C d_K_drop_1 64 ?_
  refine x_idiv C d_K_drop_3 (by decide) ?_
  refine x_bi hf (fun v1 hf => ?_)
  refine x_istore_n C d_K_drop_4 [(2, .int v1), (0, .ref (w.1 17)), (1, .int p1)] (by rw [hnL]; decide) rfl ?_
  refine x_iload_n C d_K_drop_5 0 rfl ?_
  refine x_if_lt C d_K_drop_6 hf (fun hf => ?_) (fun hf => ?_)
  · exact hR _ _ _ d_K_drop_37.1 hf
  refine x_iload_n C d_K_drop_9 0 rfl ?_
  refine x_aload_n C d_K_drop_10 1 rfl ?_
  refine x_getr C d_K_drop_11 f_K_kept wd300 rfl rfl ?_
  refine x_alen C (4) d_K_drop_14 rfl rfl (by decide) ?_
  refine x_icmp_ge C d_K_drop_15 hf (fun hf => ?_) (fun hf => ?_)
  · refine x_aload_n C d_K_drop_18 1 rfl ?_
    refine x_getr C d_K_drop_19 f_K_kept wd300 rfl rfl ?_
    refine x_iload_n C d_K_drop_22 0 rfl ?_
    refine x_dup2 C d_K_drop_23 rfl rfl ?_
    refine x_lald C d_K_drop_24 rfl hf (fun hf => ?_)
    refine x_lconst C d_K_drop_25 1 ?_
    refine x_iload_n C d_K_drop_26 2 rfl ?_
    refine x_bipush C d_K_drop_27 64 ?_
    refine x_irem C d_K_drop_29 (by decide) ?_
    refine x_lshl C d_K_drop_30 ?_
    refine x_ldc2 C d_K_drop_31 wd870 ?_
    refine x_lxor C d_K_drop_34 ?_
    refine x_land C d_K_drop_35 ?_
    refine x_last C d_K_drop_36 rfl hf (fun S2 hf => ?_)
    exact hR _ _ _ d_K_drop_37.1 hf
  exact hR _ _ _ d_K_drop_37.1 hf
set_option maxRecDepth 4000 in
theorem w_K_keep_L34 {w : Ww} {l0 : Launch} {x : Cx} {F : Nat} {p1 : Int32} {p2 : Int32} {v8 : Int32} {v10 : Int32} {rs : (Int32 × St)} {k11 : St → Int32 → Option (Int32 × St)} (hnL : x.2.2.2.2.2.2.2.2.2.2.2.2 = 8) (C : XC shN w "NeighbourWires$Machine" b_K_keep l0 3 x) (hR : RI shN w b_K_keep bzT rs x)  (hk11 : ∀ (S12 : St) (v13 : Int32), k11 S12 v13 = some rs → WX shN w x S12 83 [(0, .ref (w.1 17)), (1, .int p1), (2, .int p2), (3, .int v13), (5, .int v10), (6, .int v8)] []) : ∀ (n : Nat) (S17 : St) (v18 : Int32) (v19 : Int32), K_keep_L34 F p1 p2 v8 v10 k11 n S17 v18 v19 = some rs → WX shN w x S17 34 [(0, .ref (w.1 17)), (1, .int p1), (2, .int p2), (3, .int v18), (5, .int v10), (6, .int v8), (7, .int v19)] [] := by
  intro n
  induction n with
  | zero => intro S17 v18 v19 hf; cases hf
  | succ n ih =>
    intro S17 v18 v19 hf
    rw [K_keep_L34] at hf
    refine x_iload C d_K_keep_34 6 rfl ?_
    refine x_aload_n C d_K_keep_36 0 rfl ?_
    refine x_get C d_K_keep_37 f_K_words wd303 rfl rfl ?_
    refine x_icmp_ge C d_K_keep_40 hf (fun hf => ?_) (fun hf => ?_)
    · refine x_aload_n C d_K_keep_43 0 rfl ?_
      refine x_getr C d_K_keep_44 f_K_kept wd300 rfl rfl ?_
      refine x_iload C d_K_keep_47 6 rfl ?_
      refine x_csr C d_K_keep_49 wd871 cm_K_isIn [.ref (w.1 19), .int v19] rfl rfl (by decide) (Nat.le_of_ble_eq_true rfl) hf (fun _ h => m_K_isIn rfl h) (fun v20 hf hb_v20 => ?_)
      refine x_jn (fun J23 => ∀ (S21 : St) (v22 : Int32), J23 S21 v22 = some rs → WX shN w x S21 77 [(0, .ref (w.1 17)), (1, .int p1), (2, .int p2), (3, .int v22), (5, .int v10), (6, .int v8), (7, .int v19)] []) hf (fun S21 v22 hf => ?_) (fun J23 hJ23 hf => ?_)
      · refine x_iinc C 1 d_K_keep_77 6 rfl (by rw [hnL]; decide) hf (fun v24 => [(7, .int v24), (0, .ref (w.1 17)), (1, .int p1), (2, .int p2), (3, .int v22), (5, .int v10), (6, .int v8)]) (fun _ => rfl) (fun v24 hf => ?_)
        refine x_goto C d_K_keep_80 ?_
        refine x_sub [1, 2, 3, 4, 5, 6, 0] rfl ?_
        exact ih S21 v22 v24 hf
      refine x_if_eq C d_K_keep_52 hf (fun hf => ?_) (fun hf => ?_)
      · exact hJ23 S17 v18 hf
      refine x_aload_n C d_K_keep_55 0 rfl ?_
      refine x_iload_n C d_K_keep_56 1 rfl ?_
      refine x_iload C d_K_keep_57 6 rfl ?_
      refine x_cvr C d_K_keep_59 wd874 cm_K_keptWays rfl rfl [.int p1, .int v19] rfl rfl (by decide) (Nat.le_of_ble_eq_true rfl) hf (fun _ h => m_K_keptWays h) (fun v25 hf hb_v25 => ?_)
      refine x_iconst C d_K_keep_62 1 ?_
      refine x_iload_n C d_K_keep_63 2 rfl ?_
      refine x_ishl C d_K_keep_64 ?_
      refine x_icmp_ge C d_K_keep_65 hf (fun hf => ?_) (fun hf => ?_)
      · refine x_aload_n C d_K_keep_68 0 rfl ?_
        refine x_iload C d_K_keep_69 6 rfl ?_
        refine x_cvv C d_K_keep_71 wd878 cm_K_drop rfl rfl [.int v19] rfl rfl (by decide) (Nat.le_of_ble_eq_true rfl) hf (fun _ h => m_K_drop h) (fun S26 hf => ?_)
        refine x_iinc C (-1) d_K_keep_74 3 rfl (by rw [hnL]; decide) hf (fun v27 => [(3, .int v27), (0, .ref (w.1 17)), (1, .int p1), (2, .int p2), (5, .int v10), (6, .int v8), (7, .int v19)]) (fun _ => rfl) (fun v27 hf => ?_)
        refine x_sub [1, 2, 3, 0, 4, 5, 6] rfl ?_
        exact hJ23 S26 v27 hf
      exact hJ23 S17 v18 hf
    refine x_sub [0, 1, 2, 3, 4, 5] rfl ?_
    exact hk11 S17 v18 hf
set_option maxRecDepth 4000 in
theorem w_K_keep_L15 {w : Ww} {l0 : Launch} {x : Cx} {F : Nat} {p1 : Int32} {p2 : Int32} {rs : (Int32 × St)} {k3 : St → Int32 → Option (Int32 × St)} (hnL : x.2.2.2.2.2.2.2.2.2.2.2.2 = 8) (C : XC shN w "NeighbourWires$Machine" b_K_keep l0 3 x) (hR : RI shN w b_K_keep bzT rs x)  (hk3 : ∀ (S4 : St) (v5 : Int32), k3 S4 v5 = some rs → WX shN w x S4 102 [(0, .ref (w.1 17)), (3, .int v5)] []) : ∀ (n : Nat) (S7 : St) (v8 : Int32) (v9 : Int32) (v10 : Int32), K_keep_L15 F p1 p2 k3 n S7 v8 v9 v10 = some rs → WX shN w x S7 15 [(0, .ref (w.1 17)), (1, .int p1), (2, .int p2), (3, .int v8), (4, .int v9), (5, .int v10)] [] := by
  intro n
  induction n with
  | zero => intro S7 v8 v9 v10 hf; cases hf
  | succ n ih =>
    intro S7 v8 v9 v10 hf
    rw [K_keep_L15] at hf
    refine x_iload C d_K_keep_15 4 rfl ?_
    refine x_if_eq C d_K_keep_17 hf (fun hf => ?_) (fun hf => ?_)
    · refine x_sub [0, 3] rfl ?_
      exact hk3 S7 v8 hf
    refine x_iload C d_K_keep_20 5 rfl ?_
    refine x_sipush C d_K_keep_22 256 ?_
    refine x_icmp_gt C d_K_keep_25 hf (fun hf => ?_) (fun hf => ?_)
    · refine x_sub [0, 3] rfl ?_
      exact hk3 S7 v8 hf
    refine x_iload_n C d_K_keep_28 3 rfl ?_
    refine x_istore C d_K_keep_29 [(6, .int v8), (0, .ref (w.1 17)), (1, .int p1), (2, .int p2), (3, .int v8), (4, .int v9), (5, .int v10)] (by rw [hnL]; decide) rfl ?_
    refine x_iconst C d_K_keep_31 0 ?_
    refine x_istore C d_K_keep_32 [(7, .int 0), (6, .int v8), (0, .ref (w.1 17)), (1, .int p1), (2, .int p2), (3, .int v8), (4, .int v9), (5, .int v10)] (by rw [hnL]; decide) rfl ?_
    refine x_sub [2, 3, 4, 5, 7, 1, 0] rfl ?_
    refine w_K_keep_L34 hnL C hR (fun S12 v13 hf => ?_) F S7 v8 0 hf
    refine x_iload_n C d_K_keep_83 3 rfl ?_
    refine x_iload C d_K_keep_84 5 rfl ?_
    refine x_jn (fun J15 => ∀ (v14 : Int32), J15 v14 = some rs → WX shN w x S12 94 [(0, .ref (w.1 17)), (1, .int p1), (2, .int p2), (3, .int v13), (5, .int v10)] [.int v14]) hf (fun v14 hf => ?_) (fun J15 hJ15 hf => ?_)
    · refine x_istore C d_K_keep_94 [(4, .int v14), (0, .ref (w.1 17)), (1, .int p1), (2, .int p2), (3, .int v13), (5, .int v10)] (by rw [hnL]; decide) rfl ?_
      refine x_iinc C 1 d_K_keep_96 5 rfl (by rw [hnL]; decide) hf (fun v16 => [(5, .int v16), (4, .int v14), (0, .ref (w.1 17)), (1, .int p1), (2, .int p2), (3, .int v13)]) (fun _ => rfl) (fun v16 hf => ?_)
      refine x_goto C d_K_keep_99 ?_
      refine x_sub [2, 3, 4, 5, 1, 0] rfl ?_
      exact ih S12 v13 v14 v16 hf
    refine x_icmp_ge C d_K_keep_86 hf (fun hf => ?_) (fun hf => ?_)
    · refine x_iconst C d_K_keep_89 1 ?_
      refine x_goto C d_K_keep_90 ?_
      refine x_sub [0, 1, 2, 3, 4] rfl ?_
      exact hJ15 1 hf
    refine x_iconst C d_K_keep_93 0 ?_
    refine x_sub [0, 1, 2, 3, 4] rfl ?_
    exact hJ15 0 hf
set_option maxRecDepth 4000 in
theorem m_K_keep {w : Ww} {l0 : Launch} {F : Nat} {S : St} {p1 : Int32} {p2 : Int32} {r : Int32} {S9 : St}  (hf : K_keep F S p1 p2 = some (r, S9)) : MI shN w l0 y_K_keep b_K_keep 8 .int 3 [.ref (w.1 17), .int p1, .int p2] S r S9 bzT := by
  refine MI.of (by decide) (Nat.le_of_ble_eq_true rfl) rfl (fun _ _ => rfl) (fun x hnL C hR => ?_)
  rw [K_keep] at hf
  refine x_aload_n C d_K_keep_0 0 rfl ?_
  refine x_cvv C d_K_keep_1 wd866 cm_K_fillKept rfl rfl [] rfl rfl (by decide) (Nat.le_of_ble_eq_true rfl) hf (fun _ h => m_K_fillKept h) (fun S1 hf => ?_)
  refine x_aload_n C d_K_keep_4 0 rfl ?_
  refine x_get C d_K_keep_5 f_K_words wd303 rfl rfl ?_
  refine x_bi hf (fun v2 hf => ?_)
  refine x_istore_n C d_K_keep_8 [(3, .int v2), (0, .ref (w.1 17)), (1, .int p1), (2, .int p2)] (by rw [hnL]; decide) rfl ?_
  refine x_iconst C d_K_keep_9 1 ?_
  refine x_istore C d_K_keep_10 [(4, .int 1), (3, .int v2), (0, .ref (w.1 17)), (1, .int p1), (2, .int p2)] (by rw [hnL]; decide) rfl ?_
  refine x_iconst C d_K_keep_12 0 ?_
  refine x_istore C d_K_keep_13 [(5, .int 0), (4, .int 1), (3, .int v2), (0, .ref (w.1 17)), (1, .int p1), (2, .int p2)] (by rw [hnL]; decide) rfl ?_
  refine x_sub [3, 4, 5, 2, 1, 0] rfl ?_
  refine w_K_keep_L15 hnL C hR (fun S4 v5 hf => ?_) F S1 v2 1 0 hf
  refine x_aload_n C d_K_keep_102 0 rfl ?_
  refine x_getr C d_K_keep_103 f_K_kept wd300 rfl rfl ?_
  refine x_iconst C d_K_keep_106 0 ?_
  refine x_aload_n C d_K_keep_107 0 rfl ?_
  refine x_getr C d_K_keep_108 f_K_seen wd301 rfl rfl ?_
  refine x_iconst C d_K_keep_111 0 ?_
  refine x_iconst C d_K_keep_112 4 ?_
  refine x_copyl C d_K_keep_113 wd882 ⟨wd546, wd545, wd87⟩ rfl rfl (by decide) (by decide) (Nat.le_of_ble_eq_true rfl) hf (fun S6 hf => ?_)
  refine x_iload_n C d_K_keep_116 1 rfl ?_
  exact hR _ _ _ _ d_K_keep_117.1 hf trivial
set_option maxRecDepth 4000 in
theorem m_N_keep {w : Ww} {l0 : Launch} {F : Nat} {S : St} {p1 : Int32} {p2 : Int32} {r : Int32} {S9 : St}  (hf : N_keep F S p1 p2 = some (r, S9)) : MI shN w l0 y_N_keep b_N_keep 3 .int 4 [.ref (w.1 0), .int p1, .int p2] S r S9 bzT := by
  refine MI.of (by decide) (Nat.le_of_ble_eq_true rfl) rfl (fun _ _ => rfl) (fun x hnL C hR => ?_)
  rw [N_keep] at hf
  refine x_aload_n C d_N_keep_0 0 rfl ?_
  refine x_getr C d_N_keep_1 f_N_machine wd342 rfl rfl ?_
  refine x_aload_n C d_N_keep_4 0 rfl ?_
  refine x_getr C d_N_keep_5 f_N_plan wd337 rfl rfl ?_
  refine x_get C d_N_keep_8 f_P_wires wd113 rfl rfl ?_
  refine x_cvv C d_N_keep_11 wd808 cm_K_prepare rfl rfl [.int (S.1 1 0)] rfl rfl (by decide) (Nat.le_of_ble_eq_true rfl) hf (fun _ h => m_K_prepare h) (fun S1 hf => ?_)
  refine x_aload_n C d_N_keep_14 0 rfl ?_
  refine x_getr C d_N_keep_15 f_N_machine wd342 rfl rfl ?_
  refine x_iload_n C d_N_keep_18 1 rfl ?_
  refine x_iload_n C d_N_keep_19 2 rfl ?_
  refine x_cvi C d_N_keep_20 wd862 cm_K_keep rfl rfl [.int p1, .int p2] rfl rfl (by decide) (Nat.le_of_ble_eq_true rfl) hf (fun _ _ h => m_K_keep h) (fun v2 S3 hf hb_v2 => ?_)
  exact hR _ _ _ _ d_N_keep_23.1 hf trivial
set_option maxRecDepth 4000 in
theorem m_K_isSeen {w : Ww} {l0 : Launch} {F : Nat} {S : St} {p1 : Int32} {rs : Int32}  (hf : K_isSeen F S p1 = some rs) : MI shN w l0 y_K_isSeen b_K_isSeen 2 .boolean 1 [.ref (w.1 17), .int p1] S rs S bz01 := by
  refine MI.of (by decide) (Nat.le_of_ble_eq_true rfl) rfl (fun v hb => by rcases hb with rfl | rfl <;> decide) (fun x hnL C hR => ?_)
  rw [K_isSeen] at hf
  refine x_aload_n C d_K_isSeen_0 0 rfl ?_
  refine x_getr C d_K_isSeen_1 f_K_seen wd301 rfl rfl ?_
  refine x_iload_n C d_K_isSeen_4 1 rfl ?_
  refine x_csr C d_K_isSeen_5 wd871 cm_K_isIn [.ref (w.1 20), .int p1] rfl rfl (by decide) (Nat.le_of_ble_eq_true rfl) hf (fun _ h => m_K_isIn rfl h) (fun v1 hf hb_v1 => ?_)
  exact x_retR hR d_K_isSeen_8 hf hb_v1
set_option maxRecDepth 4000 in
theorem w_K_seenNumbered_L4 {w : Ww} {l0 : Launch} {x : Cx} {F : Nat} {p1 : Int32} {S : St} {rs : Int32}  (hnL : x.2.2.2.2.2.2.2.2.2.2.2.2 = 4) (C : XC shN w "NeighbourWires$Machine" b_K_seenNumbered l0 2 x) (hR : RI shN w b_K_seenNumbered bzT (rs, S) x)   : ∀ (n : Nat) (v1 : Int32) (v2 : Int32), K_seenNumbered_L4 F p1 S n v1 v2 = some rs → WX shN w x S 4 [(0, .ref (w.1 17)), (1, .int p1), (2, .int v1), (3, .int v2)] [] := by
  intro n
  induction n with
  | zero => intro v1 v2 hf; cases hf
  | succ n ih =>
    intro v1 v2 hf
    rw [K_seenNumbered_L4] at hf
    refine x_iload_n C d_K_seenNumbered_4 3 rfl ?_
    refine x_aload_n C d_K_seenNumbered_5 0 rfl ?_
    refine x_get C d_K_seenNumbered_6 f_K_words wd303 rfl rfl ?_
    refine x_icmp_ge C d_K_seenNumbered_9 hf (fun hf => ?_) (fun hf => ?_)
    · refine x_aload_n C d_K_seenNumbered_12 0 rfl ?_
      refine x_iload_n C d_K_seenNumbered_13 3 rfl ?_
      refine x_cvr C d_K_seenNumbered_14 wd887 cm_K_isSeen rfl rfl [.int v2] rfl rfl (by decide) (Nat.le_of_ble_eq_true rfl) hf (fun _ h => m_K_isSeen h) (fun v3 hf hb_v3 => ?_)
      refine x_jn (fun J5 => ∀ (v4 : Int32), J5 v4 = some rs → WX shN w x S 30 [(0, .ref (w.1 17)), (1, .int p1), (2, .int v4), (3, .int v2)] []) hf (fun v4 hf => ?_) (fun J5 hJ5 hf => ?_)
      · refine x_iinc C 1 d_K_seenNumbered_30 3 rfl (by rw [hnL]; decide) hf (fun v6 => [(3, .int v6), (0, .ref (w.1 17)), (1, .int p1), (2, .int v4)]) (fun _ => rfl) (fun v6 hf => ?_)
        refine x_goto C d_K_seenNumbered_33 ?_
        refine x_sub [1, 2, 3, 0] rfl ?_
        exact ih v4 v6 hf
      refine x_if_eq C d_K_seenNumbered_17 hf (fun hf => ?_) (fun hf => ?_)
      · exact hJ5 v1 hf
      refine x_iload_n C d_K_seenNumbered_20 2 rfl ?_
      refine x_iload_n C d_K_seenNumbered_21 1 rfl ?_
      refine x_icmp_ne C d_K_seenNumbered_22 hf (fun hf => ?_) (fun hf => ?_)
      · refine x_iload_n C d_K_seenNumbered_25 3 rfl ?_
        exact x_retR hR d_K_seenNumbered_26 hf trivial
      refine x_iinc C 1 d_K_seenNumbered_27 2 rfl (by rw [hnL]; decide) hf (fun v7 => [(2, .int v7), (0, .ref (w.1 17)), (1, .int p1), (3, .int v2)]) (fun _ => rfl) (fun v7 hf => ?_)
      refine x_sub [1, 2, 0, 3] rfl ?_
      exact hJ5 v7 hf
    refine x_bipush C d_K_seenNumbered_36 (-4) ?_
    exact x_retR hR d_K_seenNumbered_38 hf trivial
set_option maxRecDepth 4000 in
theorem m_K_seenNumbered {w : Ww} {l0 : Launch} {F : Nat} {S : St} {p1 : Int32} {rs : Int32}  (hf : K_seenNumbered F S p1 = some rs) : MI shN w l0 y_K_seenNumbered b_K_seenNumbered 4 .int 2 [.ref (w.1 17), .int p1] S rs S bzT := by
  refine MI.of (by decide) (Nat.le_of_ble_eq_true rfl) rfl (fun _ _ => rfl) (fun x hnL C hR => ?_)
  rw [K_seenNumbered] at hf
  refine x_iconst C d_K_seenNumbered_0 0 ?_
  refine x_istore_n C d_K_seenNumbered_1 [(2, .int 0), (0, .ref (w.1 17)), (1, .int p1)] (by rw [hnL]; decide) rfl ?_
  refine x_iconst C d_K_seenNumbered_2 0 ?_
  refine x_istore_n C d_K_seenNumbered_3 [(3, .int 0), (2, .int 0), (0, .ref (w.1 17)), (1, .int p1)] (by rw [hnL]; decide) rfl ?_
  refine x_sub [2, 3, 1, 0] rfl ?_
  exact w_K_seenNumbered_L4 hnL C hR  F 0 0 hf
set_option maxRecDepth 4000 in
theorem m_N_kept {w : Ww} {l0 : Launch} {F : Nat} {S : St} {p1 : Int32} {p2 : Int32} {p3 : Int32} {r : Int32} {S9 : St}  (hf : N_kept F S p1 p2 p3 = some (r, S9)) : MI shN w l0 y_N_kept b_N_kept 5 .int 5 [.ref (w.1 0), .int p1, .int p2, .int p3] S r S9 bzT := by
  refine MI.of (by decide) (Nat.le_of_ble_eq_true rfl) rfl (fun _ _ => rfl) (fun x hnL C hR => ?_)
  rw [N_kept] at hf
  refine x_iload_n C d_N_kept_0 1 rfl ?_
  refine x_csr C d_N_kept_1 wd719 cm_N_isSlow [.int p1] rfl rfl (by decide) (Nat.le_of_ble_eq_true rfl) hf (fun _ h => m_N_isSlow h) (fun v1 hf hb_v1 => ?_)
  refine x_if_eq C d_N_kept_4 hf (fun hf => ?_) (fun hf => ?_)
  · refine x_iconst C d_N_kept_23 (-1) ?_
    exact hR _ _ _ _ d_N_kept_24.1 hf trivial
  refine x_iload_n C d_N_kept_7 2 rfl ?_
  refine x_csr C d_N_kept_8 wd855 cm_N_isBits [.int p2] rfl rfl (by decide) (Nat.le_of_ble_eq_true rfl) hf (fun _ h => m_N_isBits h) (fun v2 hf hb_v2 => ?_)
  refine x_if_eq C d_N_kept_11 hf (fun hf => ?_) (fun hf => ?_)
  · refine x_iconst C d_N_kept_23 (-1) ?_
    exact hR _ _ _ _ d_N_kept_24.1 hf trivial
  refine x_iload_n C d_N_kept_14 3 rfl ?_
  refine x_if_lt C d_N_kept_15 hf (fun hf => ?_) (fun hf => ?_)
  · refine x_iconst C d_N_kept_23 (-1) ?_
    exact hR _ _ _ _ d_N_kept_24.1 hf trivial
  refine x_iload_n C d_N_kept_18 3 rfl ?_
  refine x_iconst C d_N_kept_19 1 ?_
  refine x_icmp_le C d_N_kept_20 hf (fun hf => ?_) (fun hf => ?_)
  · refine x_iconst C d_N_kept_23 (-1) ?_
    exact hR _ _ _ _ d_N_kept_24.1 hf trivial
  refine x_aload_n C d_N_kept_25 0 rfl ?_
  refine x_iload_n C d_N_kept_26 1 rfl ?_
  refine x_iload_n C d_N_kept_27 2 rfl ?_
  refine x_cvi C d_N_kept_28 wd858 cm_N_keep rfl rfl [.int p1, .int p2] rfl rfl (by decide) (Nat.le_of_ble_eq_true rfl) hf (fun _ _ h => m_N_keep h) (fun v3 S4 hf hb_v3 => ?_)
  refine x_istore C d_N_kept_31 [(4, .int v3), (0, .ref (w.1 0)), (1, .int p1), (2, .int p2), (3, .int p3)] (by rw [hnL]; decide) rfl ?_
  refine x_iload_n C d_N_kept_33 4 rfl ?_
  refine x_if_ne C d_N_kept_34 hf (fun hf => ?_) (fun hf => ?_)
  · refine x_iload C d_N_kept_37 0 rfl ?_
    exact hR _ _ _ _ d_N_kept_39.1 hf trivial
  refine x_iload C d_N_kept_40 0 rfl ?_
  refine x_if_ne C d_N_kept_42 hf (fun hf => ?_) (fun hf => ?_)
  · refine x_bipush C d_N_kept_45 (-4) ?_
    refine x_goto C d_N_kept_47 ?_
    exact hR _ _ _ _ d_N_kept_58.1 hf trivial
  refine x_aload_n C d_N_kept_50 1 rfl ?_
  refine x_getr C d_N_kept_51 f_N_machine wd342 rfl rfl ?_
  refine x_iconst C d_N_kept_54 0 ?_
  refine x_cvr C d_N_kept_55 wd883 cm_K_seenNumbered rfl rfl [.int 0] rfl rfl (by decide) (Nat.le_of_ble_eq_true rfl) hf (fun _ h => m_K_seenNumbered h) (fun v5 hf hb_v5 => ?_)
  exact hR _ _ _ _ d_N_kept_58.1 hf trivial
set_option maxRecDepth 4000 in
theorem w_N_bits_L13 {w : Ww} {l0 : Launch} {x : Cx} {F : Nat} {p1 : Int32} {rs : (Int32 × St)}  (hnL : x.2.2.2.2.2.2.2.2.2.2.2.2 = 4) (C : XC shN w "NeighbourWires" b_N_bits l0 5 x) (hR : RI shN w b_N_bits bzT rs x)   : ∀ (n : Nat) (S2 : St) (v3 : Int32) (v4 : Int32), N_bits_L13 F p1 n S2 v3 v4 = some rs → WX shN w x S2 13 [(0, .ref (w.1 0)), (1, .int p1), (2, .int v3), (3, .int v4)] [] := by
  intro n
  induction n with
  | zero => intro S2 v3 v4 hf; cases hf
  | succ n ih =>
    intro S2 v3 v4 hf
    rw [N_bits_L13] at hf
    refine x_iload_n C d_N_bits_13 3 rfl ?_
    refine x_bipush C d_N_bits_14 8 ?_
    refine x_icmp_gt C d_N_bits_16 hf (fun hf => ?_) (fun hf => ?_)
    · refine x_iload_n C d_N_bits_36 2 rfl ?_
      exact hR _ _ _ _ d_N_bits_37.1 hf trivial
    refine x_aload_n C d_N_bits_19 0 rfl ?_
    refine x_iload_n C d_N_bits_20 1 rfl ?_
    refine x_iload_n C d_N_bits_21 3 rfl ?_
    refine x_cvi C d_N_bits_22 wd858 cm_N_keep rfl rfl [.int p1, .int v4] rfl rfl (by decide) (Nat.le_of_ble_eq_true rfl) hf (fun _ _ h => m_N_keep h) (fun v5 S6 hf hb_v5 => ?_)
    refine x_jn (fun J8 => ∀ (v7 : Int32), J8 v7 = some rs → WX shN w x S6 30 [(0, .ref (w.1 0)), (1, .int p1), (2, .int v7), (3, .int v4)] []) hf (fun v7 hf => ?_) (fun J8 hJ8 hf => ?_)
    · refine x_iinc C 1 d_N_bits_30 3 rfl (by rw [hnL]; decide) hf (fun v9 => [(3, .int v9), (0, .ref (w.1 0)), (1, .int p1), (2, .int v7)]) (fun _ => rfl) (fun v9 hf => ?_)
      refine x_goto C d_N_bits_33 ?_
      refine x_sub [1, 2, 3, 0] rfl ?_
      exact ih S6 v7 v9 hf
    refine x_if_le C d_N_bits_25 hf (fun hf => ?_) (fun hf => ?_)
    · refine x_iload_n C d_N_bits_28 3 rfl ?_
      refine x_istore_n C d_N_bits_29 [(2, .int v4), (0, .ref (w.1 0)), (1, .int p1), (3, .int v4)] (by rw [hnL]; decide) rfl ?_
      refine x_sub [1, 2, 0, 3] rfl ?_
      exact hJ8 v4 hf
    exact hJ8 v3 hf
set_option maxRecDepth 4000 in
theorem m_N_bits {w : Ww} {l0 : Launch} {F : Nat} {S : St} {p1 : Int32} {r : Int32} {S9 : St}  (hf : N_bits F S p1 = some (r, S9)) : MI shN w l0 y_N_bits b_N_bits 4 .int 5 [.ref (w.1 0), .int p1] S r S9 bzT := by
  refine MI.of (by decide) (Nat.le_of_ble_eq_true rfl) rfl (fun _ _ => rfl) (fun x hnL C hR => ?_)
  rw [N_bits] at hf
  refine x_iload_n C d_N_bits_0 1 rfl ?_
  refine x_csr C d_N_bits_1 wd719 cm_N_isSlow [.int p1] rfl rfl (by decide) (Nat.le_of_ble_eq_true rfl) hf (fun _ h => m_N_isSlow h) (fun v1 hf hb_v1 => ?_)
  refine x_if_ne C d_N_bits_4 hf (fun hf => ?_) (fun hf => ?_)
  · refine x_iconst C d_N_bits_7 (-1) ?_
    exact hR _ _ _ _ d_N_bits_8.1 hf trivial
  refine x_iconst C d_N_bits_9 0 ?_
  refine x_istore_n C d_N_bits_10 [(2, .int 0), (0, .ref (w.1 0)), (1, .int p1)] (by rw [hnL]; decide) rfl ?_
  refine x_iconst C d_N_bits_11 1 ?_
  refine x_istore_n C d_N_bits_12 [(3, .int 1), (2, .int 0), (0, .ref (w.1 0)), (1, .int p1)] (by rw [hnL]; decide) rfl ?_
  refine x_sub [2, 3, 1, 0] rfl ?_
  exact w_N_bits_L13 hnL C hR  F S 0 1 hf
set_option maxRecDepth 4000 in
theorem w_K_lookFrom_L2 {w : Ww} {l0 : Launch} {x : Cx} {F : Nat} {p1 : Int32} {p2 : Int32} {rs : St}  (hnL : x.2.2.2.2.2.2.2.2.2.2.2.2 = 4) (C : XC shN w "NeighbourWires$Machine" b_K_lookFrom l0 2 x) (hR : RV shN w b_K_lookFrom rs x)   : ∀ (n : Nat) (S1 : St) (v2 : Int32), K_lookFrom_L2 F p1 p2 n S1 v2 = some rs → WX shN w x S1 2 [(0, .ref (w.1 17)), (1, .int p1), (2, .int p2), (3, .int v2)] [] := by
  intro n
  induction n with
  | zero => intro S1 v2 hf; cases hf
  | succ n ih =>
    intro S1 v2 hf
    rw [K_lookFrom_L2] at hf
    refine x_iload_n C d_K_lookFrom_2 3 rfl ?_
    refine x_aload_n C d_K_lookFrom_3 0 rfl ?_
    refine x_getr C d_K_lookFrom_4 f_K_seen wd301 rfl rfl ?_
    refine x_alen C (4) d_K_lookFrom_7 rfl rfl (by decide) ?_
    refine x_icmp_ge C d_K_lookFrom_8 hf (fun hf => ?_) (fun hf => ?_)
    · refine x_iload_n C d_K_lookFrom_11 3 rfl ?_
      refine x_aload_n C d_K_lookFrom_12 0 rfl ?_
      refine x_getr C d_K_lookFrom_13 f_K_kept wd300 rfl rfl ?_
      refine x_alen C (4) d_K_lookFrom_16 rfl rfl (by decide) ?_
      refine x_icmp_ge C d_K_lookFrom_17 hf (fun hf => ?_) (fun hf => ?_)
      · refine x_aload_n C d_K_lookFrom_20 0 rfl ?_
        refine x_getr C d_K_lookFrom_21 f_K_seen wd301 rfl rfl ?_
        refine x_iload_n C d_K_lookFrom_24 3 rfl ?_
        refine x_aload_n C d_K_lookFrom_25 0 rfl ?_
        refine x_getr C d_K_lookFrom_26 f_K_kept wd300 rfl rfl ?_
        refine x_iload_n C d_K_lookFrom_29 3 rfl ?_
        refine x_lald C d_K_lookFrom_30 rfl hf (fun hf => ?_)
        refine x_aload_n C d_K_lookFrom_31 0 rfl ?_
        refine x_iload_n C d_K_lookFrom_32 1 rfl ?_
        refine x_iload_n C d_K_lookFrom_33 2 rfl ?_
        refine x_iload_n C d_K_lookFrom_34 3 rfl ?_
        refine x_cvq C d_K_lookFrom_35 wd841 cm_K_nearPart rfl rfl [.int p1, .int p2, .int v2] rfl rfl (by decide) (Nat.le_of_ble_eq_true rfl) hf (fun _ h => m_K_nearPart h) (fun u3 hf => ?_)
        refine x_land C d_K_lookFrom_38 ?_
        refine x_last C d_K_lookFrom_39 rfl hf (fun S4 hf => ?_)
        refine x_iinc C 1 d_K_lookFrom_40 3 rfl (by rw [hnL]; decide) hf (fun v5 => [(3, .int v5), (0, .ref (w.1 17)), (1, .int p1), (2, .int p2)]) (fun _ => rfl) (fun v5 hf => ?_)
        refine x_goto C d_K_lookFrom_43 ?_
        refine x_sub [1, 2, 3, 0] rfl ?_
        exact ih S4 v5 hf
      exact hR _ _ _ d_K_lookFrom_46.1 hf
    exact hR _ _ _ d_K_lookFrom_46.1 hf
set_option maxRecDepth 4000 in
theorem m_K_lookFrom {w : Ww} {l0 : Launch} {F : Nat} {S : St} {p1 : Int32} {p2 : Int32} {rs : St}  (hf : K_lookFrom F S p1 p2 = some rs) : MV shN w l0 y_K_lookFrom b_K_lookFrom 4 2 [.ref (w.1 17), .int p1, .int p2] S rs := by
  refine MV.of (by decide) (Nat.le_of_ble_eq_true rfl) rfl (fun x hnL C hR => ?_)
  rw [K_lookFrom] at hf
  refine x_iconst C d_K_lookFrom_0 0 ?_
  refine x_istore_n C d_K_lookFrom_1 [(3, .int 0), (0, .ref (w.1 17)), (1, .int p1), (2, .int p2)] (by rw [hnL]; decide) rfl ?_
  refine x_sub [1, 2, 3, 0] rfl ?_
  exact w_K_lookFrom_L2 hnL C hR  F S 0 hf
set_option maxRecDepth 4000 in
theorem w_N_encode_L78 {w : Ww} {l0 : Launch} {x : Cx} {F : Nat} {p1 : Int32} {p2 : Int32} {p3 : Int32} {p4 : Int32} {rs : (Int32 × St)}  (hnL : x.2.2.2.2.2.2.2.2.2.2.2.2 = 9) (C : XC shN w "NeighbourWires" b_N_encode l0 5 x) (hR : RI shN w b_N_encode bzT rs x)   : ∀ (n : Nat) (S8 : St) (v9 : Int32) (v10 : Int32), N_encode_L78 F p1 p2 p3 p4 n S8 v9 v10 = some rs → WX shN w x S8 78 [(0, .ref (w.1 0)), (1, .int p1), (2, .int p2), (3, .int p3), (4, .int p4), (6, .int v9), (7, .int v10)] [] := by
  intro n
  induction n with
  | zero => intro S8 v9 v10 hf; cases hf
  | succ n ih =>
    intro S8 v9 v10 hf
    rw [N_encode_L78] at hf
    refine x_iload C d_N_encode_78 6 rfl ?_
    refine x_iload C d_N_encode_80 4 rfl ?_
    refine x_icmp_ge C d_N_encode_82 hf (fun hf => ?_) (fun hf => ?_)
    · refine x_iload_n C d_N_encode_85 3 rfl ?_
      refine x_iload_n C d_N_encode_86 2 rfl ?_
      refine x_iload C d_N_encode_87 6 rfl ?_
      refine x_imul C d_N_encode_89 ?_
      refine x_ishr C d_N_encode_90 ?_
      refine x_iconst C d_N_encode_91 1 ?_
      refine x_iload_n C d_N_encode_92 2 rfl ?_
      refine x_ishl C d_N_encode_93 ?_
      refine x_iconst C d_N_encode_94 1 ?_
      refine x_isub C d_N_encode_95 ?_
      refine x_iand C d_N_encode_96 ?_
      refine x_bi hf (fun v11 hf => ?_)
      refine x_istore C d_N_encode_97 [(8, .int v11), (0, .ref (w.1 0)), (1, .int p1), (2, .int p2), (3, .int p3), (4, .int p4), (6, .int v9), (7, .int v10)] (by rw [hnL]; decide) rfl ?_
      refine x_aload_n C d_N_encode_99 1 rfl ?_
      refine x_getr C d_N_encode_100 f_N_machine wd342 rfl rfl ?_
      refine x_iload_n C d_N_encode_103 2 rfl ?_
      refine x_iload C d_N_encode_104 6 rfl ?_
      refine x_cvv C d_N_encode_106 wd899 cm_K_lookFrom rfl rfl [.int p1, .int v9] rfl rfl (by decide) (Nat.le_of_ble_eq_true rfl) hf (fun _ h => m_K_lookFrom h) (fun S12 hf => ?_)
      refine x_aload_n C d_N_encode_109 1 rfl ?_
      refine x_getr C d_N_encode_110 f_N_machine wd342 rfl rfl ?_
      refine x_iload C d_N_encode_113 0 rfl ?_
      refine x_cvr C d_N_encode_115 wd883 cm_K_seenNumbered rfl rfl [.int v11] rfl rfl (by decide) (Nat.le_of_ble_eq_true rfl) hf (fun _ h => m_K_seenNumbered h) (fun v13 hf hb_v13 => ?_)
      refine x_istore C d_N_encode_118 [(6, .int v13), (8, .int v11), (0, .ref (w.1 0)), (1, .int p1), (2, .int p2), (3, .int p3), (4, .int p4), (7, .int v10)] (by rw [hnL]; decide) rfl ?_
      refine x_iinc C 1 d_N_encode_120 7 rfl (by rw [hnL]; decide) hf (fun v14 => [(7, .int v14), (6, .int v13), (8, .int v11), (0, .ref (w.1 0)), (1, .int p1), (2, .int p2), (3, .int p3), (4, .int p4)]) (fun _ => rfl) (fun v14 hf => ?_)
      refine x_goto C d_N_encode_123 ?_
      refine x_sub [3, 4, 5, 6, 7, 1, 0] rfl ?_
      exact ih S12 v13 v14 hf
    refine x_iload C d_N_encode_126 5 rfl ?_
    exact hR _ _ _ _ d_N_encode_128.1 hf trivial
set_option maxRecDepth 4000 in
theorem m_N_encode {w : Ww} {l0 : Launch} {F : Nat} {S : St} {p1 : Int32} {p2 : Int32} {p3 : Int32} {p4 : Int32} {r : Int32} {S9 : St}  (hf : N_encode F S p1 p2 p3 p4 = some (r, S9)) : MI shN w l0 y_N_encode b_N_encode 9 .int 5 [.ref (w.1 0), .int p1, .int p2, .int p3, .int p4] S r S9 bzT := by
  refine MI.of (by decide) (Nat.le_of_ble_eq_true rfl) rfl (fun _ _ => rfl) (fun x hnL C hR => ?_)
  rw [N_encode] at hf
  refine x_iload C d_N_encode_0 4 rfl ?_
  refine x_jn (fun J2 => ∀ (v1 : Int32), J2 v1 = some (r, S9) → WX shN w x S 17 [(0, .ref (w.1 0)), (1, .int p1), (2, .int p2), (3, .int p3), (4, .int p4)] [.int v1]) hf (fun v1 hf => ?_) (fun J2 hJ2 hf => ?_)
  · refine x_istore C d_N_encode_17 [(5, .int v1), (0, .ref (w.1 0)), (1, .int p1), (2, .int p2), (3, .int p3), (4, .int p4)] (by rw [hnL]; decide) rfl ?_
    refine x_iload_n C d_N_encode_19 2 rfl ?_
    refine x_csr C d_N_encode_20 wd719 cm_N_isSlow [.int p1] rfl rfl (by decide) (Nat.le_of_ble_eq_true rfl) hf (fun _ h => m_N_isSlow h) (fun v3 hf hb_v3 => ?_)
    refine x_if_eq C d_N_encode_23 hf (fun hf => ?_) (fun hf => ?_)
    · refine x_iconst C d_N_encode_51 (-1) ?_
      exact hR _ _ _ _ d_N_encode_52.1 hf trivial
    refine x_iload_n C d_N_encode_26 3 rfl ?_
    refine x_csr C d_N_encode_27 wd855 cm_N_isBits [.int p2] rfl rfl (by decide) (Nat.le_of_ble_eq_true rfl) hf (fun _ h => m_N_isBits h) (fun v4 hf hb_v4 => ?_)
    refine x_if_eq C d_N_encode_30 hf (fun hf => ?_) (fun hf => ?_)
    · refine x_iconst C d_N_encode_51 (-1) ?_
      exact hR _ _ _ _ d_N_encode_52.1 hf trivial
    refine x_iload_n C d_N_encode_33 4 rfl ?_
    refine x_if_lt C d_N_encode_34 hf (fun hf => ?_) (fun hf => ?_)
    · refine x_iconst C d_N_encode_51 (-1) ?_
      exact hR _ _ _ _ d_N_encode_52.1 hf trivial
    refine x_iload C d_N_encode_37 0 rfl ?_
    refine x_if_eq C d_N_encode_39 hf (fun hf => ?_) (fun hf => ?_)
    · refine x_iconst C d_N_encode_51 (-1) ?_
      exact hR _ _ _ _ d_N_encode_52.1 hf trivial
    refine x_iload_n C d_N_encode_42 3 rfl ?_
    refine x_iload C d_N_encode_43 5 rfl ?_
    refine x_imul C d_N_encode_45 ?_
    refine x_bipush C d_N_encode_46 31 ?_
    refine x_icmp_le C d_N_encode_48 hf (fun hf => ?_) (fun hf => ?_)
    · refine x_iconst C d_N_encode_51 (-1) ?_
      exact hR _ _ _ _ d_N_encode_52.1 hf trivial
    refine x_aload_n C d_N_encode_53 1 rfl ?_
    refine x_iload_n C d_N_encode_54 2 rfl ?_
    refine x_iload_n C d_N_encode_55 3 rfl ?_
    refine x_cvi C d_N_encode_56 wd858 cm_N_keep rfl rfl [.int p1, .int p2] rfl rfl (by decide) (Nat.le_of_ble_eq_true rfl) hf (fun _ _ h => m_N_keep h) (fun v5 S6 hf hb_v5 => ?_)
    refine x_if_ne C d_N_encode_59 hf (fun hf => ?_) (fun hf => ?_)
    · refine x_bipush C d_N_encode_62 (-2) ?_
      exact hR _ _ _ _ d_N_encode_64.1 hf trivial
    refine x_aload_n C d_N_encode_65 1 rfl ?_
    refine x_getr C d_N_encode_66 f_N_machine wd342 rfl rfl ?_
    refine x_iconst C d_N_encode_69 0 ?_
    refine x_cvr C d_N_encode_70 wd883 cm_K_seenNumbered rfl rfl [.int 0] rfl rfl (by decide) (Nat.le_of_ble_eq_true rfl) hf (fun _ h => m_K_seenNumbered h) (fun v7 hf hb_v7 => ?_)
    refine x_istore C d_N_encode_73 [(6, .int v7), (5, .int v1), (0, .ref (w.1 0)), (1, .int p1), (2, .int p2), (3, .int p3), (4, .int p4)] (by rw [hnL]; decide) rfl ?_
    refine x_iconst C d_N_encode_75 0 ?_
    refine x_istore C d_N_encode_76 [(7, .int 0), (6, .int v7), (5, .int v1), (0, .ref (w.1 0)), (1, .int p1), (2, .int p2), (3, .int p3), (4, .int p4)] (by rw [hnL]; decide) rfl ?_
    refine x_sub [3, 4, 5, 6, 7, 1, 0] rfl ?_
    exact w_N_encode_L78 hnL C hR  F S6 v7 0 hf
  refine x_jn (fun J15 => J15  = some (r, S9) → WX shN w x S 16 [(0, .ref (w.1 0)), (1, .int p1), (2, .int p2), (3, .int p3), (4, .int p4)] []) hf (fun hf => ?_) (fun J15 hJ15 hf => ?_)
  · refine x_iconst C d_N_encode_16 0 ?_
    exact hJ2 0 hf
  refine x_if_lt C d_N_encode_2 hf (fun hf => ?_) (fun hf => ?_)
  · exact hJ15  hf
  refine x_iload C d_N_encode_5 4 rfl ?_
  refine x_bipush C d_N_encode_7 8 ?_
  refine x_icmp_gt C d_N_encode_9 hf (fun hf => ?_) (fun hf => ?_)
  · exact hJ15  hf
  refine x_iconst C d_N_encode_12 1 ?_
  refine x_goto C d_N_encode_13 ?_
  exact hJ2 1 hf
set_option maxRecDepth 4000 in
theorem w_K_seenBelow_L4 {w : Ww} {l0 : Launch} {x : Cx} {F : Nat} {p1 : Int32} {S : St} {rs : Int32}  (hnL : x.2.2.2.2.2.2.2.2.2.2.2.2 = 4) (C : XC shN w "NeighbourWires$Machine" b_K_seenBelow l0 2 x) (hR : RI shN w b_K_seenBelow bzT (rs, S) x)   : ∀ (n : Nat) (v1 : Int32) (v2 : Int32), K_seenBelow_L4 F p1 S n v1 v2 = some rs → WX shN w x S 4 [(0, .ref (w.1 17)), (1, .int p1), (2, .int v1), (3, .int v2)] [] := by
  intro n
  induction n with
  | zero => intro v1 v2 hf; cases hf
  | succ n ih =>
    intro v1 v2 hf
    rw [K_seenBelow_L4] at hf
    refine x_iload_n C d_K_seenBelow_4 3 rfl ?_
    refine x_iload_n C d_K_seenBelow_5 1 rfl ?_
    refine x_icmp_ge C d_K_seenBelow_6 hf (fun hf => ?_) (fun hf => ?_)
    · refine x_iload_n C d_K_seenBelow_9 3 rfl ?_
      refine x_aload_n C d_K_seenBelow_10 0 rfl ?_
      refine x_get C d_K_seenBelow_11 f_K_words wd303 rfl rfl ?_
      refine x_icmp_ge C d_K_seenBelow_14 hf (fun hf => ?_) (fun hf => ?_)
      · refine x_aload_n C d_K_seenBelow_17 0 rfl ?_
        refine x_iload_n C d_K_seenBelow_18 3 rfl ?_
        refine x_cvr C d_K_seenBelow_19 wd887 cm_K_isSeen rfl rfl [.int v2] rfl rfl (by decide) (Nat.le_of_ble_eq_true rfl) hf (fun _ h => m_K_isSeen h) (fun v3 hf hb_v3 => ?_)
        refine x_jn (fun J5 => ∀ (v4 : Int32), J5 v4 = some rs → WX shN w x S 28 [(0, .ref (w.1 17)), (1, .int p1), (2, .int v4), (3, .int v2)] []) hf (fun v4 hf => ?_) (fun J5 hJ5 hf => ?_)
        · refine x_iinc C 1 d_K_seenBelow_28 3 rfl (by rw [hnL]; decide) hf (fun v6 => [(3, .int v6), (0, .ref (w.1 17)), (1, .int p1), (2, .int v4)]) (fun _ => rfl) (fun v6 hf => ?_)
          refine x_goto C d_K_seenBelow_31 ?_
          refine x_sub [1, 2, 3, 0] rfl ?_
          exact ih v4 v6 hf
        refine x_if_eq C d_K_seenBelow_22 hf (fun hf => ?_) (fun hf => ?_)
        · exact hJ5 v1 hf
        refine x_iinc C 1 d_K_seenBelow_25 2 rfl (by rw [hnL]; decide) hf (fun v7 => [(2, .int v7), (0, .ref (w.1 17)), (1, .int p1), (3, .int v2)]) (fun _ => rfl) (fun v7 hf => ?_)
        refine x_sub [1, 2, 0, 3] rfl ?_
        exact hJ5 v7 hf
      refine x_iload_n C d_K_seenBelow_34 2 rfl ?_
      exact x_retR hR d_K_seenBelow_35 hf trivial
    refine x_iload_n C d_K_seenBelow_34 2 rfl ?_
    exact x_retR hR d_K_seenBelow_35 hf trivial
set_option maxRecDepth 4000 in
theorem m_K_seenBelow {w : Ww} {l0 : Launch} {F : Nat} {S : St} {p1 : Int32} {rs : Int32}  (hf : K_seenBelow F S p1 = some rs) : MI shN w l0 y_K_seenBelow b_K_seenBelow 4 .int 2 [.ref (w.1 17), .int p1] S rs S bzT := by
  refine MI.of (by decide) (Nat.le_of_ble_eq_true rfl) rfl (fun _ _ => rfl) (fun x hnL C hR => ?_)
  rw [K_seenBelow] at hf
  refine x_iconst C d_K_seenBelow_0 0 ?_
  refine x_istore_n C d_K_seenBelow_1 [(2, .int 0), (0, .ref (w.1 17)), (1, .int p1)] (by rw [hnL]; decide) rfl ?_
  refine x_iconst C d_K_seenBelow_2 0 ?_
  refine x_istore_n C d_K_seenBelow_3 [(3, .int 0), (2, .int 0), (0, .ref (w.1 17)), (1, .int p1)] (by rw [hnL]; decide) rfl ?_
  refine x_sub [2, 3, 1, 0] rfl ?_
  exact w_K_seenBelow_L4 hnL C hR  F 0 0 hf
set_option maxRecDepth 4000 in
theorem m_N_decode {w : Ww} {l0 : Launch} {F : Nat} {S : St} {p1 : Int32} {p2 : Int32} {p3 : Int32} {p4 : Int32} {r : Int32} {S9 : St}  (hf : N_decode F S p1 p2 p3 p4 = some (r, S9)) : MI shN w l0 y_N_decode b_N_decode 6 .int 5 [.ref (w.1 0), .int p1, .int p2, .int p3, .int p4] S r S9 bzT := by
  refine MI.of (by decide) (Nat.le_of_ble_eq_true rfl) rfl (fun _ _ => rfl) (fun x hnL C hR => ?_)
  rw [N_decode] at hf
  refine x_iload_n C d_N_decode_0 1 rfl ?_
  refine x_csr C d_N_decode_1 wd719 cm_N_isSlow [.int p1] rfl rfl (by decide) (Nat.le_of_ble_eq_true rfl) hf (fun _ h => m_N_isSlow h) (fun v1 hf hb_v1 => ?_)
  refine x_if_eq C d_N_decode_4 hf (fun hf => ?_) (fun hf => ?_)
  · refine x_iconst C d_N_decode_37 (-1) ?_
    exact hR _ _ _ _ d_N_decode_38.1 hf trivial
  refine x_iload_n C d_N_decode_7 2 rfl ?_
  refine x_csr C d_N_decode_8 wd855 cm_N_isBits [.int p2] rfl rfl (by decide) (Nat.le_of_ble_eq_true rfl) hf (fun _ h => m_N_isBits h) (fun v2 hf hb_v2 => ?_)
  refine x_if_eq C d_N_decode_11 hf (fun hf => ?_) (fun hf => ?_)
  · refine x_iconst C d_N_decode_37 (-1) ?_
    exact hR _ _ _ _ d_N_decode_38.1 hf trivial
  refine x_aload_n C d_N_decode_14 0 rfl ?_
  refine x_getr C d_N_decode_15 f_N_plan wd337 rfl rfl ?_
  refine x_iload_n C d_N_decode_18 3 rfl ?_
  refine x_cvr C d_N_decode_19 wd587 cm_P_isWord rfl rfl [.int p3] rfl rfl (by decide) (Nat.le_of_ble_eq_true rfl) hf (fun _ h => m_P_isWord isP1 h) (fun v3 hf hb_v3 => ?_)
  refine x_if_eq C d_N_decode_22 hf (fun hf => ?_) (fun hf => ?_)
  · refine x_iconst C d_N_decode_37 (-1) ?_
    exact hR _ _ _ _ d_N_decode_38.1 hf trivial
  refine x_aload_n C d_N_decode_25 0 rfl ?_
  refine x_getr C d_N_decode_26 f_N_plan wd337 rfl rfl ?_
  refine x_iload C d_N_decode_29 4 rfl ?_
  refine x_cvr C d_N_decode_31 wd587 cm_P_isWord rfl rfl [.int p4] rfl rfl (by decide) (Nat.le_of_ble_eq_true rfl) hf (fun _ h => m_P_isWord isP1 h) (fun v4 hf hb_v4 => ?_)
  refine x_if_ne C d_N_decode_34 hf (fun hf => ?_) (fun hf => ?_)
  · refine x_iconst C d_N_decode_37 (-1) ?_
    exact hR _ _ _ _ d_N_decode_38.1 hf trivial
  refine x_aload_n C d_N_decode_39 0 rfl ?_
  refine x_iload_n C d_N_decode_40 1 rfl ?_
  refine x_iload_n C d_N_decode_41 2 rfl ?_
  refine x_cvi C d_N_decode_42 wd858 cm_N_keep rfl rfl [.int p1, .int p2] rfl rfl (by decide) (Nat.le_of_ble_eq_true rfl) hf (fun _ _ h => m_N_keep h) (fun v5 S6 hf hb_v5 => ?_)
  refine x_if_ne C d_N_decode_45 hf (fun hf => ?_) (fun hf => ?_)
  · refine x_bipush C d_N_decode_48 (-2) ?_
    exact hR _ _ _ _ d_N_decode_50.1 hf trivial
  refine x_aload_n C d_N_decode_51 0 rfl ?_
  refine x_getr C d_N_decode_52 f_N_machine wd342 rfl rfl ?_
  refine x_iload_n C d_N_decode_55 3 rfl ?_
  refine x_cvr C d_N_decode_56 wd907 cm_K_isSeen rfl rfl [.int p3] rfl rfl (by decide) (Nat.le_of_ble_eq_true rfl) hf (fun _ h => m_K_isSeen h) (fun v7 hf hb_v7 => ?_)
  refine x_if_ne C d_N_decode_59 hf (fun hf => ?_) (fun hf => ?_)
  · refine x_bipush C d_N_decode_62 (-4) ?_
    exact hR _ _ _ _ d_N_decode_64.1 hf trivial
  refine x_aload_n C d_N_decode_65 0 rfl ?_
  refine x_getr C d_N_decode_66 f_N_machine wd342 rfl rfl ?_
  refine x_iload_n C d_N_decode_69 1 rfl ?_
  refine x_iload_n C d_N_decode_70 3 rfl ?_
  refine x_cvv C d_N_decode_71 wd899 cm_K_lookFrom rfl rfl [.int p1, .int p3] rfl rfl (by decide) (Nat.le_of_ble_eq_true rfl) hf (fun _ h => m_K_lookFrom h) (fun S8 hf => ?_)
  refine x_aload_n C d_N_decode_74 0 rfl ?_
  refine x_getr C d_N_decode_75 f_N_machine wd342 rfl rfl ?_
  refine x_iload C d_N_decode_78 4 rfl ?_
  refine x_cvr C d_N_decode_80 wd908 cm_K_seenBelow rfl rfl [.int p4] rfl rfl (by decide) (Nat.le_of_ble_eq_true rfl) hf (fun _ h => m_K_seenBelow h) (fun v9 hf hb_v9 => ?_)
  refine x_istore C d_N_decode_83 [(5, .int v9), (0, .ref (w.1 0)), (1, .int p1), (2, .int p2), (3, .int p3), (4, .int p4)] (by rw [hnL]; decide) rfl ?_
  refine x_aload_n C d_N_decode_85 1 rfl ?_
  refine x_getr C d_N_decode_86 f_N_machine wd342 rfl rfl ?_
  refine x_iload C d_N_decode_89 5 rfl ?_
  refine x_cvr C d_N_decode_91 wd907 cm_K_isSeen rfl rfl [.int p4] rfl rfl (by decide) (Nat.le_of_ble_eq_true rfl) hf (fun _ h => m_K_isSeen h) (fun v10 hf hb_v10 => ?_)
  refine x_jn (fun J11 => J11  = some (r, S9) → WX shN w x S8 110 [] []) hf (fun hf => ?_) (fun J11 hJ11 hf => ?_)
  · refine x_bipush C d_N_decode_110 (-4) ?_
    exact hR _ _ _ _ d_N_decode_112.1 hf trivial
  refine x_if_eq C d_N_decode_94 hf (fun hf => ?_) (fun hf => ?_)
  · refine x_sub [] rfl ?_
    exact hJ11  hf
  refine x_iload C d_N_decode_97 0 rfl ?_
  refine x_iconst C d_N_decode_99 1 ?_
  refine x_iload_n C d_N_decode_100 3 rfl ?_
  refine x_ishl C d_N_decode_101 ?_
  refine x_icmp_ge C d_N_decode_102 hf (fun hf => ?_) (fun hf => ?_)
  · refine x_iload C d_N_decode_105 0 rfl ?_
    refine x_goto C d_N_decode_107 ?_
    exact hR _ _ _ _ d_N_decode_112.1 hf trivial
  refine x_sub [] rfl ?_
  exact hJ11  hf
set_option maxRecDepth 4000 in
theorem m_N_isSheet {w : Ww} {l0 : Launch} {F : Nat} {S : St} {p1 : Int32} {rs : Int32}  (hf : N_isSheet F S p1 = some rs) : MI shN w l0 y_N_isSheet b_N_isSheet 1 .boolean 0 [.int p1] S rs S bz01 := by
  refine MI.of (by decide) (Nat.le_of_ble_eq_true rfl) rfl (fun v hb => by rcases hb with rfl | rfl <;> decide) (fun x hnL C hR => ?_)
  rw [N_isSheet] at hf
  refine x_iload_n C d_N_isSheet_0 0 rfl ?_
  refine x_jn (fun J1 => J1  = some rs → WX shN w x S 13 [] []) hf (fun hf => ?_) (fun J1 hJ1 hf => ?_)
  · refine x_iconst C d_N_isSheet_13 0 ?_
    exact x_retR hR d_N_isSheet_14 hf (Or.inl rfl)
  refine x_if_lt C d_N_isSheet_1 hf (fun hf => ?_) (fun hf => ?_)
  · refine x_sub [] rfl ?_
    exact hJ1  hf
  refine x_iload_n C d_N_isSheet_4 0 rfl ?_
  refine x_iconst C d_N_isSheet_5 4 ?_
  refine x_icmp_ge C d_N_isSheet_6 hf (fun hf => ?_) (fun hf => ?_)
  · refine x_iconst C d_N_isSheet_9 1 ?_
    refine x_goto C d_N_isSheet_10 ?_
    exact x_retR hR d_N_isSheet_14 hf (Or.inr rfl)
  refine x_sub [] rfl ?_
  exact hJ1  hf
set_option maxRecDepth 4000 in
theorem m_N_isLane {w : Ww} {l0 : Launch} {F : Nat} {S : St} {p1 : Int32} {rs : Int32}  (hf : N_isLane F S p1 = some rs) : MI shN w l0 y_N_isLane b_N_isLane 1 .boolean 0 [.int p1] S rs S bz01 := by
  refine MI.of (by decide) (Nat.le_of_ble_eq_true rfl) rfl (fun v hb => by rcases hb with rfl | rfl <;> decide) (fun x hnL C hR => ?_)
  rw [N_isLane] at hf
  refine x_iload_n C d_N_isLane_0 0 rfl ?_
  refine x_jn (fun J1 => J1  = some rs → WX shN w x S 13 [] []) hf (fun hf => ?_) (fun J1 hJ1 hf => ?_)
  · refine x_iconst C d_N_isLane_13 0 ?_
    exact x_retR hR d_N_isLane_14 hf (Or.inl rfl)
  refine x_if_lt C d_N_isLane_1 hf (fun hf => ?_) (fun hf => ?_)
  · refine x_sub [] rfl ?_
    exact hJ1  hf
  refine x_iload_n C d_N_isLane_4 0 rfl ?_
  refine x_iconst C d_N_isLane_5 2 ?_
  refine x_icmp_gt C d_N_isLane_6 hf (fun hf => ?_) (fun hf => ?_)
  · refine x_sub [] rfl ?_
    exact hJ1  hf
  refine x_iconst C d_N_isLane_9 1 ?_
  refine x_goto C d_N_isLane_10 ?_
  exact x_retR hR d_N_isLane_14 hf (Or.inr rfl)
set_option maxRecDepth 4000 in
theorem w_H_renew_L12 {w : Ww} {l0 : Launch} {x : Cx} {F : Nat} {H : Nat} {rs : St}  (hnL : x.2.2.2.2.2.2.2.2.2.2.2.2 = 4) (C : XC shN w "NeighbourWires$Sheet" b_H_renew l0 0 x) (hR : RV shN w b_H_renew rs x) (hH : isH H)  : ∀ (n : Nat) (S3 : St) (v4 : Int32), H_renew_L12 F H n S3 v4 = some rs → WX shN w x S3 12 [(0, .ref (w.1 H)), (3, .int v4)] [] := by
  intro n
  induction n with
  | zero => intro S3 v4 hf; cases hf
  | succ n ih =>
    intro S3 v4 hf
    rw [H_renew_L12] at hf
    refine x_iload_n C d_H_renew_12 1 rfl ?_
    refine x_aload_n C d_H_renew_13 0 rfl ?_
    refine x_getr C d_H_renew_14 f_H_cells wd329 hH.1 rfl ?_
    refine x_alen C (40) d_H_renew_17 hH.2 rfl (by decide) ?_
    refine x_icmp_ge C d_H_renew_18 hf (fun hf => ?_) (fun hf => ?_)
    · refine x_aload_n C d_H_renew_21 0 rfl ?_
      refine x_getr C d_H_renew_22 f_H_cells wd329 hH.1 rfl ?_
      refine x_iload_n C d_H_renew_25 1 rfl ?_
      refine x_iconst C d_H_renew_26 0 ?_
      refine x_iast C d_H_renew_27 hH.2 hf (fun S5 hf => ?_)
      refine x_iinc C 1 d_H_renew_28 1 rfl (by rw [hnL]; decide) hf (fun v6 => [(3, .int v6), (0, .ref (w.1 H))]) (fun _ => rfl) (fun v6 hf => ?_)
      refine x_goto C d_H_renew_31 ?_
      refine x_sub [1, 0] rfl ?_
      exact ih S5 v6 hf
    exact hR _ _ _ d_H_renew_34.1 hf
set_option maxRecDepth 4000 in
theorem m_H_renew {w : Ww} {l0 : Launch} {F : Nat} {H : Nat} {S : St} {p1 : Int32} {p2 : Int32} {rs : St} (hH : isH H) (hf : H_renew F H S p1 p2 = some rs) : MV shN w l0 y_H_renew b_H_renew 4 0 [.ref (w.1 H), .int p1, .int p2] S rs := by
  refine MV.of (by decide) (Nat.le_of_ble_eq_true rfl) rfl (fun x hnL C hR => ?_)
  rw [H_renew] at hf
  refine x_aload_n C d_H_renew_0 0 rfl ?_
  refine x_iload_n C d_H_renew_1 1 rfl ?_
  refine x_put C d_H_renew_2 f_H_lane wd325 hH.1 rfl hf (fun S1 hf => ?_)
  refine x_aload_n C d_H_renew_5 0 rfl ?_
  refine x_iload_n C d_H_renew_6 2 rfl ?_
  refine x_put C d_H_renew_7 f_H_size wd327 hH.1 rfl hf (fun S2 hf => ?_)
  refine x_iconst C d_H_renew_10 0 ?_
  refine x_istore_n C d_H_renew_11 [(3, .int 0), (0, .ref (w.1 H)), (1, .int p1), (2, .int p2)] (by rw [hnL]; decide) rfl ?_
  refine x_sub [1, 0] rfl ?_
  exact w_H_renew_L12 hnL C hR hH  F S2 0 hf
set_option maxRecDepth 4000 in
theorem m_N_sheet {w : Ww} {l0 : Launch} {F : Nat} {S : St} {p1 : Int32} {p2 : Int32} {p3 : Int32} {r : Int32} {S9 : St}  (hf : N_sheet F S p1 p2 p3 = some (r, S9)) : MI shN w l0 y_N_sheet b_N_sheet 4 .int 1 [.ref (w.1 0), .int p1, .int p2, .int p3] S r S9 bzT := by
  refine MI.of (by decide) (Nat.le_of_ble_eq_true rfl) rfl (fun _ _ => rfl) (fun x hnL C hR => ?_)
  rw [N_sheet] at hf
  refine x_iload_n C d_N_sheet_0 1 rfl ?_
  refine x_csr C d_N_sheet_1 wd916 cm_N_isSheet [.int p1] rfl rfl (by decide) (Nat.le_of_ble_eq_true rfl) hf (fun _ h => m_N_isSheet h) (fun v1 hf hb_v1 => ?_)
  refine x_if_eq C d_N_sheet_4 hf (fun hf => ?_) (fun hf => ?_)
  · refine x_iconst C d_N_sheet_20 (-1) ?_
    exact hR _ _ _ _ d_N_sheet_21.1 hf trivial
  refine x_iload_n C d_N_sheet_7 2 rfl ?_
  refine x_csr C d_N_sheet_8 wd919 cm_N_isLane [.int p2] rfl rfl (by decide) (Nat.le_of_ble_eq_true rfl) hf (fun _ h => m_N_isLane h) (fun v2 hf hb_v2 => ?_)
  refine x_if_eq C d_N_sheet_11 hf (fun hf => ?_) (fun hf => ?_)
  · refine x_iconst C d_N_sheet_20 (-1) ?_
    exact hR _ _ _ _ d_N_sheet_21.1 hf trivial
  refine x_iload_n C d_N_sheet_14 3 rfl ?_
  refine x_bipush C d_N_sheet_15 40 ?_
  refine x_icmp_le C d_N_sheet_17 hf (fun hf => ?_) (fun hf => ?_)
  · refine x_iconst C d_N_sheet_20 (-1) ?_
    exact hR _ _ _ _ d_N_sheet_21.1 hf trivial
  refine x_iload_n C d_N_sheet_22 3 rfl ?_
  refine x_if_ge C d_N_sheet_23 hf (fun hf => ?_) (fun hf => ?_)
  · refine x_bipush C d_N_sheet_26 (-14) ?_
    exact hR _ _ _ _ d_N_sheet_28.1 hf trivial
  refine x_aload_n C d_N_sheet_29 0 rfl ?_
  refine x_getr C d_N_sheet_30 f_N_sheets wd343 rfl rfl ?_
  refine x_iload_n C d_N_sheet_33 1 rfl ?_
  refine x_aald C (fun j => 22 + 2 * j) d_N_sheet_34 rfl (by decide) hf (fun h3 hf => ?_)
  refine x_iload_n C d_N_sheet_35 2 rfl ?_
  refine x_iload_n C d_N_sheet_36 3 rfl ?_
  refine x_cvv C d_N_sheet_37 wd922 cm_H_renew rfl (isH_of h3).1 [.int p2, .int p3] rfl rfl (by decide) (Nat.le_of_ble_eq_true rfl) hf (fun _ h => m_H_renew (isH_of h3) h) (fun S4 hf => ?_)
  refine x_iconst C d_N_sheet_40 1 ?_
  exact hR _ _ _ _ d_N_sheet_41.1 hf trivial
set_option maxRecDepth 4000 in
theorem m_H_isNothing {w : Ww} {l0 : Launch} {F : Nat} {H : Nat} {S : St} {rs : Int32} (hH : isH H) (hf : H_isNothing F H S = some rs) : MI shN w l0 y_H_isNothing b_H_isNothing 1 .boolean 0 [.ref (w.1 H)] S rs S bz01 := by
  refine MI.of (by decide) (Nat.le_of_ble_eq_true rfl) rfl (fun v hb => by rcases hb with rfl | rfl <;> decide) (fun x hnL C hR => ?_)
  rw [H_isNothing] at hf
  refine x_aload_n C d_H_isNothing_0 0 rfl ?_
  refine x_get C d_H_isNothing_1 f_H_lane wd325 hH.1 rfl ?_
  refine x_iconst C d_H_isNothing_4 (-1) ?_
  refine x_icmp_ne C d_H_isNothing_5 hf (fun hf => ?_) (fun hf => ?_)
  · refine x_iconst C d_H_isNothing_8 1 ?_
    refine x_goto C d_H_isNothing_9 ?_
    exact x_retR hR d_H_isNothing_13 hf (Or.inr rfl)
  refine x_iconst C d_H_isNothing_12 0 ?_
  exact x_retR hR d_H_isNothing_13 hf (Or.inl rfl)
set_option maxRecDepth 4000 in
theorem m_H_faultAs {w : Ww} {l0 : Launch} {F : Nat} {H : Nat} {S : St} {p1 : Int32} {p2 : Int32} {rs : Int32} (hH : isH H) (hf : H_faultAs F H S p1 p2 = some rs) : MI shN w l0 y_H_faultAs b_H_faultAs 3 .int 1 [.ref (w.1 H), .int p1, .int p2] S rs S bzT := by
  refine MI.of (by decide) (Nat.le_of_ble_eq_true rfl) rfl (fun _ _ => rfl) (fun x hnL C hR => ?_)
  rw [H_faultAs] at hf
  refine x_aload_n C d_H_faultAs_0 0 rfl ?_
  refine x_cvr C d_H_faultAs_1 wd934 cm_H_isNothing rfl hH.1 [] rfl rfl (by decide) (Nat.le_of_ble_eq_true rfl) hf (fun _ h => m_H_isNothing hH h) (fun v1 hf hb_v1 => ?_)
  refine x_if_eq C d_H_faultAs_4 hf (fun hf => ?_) (fun hf => ?_)
  · refine x_iload_n C d_H_faultAs_9 1 rfl ?_
    refine x_aload_n C d_H_faultAs_10 0 rfl ?_
    refine x_get C d_H_faultAs_11 f_H_lane wd325 hH.1 rfl ?_
    refine x_icmp_eq C d_H_faultAs_14 hf (fun hf => ?_) (fun hf => ?_)
    · refine x_iload_n C d_H_faultAs_19 2 rfl ?_
      refine x_jn (fun J2 => J2  = some rs → WX shN w x S 31 [] []) hf (fun hf => ?_) (fun J2 hJ2 hf => ?_)
      · refine x_iconst C d_H_faultAs_31 2 ?_
        refine x_goto C d_H_faultAs_32 ?_
        exact x_retR hR d_H_faultAs_36 hf trivial
      refine x_if_lt C d_H_faultAs_20 hf (fun hf => ?_) (fun hf => ?_)
      · refine x_sub [] rfl ?_
        exact hJ2  hf
      refine x_iload_n C d_H_faultAs_23 2 rfl ?_
      refine x_aload_n C d_H_faultAs_24 0 rfl ?_
      refine x_get C d_H_faultAs_25 f_H_size wd327 hH.1 rfl ?_
      refine x_icmp_lt C d_H_faultAs_28 hf (fun hf => ?_) (fun hf => ?_)
      · refine x_iconst C d_H_faultAs_35 0 ?_
        exact x_retR hR d_H_faultAs_36 hf trivial
      refine x_sub [] rfl ?_
      exact hJ2  hf
    refine x_iconst C d_H_faultAs_17 3 ?_
    exact x_retR hR d_H_faultAs_18 hf trivial
  refine x_iconst C d_H_faultAs_7 1 ?_
  exact x_retR hR d_H_faultAs_8 hf trivial
set_option maxRecDepth 4000 in
theorem m_H_put {w : Ww} {l0 : Launch} {F : Nat} {H : Nat} {S : St} {p1 : Int32} {p2 : Int32} {rs : St} (hH : isH H) (hf : H_put F H S p1 p2 = some rs) : MV shN w l0 y_H_put b_H_put 3 0 [.ref (w.1 H), .int p1, .int p2] S rs := by
  refine MV.of (by decide) (Nat.le_of_ble_eq_true rfl) rfl (fun x hnL C hR => ?_)
  rw [H_put] at hf
  refine x_iload_n C d_H_put_0 1 rfl ?_
  refine x_if_lt C d_H_put_1 hf (fun hf => ?_) (fun hf => ?_)
  · exact hR _ _ _ d_H_put_45.1 hf
  refine x_iload_n C d_H_put_4 1 rfl ?_
  refine x_aload_n C d_H_put_5 0 rfl ?_
  refine x_getr C d_H_put_6 f_H_cells wd329 hH.1 rfl ?_
  refine x_alen C (40) d_H_put_9 hH.2 rfl (by decide) ?_
  refine x_icmp_ge C d_H_put_10 hf (fun hf => ?_) (fun hf => ?_)
  · refine x_aload_n C d_H_put_13 0 rfl ?_
    refine x_getr C d_H_put_14 f_H_cells wd329 hH.1 rfl ?_
    refine x_iload_n C d_H_put_17 1 rfl ?_
    refine x_aload_n C d_H_put_18 0 rfl ?_
    refine x_get C d_H_put_19 f_H_lane wd325 hH.1 rfl ?_
    refine x_jn (fun J2 => ∀ (v1 : Int32), J2 v1 = some rs → WX shN w x S 44 [] [.int v1, .int p1, .ref (w.1 (H + 1))]) hf (fun v1 hf => ?_) (fun J2 hJ2 hf => ?_)
    · refine x_iast C d_H_put_44 hH.2 hf (fun S3 hf => ?_)
      exact hR _ _ _ d_H_put_45.1 hf
    refine x_if_ne C d_H_put_22 hf (fun hf => ?_) (fun hf => ?_)
    · refine x_iload_n C d_H_put_25 2 rfl ?_
      refine x_i2b C d_H_put_26 ?_
      refine x_goto C d_H_put_27 ?_
      refine x_sub [] rfl ?_
      exact hJ2 (jb p2) hf
    refine x_aload_n C d_H_put_30 0 rfl ?_
    refine x_get C d_H_put_31 f_H_lane wd325 hH.1 rfl ?_
    refine x_iconst C d_H_put_34 1 ?_
    refine x_icmp_ne C d_H_put_35 hf (fun hf => ?_) (fun hf => ?_)
    · refine x_iload_n C d_H_put_38 2 rfl ?_
      refine x_i2s C d_H_put_39 ?_
      refine x_goto C d_H_put_40 ?_
      refine x_sub [] rfl ?_
      exact hJ2 (js p2) hf
    refine x_iload_n C d_H_put_43 2 rfl ?_
    refine x_sub [] rfl ?_
    exact hJ2 p2 hf
  exact hR _ _ _ d_H_put_45.1 hf
set_option maxRecDepth 4000 in
theorem m_N_lay {w : Ww} {l0 : Launch} {F : Nat} {S : St} {p1 : Int32} {p2 : Int32} {p3 : Int32} {r : Int32} {S9 : St}  (hf : N_lay F S p1 p2 p3 = some (r, S9)) : MI shN w l0 y_N_lay b_N_lay 6 .int 2 [.ref (w.1 0), .int p1, .int p2, .int p3] S r S9 bzT := by
  refine MI.of (by decide) (Nat.le_of_ble_eq_true rfl) rfl (fun _ _ => rfl) (fun x hnL C hR => ?_)
  rw [N_lay] at hf
  refine x_iload_n C d_N_lay_0 1 rfl ?_
  refine x_csr C d_N_lay_1 wd916 cm_N_isSheet [.int p1] rfl rfl (by decide) (Nat.le_of_ble_eq_true rfl) hf (fun _ h => m_N_isSheet h) (fun v1 hf hb_v1 => ?_)
  refine x_if_ne C d_N_lay_4 hf (fun hf => ?_) (fun hf => ?_)
  · refine x_iconst C d_N_lay_7 (-1) ?_
    exact hR _ _ _ _ d_N_lay_8.1 hf trivial
  refine x_aload_n C d_N_lay_9 0 rfl ?_
  refine x_getr C d_N_lay_10 f_N_sheets wd343 rfl rfl ?_
  refine x_iload_n C d_N_lay_13 1 rfl ?_
  refine x_aald C (fun j => 22 + 2 * j) d_N_lay_14 rfl (by decide) hf (fun h2 hf => ?_)
  refine x_astore C d_N_lay_15 [(4, .ref (w.1 (22 + 2 * (Int32.toNatClampNeg p1)))), (0, .ref (w.1 0)), (1, .int p1), (2, .int p2), (3, .int p3)] (by rw [hnL]; decide) rfl ?_
  refine x_aload C d_N_lay_17 0 rfl ?_
  refine x_aload C d_N_lay_19 0 rfl ?_
  refine x_get C d_N_lay_21 f_H_lane wd326 (isH_of h2).1 rfl ?_
  refine x_iload_n C d_N_lay_24 3 rfl ?_
  refine x_cvr C d_N_lay_25 wd930 cm_H_faultAs rfl (isH_of h2).1 [.int (S.1 (22 + 2 * (Int32.toNatClampNeg p1)) 0), .int p2] rfl rfl (by decide) (Nat.le_of_ble_eq_true rfl) hf (fun _ h => m_H_faultAs (isH_of h2) h) (fun v3 hf hb_v3 => ?_)
  refine x_istore C d_N_lay_28 [(5, .int v3), (4, .ref (w.1 (22 + 2 * (Int32.toNatClampNeg p1)))), (0, .ref (w.1 0)), (1, .int p1), (2, .int p2), (3, .int p3)] (by rw [hnL]; decide) rfl ?_
  refine x_iload C d_N_lay_30 0 rfl ?_
  refine x_if_eq C d_N_lay_32 hf (fun hf => ?_) (fun hf => ?_)
  · refine x_aload C d_N_lay_41 1 rfl ?_
    refine x_iload_n C d_N_lay_43 4 rfl ?_
    refine x_iload_n C d_N_lay_44 5 rfl ?_
    refine x_cvv C d_N_lay_45 wd938 cm_H_put rfl (isH_of h2).1 [.int p2, .int p3] rfl rfl (by decide) (Nat.le_of_ble_eq_true rfl) hf (fun _ h => m_H_put (isH_of h2) h) (fun S4 hf => ?_)
    refine x_iconst C d_N_lay_48 1 ?_
    exact hR _ _ _ _ d_N_lay_49.1 hf trivial
  refine x_bipush C d_N_lay_35 (-10) ?_
  refine x_iload C d_N_lay_37 0 rfl ?_
  refine x_isub C d_N_lay_39 ?_
  exact hR _ _ _ _ d_N_lay_40.1 hf trivial
set_option maxRecDepth 4000 in
theorem m_H_cell {w : Ww} {l0 : Launch} {F : Nat} {H : Nat} {S : St} {p1 : Int32} {rs : Int32} (hH : isH H) (hf : H_cell F H S p1 = some rs) : MI shN w l0 y_H_cell b_H_cell 2 .int 0 [.ref (w.1 H), .int p1] S rs S bzT := by
  refine MI.of (by decide) (Nat.le_of_ble_eq_true rfl) rfl (fun _ _ => rfl) (fun x hnL C hR => ?_)
  rw [H_cell] at hf
  refine x_iload_n C d_H_cell_0 1 rfl ?_
  refine x_jn (fun J1 => J1  = some rs → WX shN w x S 22 [] []) hf (fun hf => ?_) (fun J1 hJ1 hf => ?_)
  · refine x_iconst C d_H_cell_22 0 ?_
    exact x_retR hR d_H_cell_23 hf trivial
  refine x_if_lt C d_H_cell_1 hf (fun hf => ?_) (fun hf => ?_)
  · refine x_sub [] rfl ?_
    exact hJ1  hf
  refine x_iload_n C d_H_cell_4 1 rfl ?_
  refine x_aload_n C d_H_cell_5 0 rfl ?_
  refine x_getr C d_H_cell_6 f_H_cells wd329 hH.1 rfl ?_
  refine x_alen C (40) d_H_cell_9 hH.2 rfl (by decide) ?_
  refine x_icmp_ge C d_H_cell_10 hf (fun hf => ?_) (fun hf => ?_)
  · refine x_aload_n C d_H_cell_13 0 rfl ?_
    refine x_getr C d_H_cell_14 f_H_cells wd329 hH.1 rfl ?_
    refine x_iload_n C d_H_cell_17 1 rfl ?_
    refine x_iald C d_H_cell_18 hH.2 hf (fun hf => ?_)
    refine x_goto C d_H_cell_19 ?_
    exact x_retR hR d_H_cell_23 hf trivial
  refine x_sub [] rfl ?_
  exact hJ1  hf
