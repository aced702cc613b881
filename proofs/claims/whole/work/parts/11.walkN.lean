set_option maxRecDepth 4000 in
theorem w_T_append_L26 {w : Ww} {l0 : Launch} {x : Cx} {F : Nat} {p1 : Int64} {rs : (Int32 × St)} {k1 : St → Option (Int32 × St)} (hnL : x.2.2.2.2.2.2.2.2.2.2.2.2 = 4) (C : XC shN w "NeighbourWires$Tape" b_T_append l0 0 x) (hR : RI shN w b_T_append bz01 rs x)  (hk1 : ∀ (S2 : St), k1 S2 = some rs → WX shN w x S2 60 [(0, .ref (w.1 7))] []) : ∀ (n : Nat) (S4 : St) (v5 : Int32), T_append_L26 F p1 k1 n S4 v5 = some rs → WX shN w x S4 26 [(0, .ref (w.1 7)), (1, .long p1), (3, .int v5)] [] := by
  intro n
  induction n with
  | zero => intro S4 v5 hf; cases hf
  | succ n ih =>
    intro S4 v5 hf
    rw [T_append_L26] at hf
    refine x_iload_n C d_T_append_26 2 rfl ?_
    refine x_bipush C d_T_append_27 8 ?_
    refine x_icmp_ge C d_T_append_29 hf (fun hf => ?_) (fun hf => ?_)
    · refine x_aload_n C d_T_append_32 0 rfl ?_
      refine x_getr C d_T_append_33 f_T_bytes wd201 rfl rfl ?_
      refine x_aload_n C d_T_append_36 0 rfl ?_
      refine x_get C d_T_append_37 f_T_size wd193 rfl rfl ?_
      refine x_iload_n C d_T_append_40 2 rfl ?_
      refine x_iadd C d_T_append_41 ?_
      refine x_lload_n C d_T_append_42 1 rfl ?_
      refine x_bipush C d_T_append_43 8 ?_
      refine x_bipush C d_T_append_45 7 ?_
      refine x_iload_n C d_T_append_47 2 rfl ?_
      refine x_isub C d_T_append_48 ?_
      refine x_imul C d_T_append_49 ?_
      refine x_lushr C d_T_append_50 ?_
      refine x_l2i C d_T_append_51 ?_
      refine x_i2b C d_T_append_52 ?_
      refine x_bast C d_T_append_53 rfl hf (fun S6 hf => ?_)
      refine x_iinc C 1 d_T_append_54 2 rfl (by rw [hnL]; decide) hf (fun v7 => [(3, .int v7), (0, .ref (w.1 7)), (1, .long p1)]) (fun _ => rfl) (fun v7 hf => ?_)
      refine x_goto C d_T_append_57 ?_
      refine x_sub [1, 2, 0] rfl ?_
      exact ih S6 v7 hf
    refine x_sub [0] rfl ?_
    exact hk1 S4 hf
set_option maxRecDepth 4000 in
theorem m_T_append {w : Ww} {l0 : Launch} {F : Nat} {S : St} {p1 : Int64} {r : Int32} {S9 : St}  (hf : T_append F S p1 = some (r, S9)) : MI shN w l0 y_T_append b_T_append 4 .boolean 0 [.ref (w.1 7), .long p1] S r S9 bz01 := by
  refine MI.of (by decide) (Nat.le_of_ble_eq_true rfl) rfl (fun v hb => by rcases hb with rfl | rfl <;> decide) (fun x hnL C hR => ?_)
  rw [T_append] at hf
  refine x_aload_n C d_T_append_0 0 rfl ?_
  refine x_get C d_T_append_1 f_T_size wd193 rfl rfl ?_
  refine x_if_lt C d_T_append_4 hf (fun hf => ?_) (fun hf => ?_)
  · refine x_iconst C d_T_append_22 0 ?_
    exact hR _ _ _ _ d_T_append_23.1 hf (Or.inl rfl)
  refine x_aload_n C d_T_append_7 0 rfl ?_
  refine x_get C d_T_append_8 f_T_size wd193 rfl rfl ?_
  refine x_aload_n C d_T_append_11 0 rfl ?_
  refine x_getr C d_T_append_12 f_T_bytes wd201 rfl rfl ?_
  refine x_alen C (240) d_T_append_15 rfl rfl (by decide) ?_
  refine x_bipush C d_T_append_16 8 ?_
  refine x_isub C d_T_append_18 ?_
  refine x_icmp_le C d_T_append_19 hf (fun hf => ?_) (fun hf => ?_)
  · refine x_iconst C d_T_append_22 0 ?_
    exact hR _ _ _ _ d_T_append_23.1 hf (Or.inl rfl)
  refine x_iconst C d_T_append_24 0 ?_
  refine x_istore_n C d_T_append_25 [(3, .int 0), (0, .ref (w.1 7)), (1, .long p1)] (by rw [hnL]; decide) rfl ?_
  refine x_sub [1, 2, 0] rfl ?_
  refine w_T_append_L26 hnL C hR (fun S2 hf => ?_) F S 0 hf
  refine x_aload_n C d_T_append_60 0 rfl ?_
  refine x_dup C d_T_append_61 rfl ?_
  refine x_get C d_T_append_62 f_T_size wd193 rfl rfl ?_
  refine x_bipush C d_T_append_65 8 ?_
  refine x_iadd C d_T_append_67 ?_
  refine x_put C d_T_append_68 f_T_size wd193 rfl rfl hf (fun S3 hf => ?_)
  refine x_iconst C d_T_append_71 1 ?_
  exact hR _ _ _ _ d_T_append_72.1 hf (Or.inr rfl)
set_option maxRecDepth 4000 in
theorem m_N_feed {w : Ww} {l0 : Launch} {F : Nat} {S : St} {p1 : Int64} {r : Int32} {S9 : St}  (hf : N_feed F S p1 = some (r, S9)) : MI shN w l0 y_N_feed b_N_feed 3 .int 1 [.ref (w.1 0), .long p1] S r S9 bzT := by
  refine MI.of (by decide) (Nat.le_of_ble_eq_true rfl) rfl (fun _ _ => rfl) (fun x hnL C hR => ?_)
  rw [N_feed] at hf
  refine x_aload_n C d_N_feed_0 0 rfl ?_
  refine x_getr C d_N_feed_1 f_N_reader wd339 rfl rfl ?_
  refine x_getr C d_N_feed_4 f_R_tape wd220 rfl rfl ?_
  refine x_lload_n C d_N_feed_7 1 rfl ?_
  refine x_cvi C d_N_feed_8 wd366 cm_T_append rfl rfl [.long p1] rfl rfl (by decide) (Nat.le_of_ble_eq_true rfl) hf (fun _ _ h => m_T_append h) (fun v1 S2 hf hb_v1 => ?_)
  refine x_if_eq C d_N_feed_11 hf (fun hf => ?_) (fun hf => ?_)
  · refine x_bipush C d_N_feed_27 (-3) ?_
    exact hR _ _ _ _ d_N_feed_29.1 hf trivial
  refine x_aload_n C d_N_feed_14 0 rfl ?_
  refine x_getr C d_N_feed_15 f_N_reader wd339 rfl rfl ?_
  refine x_getr C d_N_feed_18 f_R_tape wd220 rfl rfl ?_
  refine x_get C d_N_feed_21 f_T_size wd194 rfl rfl ?_
  refine x_goto C d_N_feed_24 ?_
  exact hR _ _ _ _ d_N_feed_29.1 hf trivial
set_option maxRecDepth 4000 in
theorem m_T_cut {w : Ww} {l0 : Launch} {F : Nat} {S : St} {p1 : Int32} {r : Int32} {S9 : St}  (hf : T_cut F S p1 = some (r, S9)) : MI shN w l0 y_T_cut b_T_cut 2 .boolean 0 [.ref (w.1 7), .int p1] S r S9 bz01 := by
  refine MI.of (by decide) (Nat.le_of_ble_eq_true rfl) rfl (fun v hb => by rcases hb with rfl | rfl <;> decide) (fun x hnL C hR => ?_)
  rw [T_cut] at hf
  refine x_iload_n C d_T_cut_0 1 rfl ?_
  refine x_if_lt C d_T_cut_1 hf (fun hf => ?_) (fun hf => ?_)
  · refine x_iconst C d_T_cut_12 0 ?_
    exact hR _ _ _ _ d_T_cut_13.1 hf (Or.inl rfl)
  refine x_iload_n C d_T_cut_4 1 rfl ?_
  refine x_aload_n C d_T_cut_5 0 rfl ?_
  refine x_get C d_T_cut_6 f_T_size wd193 rfl rfl ?_
  refine x_icmp_le C d_T_cut_9 hf (fun hf => ?_) (fun hf => ?_)
  · refine x_iconst C d_T_cut_12 0 ?_
    exact hR _ _ _ _ d_T_cut_13.1 hf (Or.inl rfl)
  refine x_aload_n C d_T_cut_14 0 rfl ?_
  refine x_iload_n C d_T_cut_15 1 rfl ?_
  refine x_put C d_T_cut_16 f_T_size wd193 rfl rfl hf (fun S1 hf => ?_)
  refine x_iconst C d_T_cut_19 1 ?_
  exact hR _ _ _ _ d_T_cut_20.1 hf (Or.inr rfl)
set_option maxRecDepth 4000 in
theorem m_N_end {w : Ww} {l0 : Launch} {F : Nat} {S : St} {p1 : Int32} {r : Int32} {S9 : St}  (hf : N_end F S p1 = some (r, S9)) : MI shN w l0 y_N_end b_N_end 3 .int 1 [.ref (w.1 0), .int p1] S r S9 bzT := by
  refine MI.of (by decide) (Nat.le_of_ble_eq_true rfl) rfl (fun _ _ => rfl) (fun x hnL C hR => ?_)
  rw [N_end] at hf
  refine x_aload_n C d_N_end_0 0 rfl ?_
  refine x_getr C d_N_end_1 f_N_reader wd339 rfl rfl ?_
  refine x_getr C d_N_end_4 f_R_tape wd220 rfl rfl ?_
  refine x_get C d_N_end_7 f_T_size wd194 rfl rfl ?_
  refine x_bi hf (fun v1 hf => ?_)
  refine x_istore_n C d_N_end_10 [(2, .int v1), (0, .ref (w.1 0)), (1, .int p1)] (by rw [hnL]; decide) rfl ?_
  refine x_aload_n C d_N_end_11 1 rfl ?_
  refine x_getr C d_N_end_12 f_N_reader wd339 rfl rfl ?_
  refine x_getr C d_N_end_15 f_R_tape wd220 rfl rfl ?_
  refine x_iload_n C d_N_end_18 2 rfl ?_
  refine x_cvi C d_N_end_19 wd374 cm_T_cut rfl rfl [.int p1] rfl rfl (by decide) (Nat.le_of_ble_eq_true rfl) hf (fun _ _ h => m_T_cut h) (fun v2 S3 hf hb_v2 => ?_)
  refine x_if_eq C d_N_end_22 hf (fun hf => ?_) (fun hf => ?_)
  · refine x_iconst C d_N_end_29 (-1) ?_
    exact hR _ _ _ _ d_N_end_30.1 hf trivial
  refine x_iload_n C d_N_end_25 0 rfl ?_
  refine x_goto C d_N_end_26 ?_
  exact hR _ _ _ _ d_N_end_30.1 hf trivial
set_option maxRecDepth 4000 in
theorem w_P_reset_L27 {w : Ww} {l0 : Launch} {x : Cx} {F : Nat} {P : Nat} {rs : St}  (hnL : x.2.2.2.2.2.2.2.2.2.2.2.2 = 2) (C : XC shN w "NeighbourWires$Plan" b_P_reset l0 0 x) (hR : RV shN w b_P_reset rs x) (hP : isP P)  : ∀ (n : Nat) (S6 : St) (v7 : Int32), P_reset_L27 F P n S6 v7 = some rs → WX shN w x S6 27 [(0, .ref (w.1 P)), (1, .int v7)] [] := by
  intro n
  induction n with
  | zero => intro S6 v7 hf; cases hf
  | succ n ih =>
    intro S6 v7 hf
    rw [P_reset_L27] at hf
    refine x_iload_n C d_P_reset_27 1 rfl ?_
    refine x_aload_n C d_P_reset_28 0 rfl ?_
    refine x_getr C d_P_reset_29 f_P_wireAt wd132 hP.1 rfl ?_
    refine x_alen C (8) d_P_reset_32 hP.2.1 rfl (by decide) ?_
    refine x_icmp_ge C d_P_reset_33 hf (fun hf => ?_) (fun hf => ?_)
    · refine x_aload_n C d_P_reset_36 0 rfl ?_
      refine x_getr C d_P_reset_37 f_P_wireAt wd132 hP.1 rfl ?_
      refine x_iload_n C d_P_reset_40 1 rfl ?_
      refine x_iload_n C d_P_reset_41 1 rfl ?_
      refine x_iast C d_P_reset_42 hP.2.1 hf (fun S8 hf => ?_)
      refine x_iinc C 1 d_P_reset_43 1 rfl (by rw [hnL]; decide) hf (fun v9 => [(1, .int v9), (0, .ref (w.1 P))]) (fun _ => rfl) (fun v9 hf => ?_)
      refine x_goto C d_P_reset_46 ?_
      refine x_sub [1, 0] rfl ?_
      exact ih S8 v9 hf
    exact hR _ _ _ d_P_reset_49.1 hf
set_option maxRecDepth 4000 in
theorem m_P_reset {w : Ww} {l0 : Launch} {F : Nat} {P : Nat} {S : St} {rs : St} (hP : isP P) (hf : P_reset F P S = some rs) : MV shN w l0 y_P_reset b_P_reset 2 0 [.ref (w.1 P)] S rs := by
  refine MV.of (by decide) (Nat.le_of_ble_eq_true rfl) rfl (fun x hnL C hR => ?_)
  rw [P_reset] at hf
  refine x_aload_n C d_P_reset_0 0 rfl ?_
  refine x_iconst C d_P_reset_1 4 ?_
  refine x_put C d_P_reset_2 f_P_wires wd109 hP.1 rfl hf (fun S1 hf => ?_)
  refine x_aload_n C d_P_reset_5 0 rfl ?_
  refine x_iconst C d_P_reset_6 1 ?_
  refine x_put C d_P_reset_7 f_P_own wd114 hP.1 rfl hf (fun S2 hf => ?_)
  refine x_aload_n C d_P_reset_10 0 rfl ?_
  refine x_iconst C d_P_reset_11 1 ?_
  refine x_put C d_P_reset_12 f_P_side wd119 hP.1 rfl hf (fun S3 hf => ?_)
  refine x_aload_n C d_P_reset_15 0 rfl ?_
  refine x_iconst C d_P_reset_16 0 ?_
  refine x_put C d_P_reset_17 f_P_shields wd124 hP.1 rfl hf (fun S4 hf => ?_)
  refine x_aload_n C d_P_reset_20 0 rfl ?_
  refine x_iconst C d_P_reset_21 0 ?_
  refine x_put C d_P_reset_22 f_P_length wd127 hP.1 rfl hf (fun S5 hf => ?_)
  refine x_iconst C d_P_reset_25 0 ?_
  refine x_istore_n C d_P_reset_26 [(1, .int 0), (0, .ref (w.1 P))] (by rw [hnL]; decide) rfl ?_
  refine x_sub [1, 0] rfl ?_
  exact w_P_reset_L27 hnL C hR hP  F S5 0 hf
set_option maxRecDepth 4000 in
theorem m_T_rewind {w : Ww} {l0 : Launch} {F : Nat} {S : St} {rs : St}  (hf : T_rewind F S = some rs) : MV shN w l0 y_T_rewind b_T_rewind 1 0 [.ref (w.1 7)] S rs := by
  refine MV.of (by decide) (Nat.le_of_ble_eq_true rfl) rfl (fun x hnL C hR => ?_)
  rw [T_rewind] at hf
  refine x_aload_n C d_T_rewind_0 0 rfl ?_
  refine x_iconst C d_T_rewind_1 0 ?_
  refine x_put C d_T_rewind_2 f_T_ahead wd202 rfl rfl hf (fun S1 hf => ?_)
  exact hR _ _ _ d_T_rewind_5.1 hf
set_option maxRecDepth 4000 in
theorem m_T_byteAt {w : Ww} {l0 : Launch} {F : Nat} {S : St} {p1 : Int32} {rs : Int32}  (hf : T_byteAt F S p1 = some rs) : MI shN w l0 y_T_byteAt b_T_byteAt 2 .int 0 [.ref (w.1 7), .int p1] S rs S bzT := by
  refine MI.of (by decide) (Nat.le_of_ble_eq_true rfl) rfl (fun _ _ => rfl) (fun x hnL C hR => ?_)
  rw [T_byteAt] at hf
  refine x_iload_n C d_T_byteAt_0 1 rfl ?_
  refine x_jn (fun J1 => J1  = some rs → WX shN w x S 30 [] []) hf (fun hf => ?_) (fun J1 hJ1 hf => ?_)
  · refine x_iconst C d_T_byteAt_30 0 ?_
    exact x_retR hR d_T_byteAt_31 hf trivial
  refine x_if_lt C d_T_byteAt_1 hf (fun hf => ?_) (fun hf => ?_)
  · refine x_sub [] rfl ?_
    exact hJ1  hf
  refine x_iload_n C d_T_byteAt_4 1 rfl ?_
  refine x_aload_n C d_T_byteAt_5 0 rfl ?_
  refine x_get C d_T_byteAt_6 f_T_size wd193 rfl rfl ?_
  refine x_icmp_ge C d_T_byteAt_9 hf (fun hf => ?_) (fun hf => ?_)
  · refine x_iload_n C d_T_byteAt_12 1 rfl ?_
    refine x_aload_n C d_T_byteAt_13 0 rfl ?_
    refine x_getr C d_T_byteAt_14 f_T_bytes wd201 rfl rfl ?_
    refine x_alen C (240) d_T_byteAt_17 rfl rfl (by decide) ?_
    refine x_icmp_ge C d_T_byteAt_18 hf (fun hf => ?_) (fun hf => ?_)
    · refine x_aload_n C d_T_byteAt_21 0 rfl ?_
      refine x_getr C d_T_byteAt_22 f_T_bytes wd201 rfl rfl ?_
      refine x_iload_n C d_T_byteAt_25 1 rfl ?_
      refine x_bald C d_T_byteAt_26 rfl hf (fun hf => ?_)
      refine x_goto C d_T_byteAt_27 ?_
      exact x_retR hR d_T_byteAt_31 hf trivial
    refine x_sub [] rfl ?_
    exact hJ1  hf
  refine x_sub [] rfl ?_
  exact hJ1  hf
set_option maxRecDepth 4000 in
theorem m_T_isWithin {w : Ww} {l0 : Launch} {F : Nat} {S : St} {p1 : Int32} {p2 : Int32} {p3 : Int32} {rs : Int32}  (hf : T_isWithin F S p1 p2 p3 = some rs) : MI shN w l0 y_T_isWithin b_T_isWithin 3 .boolean 0 [.int p1, .int p2, .int p3] S rs S bz01 := by
  refine MI.of (by decide) (Nat.le_of_ble_eq_true rfl) rfl (fun v hb => by rcases hb with rfl | rfl <;> decide) (fun x hnL C hR => ?_)
  rw [T_isWithin] at hf
  refine x_iload_n C d_T_isWithin_0 0 rfl ?_
  refine x_iload_n C d_T_isWithin_1 1 rfl ?_
  refine x_jn (fun J1 => J1  = some rs → WX shN w x S 14 [] []) hf (fun hf => ?_) (fun J1 hJ1 hf => ?_)
  · refine x_iconst C d_T_isWithin_14 0 ?_
    exact x_retR hR d_T_isWithin_15 hf (Or.inl rfl)
  refine x_icmp_lt C d_T_isWithin_2 hf (fun hf => ?_) (fun hf => ?_)
  · refine x_sub [] rfl ?_
    exact hJ1  hf
  refine x_iload_n C d_T_isWithin_5 0 rfl ?_
  refine x_iload_n C d_T_isWithin_6 2 rfl ?_
  refine x_icmp_gt C d_T_isWithin_7 hf (fun hf => ?_) (fun hf => ?_)
  · refine x_sub [] rfl ?_
    exact hJ1  hf
  refine x_iconst C d_T_isWithin_10 1 ?_
  refine x_goto C d_T_isWithin_11 ?_
  exact x_retR hR d_T_isWithin_15 hf (Or.inr rfl)
set_option maxRecDepth 4000 in
theorem w_T_endOfRun_L3 {w : Ww} {l0 : Launch} {x : Cx} {F : Nat} {p2 : Int32} {p3 : Int32} {S : St} {rs : Int32}  (hnL : x.2.2.2.2.2.2.2.2.2.2.2.2 = 5) (C : XC shN w "NeighbourWires$Tape" b_T_endOfRun l0 1 x) (hR : RI shN w b_T_endOfRun bzT (rs, S) x)   : ∀ (n : Nat) (v1 : Int32), T_endOfRun_L3 F p2 p3 S n v1 = some rs → WX shN w x S 3 [(0, .ref (w.1 7)), (2, .int p2), (3, .int p3), (4, .int v1)] [] := by
  intro n
  induction n with
  | zero => intro v1 hf; cases hf
  | succ n ih =>
    intro v1 hf
    rw [T_endOfRun_L3] at hf
    refine x_iload C d_T_endOfRun_3 3 rfl ?_
    refine x_aload_n C d_T_endOfRun_5 0 rfl ?_
    refine x_get C d_T_endOfRun_6 f_T_size wd193 rfl rfl ?_
    refine x_icmp_ge C d_T_endOfRun_9 hf (fun hf => ?_) (fun hf => ?_)
    · refine x_aload_n C d_T_endOfRun_12 0 rfl ?_
      refine x_iload C d_T_endOfRun_13 3 rfl ?_
      refine x_cvr C d_T_endOfRun_15 wd399 cm_T_byteAt rfl rfl [.int v1] rfl rfl (by decide) (Nat.le_of_ble_eq_true rfl) hf (fun _ h => m_T_byteAt h) (fun v2 hf hb_v2 => ?_)
      refine x_iload_n C d_T_endOfRun_18 1 rfl ?_
      refine x_iload_n C d_T_endOfRun_19 2 rfl ?_
      refine x_csr C d_T_endOfRun_20 wd403 cm_T_isWithin [.int v2, .int p2, .int p3] rfl rfl (by decide) (Nat.le_of_ble_eq_true rfl) hf (fun _ h => m_T_isWithin h) (fun v3 hf hb_v3 => ?_)
      refine x_if_eq C d_T_endOfRun_23 hf (fun hf => ?_) (fun hf => ?_)
      · refine x_iload C d_T_endOfRun_32 3 rfl ?_
        exact x_retR hR d_T_endOfRun_34 hf trivial
      refine x_iinc C 1 d_T_endOfRun_26 3 rfl (by rw [hnL]; decide) hf (fun v4 => [(4, .int v4), (0, .ref (w.1 7)), (2, .int p2), (3, .int p3)]) (fun _ => rfl) (fun v4 hf => ?_)
      refine x_goto C d_T_endOfRun_29 ?_
      refine x_sub [1, 2, 3, 0] rfl ?_
      exact ih v4 hf
    refine x_iload C d_T_endOfRun_32 3 rfl ?_
    exact x_retR hR d_T_endOfRun_34 hf trivial
set_option maxRecDepth 4000 in
theorem m_T_endOfRun {w : Ww} {l0 : Launch} {F : Nat} {S : St} {p1 : Int32} {p2 : Int32} {p3 : Int32} {rs : Int32}  (hf : T_endOfRun F S p1 p2 p3 = some rs) : MI shN w l0 y_T_endOfRun b_T_endOfRun 5 .int 1 [.ref (w.1 7), .int p1, .int p2, .int p3] S rs S bzT := by
  refine MI.of (by decide) (Nat.le_of_ble_eq_true rfl) rfl (fun _ _ => rfl) (fun x hnL C hR => ?_)
  rw [T_endOfRun] at hf
  refine x_iload_n C d_T_endOfRun_0 1 rfl ?_
  refine x_istore C d_T_endOfRun_1 [(4, .int p1), (0, .ref (w.1 7)), (1, .int p1), (2, .int p2), (3, .int p3)] (by rw [hnL]; decide) rfl ?_
  refine x_sub [1, 3, 4, 0] rfl ?_
  exact w_T_endOfRun_L3 hnL C hR  F p1 hf
set_option maxRecDepth 4000 in
theorem w_T_spells_L20 {w : Ww} {l0 : Launch} {x : Cx} {F : Nat} {j : Nat} {S : St} {rs : Int32}  (hnL : x.2.2.2.2.2.2.2.2.2.2.2.2 = 3) (C : XC shN w "NeighbourWires$Tape" b_T_spells l0 5 x) (hR : RI shN w b_T_spells bz01 (rs, S) x) (hj : j < 6)  : ∀ (n : Nat) (v2 : Int32), T_spells_L20 F j S n v2 = some rs → WX shN w x S 20 [(0, .ref (w.1 7)), (1, .ref (w.2.2.2.1 j)), (2, .int v2)] [] := by
  intro n
  induction n with
  | zero => intro v2 hf; cases hf
  | succ n ih =>
    intro v2 hf
    rw [T_spells_L20] at hf
    refine x_iload_n C d_T_spells_20 2 rfl ?_
    refine x_aload_n C d_T_spells_21 1 rfl ?_
    refine x_cxr C d_T_spells_22 wd415 cm_Js_length hj [] rfl rfl (by decide) (Nat.le_of_ble_eq_true rfl) hf (fun _ h => m_Js_length hj h) (fun v3 hf hb_v3 => ?_)
    refine x_icmp_ge C d_T_spells_25 hf (fun hf => ?_) (fun hf => ?_)
    · refine x_aload_n C d_T_spells_28 0 rfl ?_
      refine x_aload_n C d_T_spells_29 0 rfl ?_
      refine x_get C d_T_spells_30 f_T_start wd198 rfl rfl ?_
      refine x_iload_n C d_T_spells_33 2 rfl ?_
      refine x_iadd C d_T_spells_34 ?_
      refine x_cvr C d_T_spells_35 wd399 cm_T_byteAt rfl rfl [.int ((S.1 7 2) + v2)] rfl rfl (by decide) (Nat.le_of_ble_eq_true rfl) hf (fun _ h => m_T_byteAt h) (fun v4 hf hb_v4 => ?_)
      refine x_aload_n C d_T_spells_38 1 rfl ?_
      refine x_iload_n C d_T_spells_39 2 rfl ?_
      refine x_cxr C d_T_spells_40 wd425 cm_Js_charAt hj [.int v2] rfl rfl (by decide) (Nat.le_of_ble_eq_true rfl) hf (fun _ h => m_Js_charAt hj h) (fun v5 hf hb_v5 => ?_)
      refine x_icmp_eq C d_T_spells_43 hf (fun hf => ?_) (fun hf => ?_)
      · refine x_iinc C 1 d_T_spells_48 2 rfl (by rw [hnL]; decide) hf (fun v6 => [(2, .int v6), (0, .ref (w.1 7)), (1, .ref (w.2.2.2.1 j))]) (fun _ => rfl) (fun v6 hf => ?_)
        refine x_goto C d_T_spells_51 ?_
        refine x_sub [1, 2, 0] rfl ?_
        exact ih v6 hf
      refine x_iconst C d_T_spells_46 0 ?_
      exact x_retR hR d_T_spells_47 hf (Or.inl rfl)
    refine x_iconst C d_T_spells_54 1 ?_
    exact x_retR hR d_T_spells_55 hf (Or.inr rfl)
set_option maxRecDepth 4000 in
theorem m_T_spells {w : Ww} {l0 : Launch} {F : Nat} {j : Nat} {S : St} {rs : Int32} (hj : j < 6) (hf : T_spells F j S = some rs) : MI shN w l0 y_T_spells b_T_spells 3 .boolean 5 [.ref (w.1 7), .ref (w.2.2.2.1 j)] S rs S bz01 := by
  refine MI.of (by decide) (Nat.le_of_ble_eq_true rfl) rfl (fun v hb => by rcases hb with rfl | rfl <;> decide) (fun x hnL C hR => ?_)
  rw [T_spells] at hf
  refine x_aload_n C d_T_spells_0 0 rfl ?_
  refine x_get C d_T_spells_1 f_T_ahead wd202 rfl rfl ?_
  refine x_aload_n C d_T_spells_4 0 rfl ?_
  refine x_get C d_T_spells_5 f_T_start wd198 rfl rfl ?_
  refine x_isub C d_T_spells_8 ?_
  refine x_aload_n C d_T_spells_9 1 rfl ?_
  refine x_cxr C d_T_spells_10 wd415 cm_Js_length hj [] rfl rfl (by decide) (Nat.le_of_ble_eq_true rfl) hf (fun _ h => m_Js_length hj h) (fun v1 hf hb_v1 => ?_)
  refine x_icmp_eq C d_T_spells_13 hf (fun hf => ?_) (fun hf => ?_)
  · refine x_iconst C d_T_spells_18 0 ?_
    refine x_istore_n C d_T_spells_19 [(2, .int 0), (0, .ref (w.1 7)), (1, .ref (w.2.2.2.1 j))] (by rw [hnL]; decide) rfl ?_
    refine x_sub [1, 2, 0] rfl ?_
    exact w_T_spells_L20 hnL C hR hj  F 0 hf
  refine x_iconst C d_T_spells_16 0 ?_
  exact x_retR hR d_T_spells_17 hf (Or.inl rfl)
set_option maxRecDepth 4000 in
theorem m_T_nameNumber {w : Ww} {l0 : Launch} {F : Nat} {S : St} {rs : Int32}  (hf : T_nameNumber F S = some rs) : MI shN w l0 y_T_nameNumber b_T_nameNumber 1 .int 6 [.ref (w.1 7)] S rs S bzT := by
  refine MI.of (by decide) (Nat.le_of_ble_eq_true rfl) rfl (fun _ _ => rfl) (fun x hnL C hR => ?_)
  rw [T_nameNumber] at hf
  refine x_aload_n C d_T_nameNumber_0 0 rfl ?_
  refine x_ldcS C d_T_nameNumber_1 rfl 0 (by decide) rfl ?_
  refine x_cvr C d_T_nameNumber_3 wd411 cm_T_spells rfl rfl [.ref (w.2.2.2.1 0)] rfl rfl (by decide) (Nat.le_of_ble_eq_true rfl) hf (fun _ h => m_T_spells (by decide) h) (fun v1 hf hb_v1 => ?_)
  refine x_if_eq C d_T_nameNumber_6 hf (fun hf => ?_) (fun hf => ?_)
  · refine x_aload_n C d_T_nameNumber_11 0 rfl ?_
    refine x_ldcS C d_T_nameNumber_12 rfl 1 (by decide) rfl ?_
    refine x_cvr C d_T_nameNumber_14 wd411 cm_T_spells rfl rfl [.ref (w.2.2.2.1 1)] rfl rfl (by decide) (Nat.le_of_ble_eq_true rfl) hf (fun _ h => m_T_spells (by decide) h) (fun v2 hf hb_v2 => ?_)
    refine x_if_eq C d_T_nameNumber_17 hf (fun hf => ?_) (fun hf => ?_)
    · refine x_aload_n C d_T_nameNumber_22 0 rfl ?_
      refine x_ldcS C d_T_nameNumber_23 rfl 2 (by decide) rfl ?_
      refine x_cvr C d_T_nameNumber_25 wd411 cm_T_spells rfl rfl [.ref (w.2.2.2.1 2)] rfl rfl (by decide) (Nat.le_of_ble_eq_true rfl) hf (fun _ h => m_T_spells (by decide) h) (fun v3 hf hb_v3 => ?_)
      refine x_if_eq C d_T_nameNumber_28 hf (fun hf => ?_) (fun hf => ?_)
      · refine x_aload_n C d_T_nameNumber_33 0 rfl ?_
        refine x_ldcS C d_T_nameNumber_34 rfl 3 (by decide) rfl ?_
        refine x_cvr C d_T_nameNumber_36 wd411 cm_T_spells rfl rfl [.ref (w.2.2.2.1 3)] rfl rfl (by decide) (Nat.le_of_ble_eq_true rfl) hf (fun _ h => m_T_spells (by decide) h) (fun v4 hf hb_v4 => ?_)
        refine x_if_eq C d_T_nameNumber_39 hf (fun hf => ?_) (fun hf => ?_)
        · refine x_aload_n C d_T_nameNumber_44 0 rfl ?_
          refine x_ldcS C d_T_nameNumber_45 rfl 4 (by decide) rfl ?_
          refine x_cvr C d_T_nameNumber_47 wd411 cm_T_spells rfl rfl [.ref (w.2.2.2.1 4)] rfl rfl (by decide) (Nat.le_of_ble_eq_true rfl) hf (fun _ h => m_T_spells (by decide) h) (fun v5 hf hb_v5 => ?_)
          refine x_if_eq C d_T_nameNumber_50 hf (fun hf => ?_) (fun hf => ?_)
          · refine x_aload_n C d_T_nameNumber_55 0 rfl ?_
            refine x_ldcS C d_T_nameNumber_56 rfl 5 (by decide) rfl ?_
            refine x_cvr C d_T_nameNumber_58 wd411 cm_T_spells rfl rfl [.ref (w.2.2.2.1 5)] rfl rfl (by decide) (Nat.le_of_ble_eq_true rfl) hf (fun _ h => m_T_spells (by decide) h) (fun v6 hf hb_v6 => ?_)
            refine x_if_eq C d_T_nameNumber_61 hf (fun hf => ?_) (fun hf => ?_)
            · refine x_iconst C d_T_nameNumber_69 0 ?_
              exact x_retR hR d_T_nameNumber_70 hf trivial
            refine x_bipush C d_T_nameNumber_64 6 ?_
            refine x_goto C d_T_nameNumber_66 ?_
            exact x_retR hR d_T_nameNumber_70 hf trivial
          refine x_iconst C d_T_nameNumber_53 5 ?_
          exact x_retR hR d_T_nameNumber_54 hf trivial
        refine x_iconst C d_T_nameNumber_42 4 ?_
        exact x_retR hR d_T_nameNumber_43 hf trivial
      refine x_iconst C d_T_nameNumber_31 3 ?_
      exact x_retR hR d_T_nameNumber_32 hf trivial
    refine x_iconst C d_T_nameNumber_20 2 ?_
    exact x_retR hR d_T_nameNumber_21 hf trivial
  refine x_iconst C d_T_nameNumber_9 1 ?_
  exact x_retR hR d_T_nameNumber_10 hf trivial
set_option maxRecDepth 4000 in
theorem w_T_nextNumber_L53 {w : Ww} {l0 : Launch} {x : Cx} {F : Nat} {v3 : Int32} {rs : St}  (hnL : x.2.2.2.2.2.2.2.2.2.2.2.2 = 3) (C : XC shN w "NeighbourWires$Tape" b_T_nextNumber l0 2 x) (hR : RV shN w b_T_nextNumber rs x)   : ∀ (n : Nat) (S9 : St) (v10 : Int32), T_nextNumber_L53 F v3 n S9 v10 = some rs → WX shN w x S9 53 [(0, .ref (w.1 7)), (1, .int v3), (2, .int v10)] [] := by
  intro n
  induction n with
  | zero => intro S9 v10 hf; cases hf
  | succ n ih =>
    intro S9 v10 hf
    rw [T_nextNumber_L53] at hf
    refine x_iload_n C d_T_nextNumber_53 2 rfl ?_
    refine x_aload_n C d_T_nextNumber_54 0 rfl ?_
    refine x_get C d_T_nextNumber_55 f_T_ahead wd202 rfl rfl ?_
    refine x_icmp_ge C d_T_nextNumber_58 hf (fun hf => ?_) (fun hf => ?_)
    · refine x_iload_n C d_T_nextNumber_61 1 rfl ?_
      refine x_if_ne C d_T_nextNumber_62 hf (fun hf => ?_) (fun hf => ?_)
      · refine x_aload_n C d_T_nextNumber_65 0 rfl ?_
        refine x_aload_n C d_T_nextNumber_66 0 rfl ?_
        refine x_get C d_T_nextNumber_67 f_T_value wd200 rfl rfl ?_
        refine x_bipush C d_T_nextNumber_70 10 ?_
        refine x_imul C d_T_nextNumber_72 ?_
        refine x_aload_n C d_T_nextNumber_73 0 rfl ?_
        refine x_iload_n C d_T_nextNumber_74 2 rfl ?_
        refine x_cvr C d_T_nextNumber_75 wd399 cm_T_byteAt rfl rfl [.int v10] rfl rfl (by decide) (Nat.le_of_ble_eq_true rfl) hf (fun _ h => m_T_byteAt h) (fun v11 hf hb_v11 => ?_)
        refine x_iadd C d_T_nextNumber_78 ?_
        refine x_bipush C d_T_nextNumber_79 48 ?_
        refine x_isub C d_T_nextNumber_81 ?_
        refine x_put C d_T_nextNumber_82 f_T_value wd200 rfl rfl hf (fun S12 hf => ?_)
        refine x_iinc C 1 d_T_nextNumber_85 2 rfl (by rw [hnL]; decide) hf (fun v13 => [(2, .int v13), (0, .ref (w.1 7)), (1, .int v3)]) (fun _ => rfl) (fun v13 hf => ?_)
        refine x_goto C d_T_nextNumber_88 ?_
        refine x_sub [1, 2, 0] rfl ?_
        exact ih S12 v13 hf
      exact hR _ _ _ d_T_nextNumber_91.1 hf
    exact hR _ _ _ d_T_nextNumber_91.1 hf
set_option maxRecDepth 4000 in
theorem m_T_nextNumber {w : Ww} {l0 : Launch} {F : Nat} {S : St} {rs : St}  (hf : T_nextNumber F S = some rs) : MV shN w l0 y_T_nextNumber b_T_nextNumber 3 2 [.ref (w.1 7)] S rs := by
  refine MV.of (by decide) (Nat.le_of_ble_eq_true rfl) rfl (fun x hnL C hR => ?_)
  rw [T_nextNumber] at hf
  refine x_aload_n C d_T_nextNumber_0 0 rfl ?_
  refine x_aload_n C d_T_nextNumber_1 0 rfl ?_
  refine x_aload_n C d_T_nextNumber_2 0 rfl ?_
  refine x_get C d_T_nextNumber_3 f_T_start wd198 rfl rfl ?_
  refine x_bipush C d_T_nextNumber_6 48 ?_
  refine x_bipush C d_T_nextNumber_8 57 ?_
  refine x_cvr C d_T_nextNumber_10 wd395 cm_T_endOfRun rfl rfl [.int (S.1 7 2), .int 48, .int 57] rfl rfl (by decide) (Nat.le_of_ble_eq_true rfl) hf (fun _ h => m_T_endOfRun h) (fun v1 hf hb_v1 => ?_)
  refine x_put C d_T_nextNumber_13 f_T_ahead wd202 rfl rfl hf (fun S2 hf => ?_)
  refine x_aload_n C d_T_nextNumber_16 0 rfl ?_
  refine x_get C d_T_nextNumber_17 f_T_ahead wd202 rfl rfl ?_
  refine x_aload_n C d_T_nextNumber_20 0 rfl ?_
  refine x_get C d_T_nextNumber_21 f_T_start wd198 rfl rfl ?_
  refine x_isub C d_T_nextNumber_24 ?_
  refine x_iconst C d_T_nextNumber_25 3 ?_
  refine x_jn (fun J4 => ∀ (v3 : Int32), J4 v3 = some rs → WX shN w x S2 34 [(0, .ref (w.1 7))] [.int v3]) hf (fun v3 hf => ?_) (fun J4 hJ4 hf => ?_)
  · refine x_istore_n C d_T_nextNumber_34 [(1, .int v3), (0, .ref (w.1 7))] (by rw [hnL]; decide) rfl ?_
    refine x_aload_n C d_T_nextNumber_35 1 rfl ?_
    refine x_iload_n C d_T_nextNumber_36 0 rfl ?_
    refine x_jn (fun J6 => ∀ (v5 : Int32), J6 v5 = some rs → WX shN w x S2 45 [(0, .ref (w.1 7)), (1, .int v3)] [.int v5, .ref (w.1 7)]) hf (fun v5 hf => ?_) (fun J6 hJ6 hf => ?_)
    · refine x_put C d_T_nextNumber_45 f_T_kind wd196 rfl rfl hf (fun S7 hf => ?_)
      refine x_aload_n C d_T_nextNumber_48 0 rfl ?_
      refine x_get C d_T_nextNumber_49 f_T_start wd198 rfl rfl ?_
      refine x_bi hf (fun v8 hf => ?_)
      refine x_istore_n C d_T_nextNumber_52 [(2, .int v8), (0, .ref (w.1 7)), (1, .int v3)] (by rw [hnL]; decide) rfl ?_
      refine x_sub [1, 2, 0] rfl ?_
      exact w_T_nextNumber_L53 hnL C hR  F S7 v8 hf
    refine x_if_eq C d_T_nextNumber_37 hf (fun hf => ?_) (fun hf => ?_)
    · refine x_iconst C d_T_nextNumber_44 2 ?_
      refine x_sub [1, 0] rfl ?_
      exact hJ6 2 hf
    refine x_iconst C d_T_nextNumber_40 4 ?_
    refine x_goto C d_T_nextNumber_41 ?_
    refine x_sub [1, 0] rfl ?_
    exact hJ6 4 hf
  refine x_icmp_le C d_T_nextNumber_26 hf (fun hf => ?_) (fun hf => ?_)
  · refine x_iconst C d_T_nextNumber_29 1 ?_
    refine x_goto C d_T_nextNumber_30 ?_
    exact hJ4 1 hf
  refine x_iconst C d_T_nextNumber_33 0 ?_
  exact hJ4 0 hf
set_option maxRecDepth 4000 in
theorem m_T_next {w : Ww} {l0 : Launch} {F : Nat} {S : St} {rs : St}  (hf : T_next F S = some rs) : MV shN w l0 y_T_next b_T_next 2 7 [.ref (w.1 7)] S rs := by
  refine MV.of (by decide) (Nat.le_of_ble_eq_true rfl) rfl (fun x hnL C hR => ?_)
  rw [T_next] at hf
  refine x_aload_n C d_T_next_0 0 rfl ?_
  refine x_aload_n C d_T_next_1 0 rfl ?_
  refine x_aload_n C d_T_next_2 0 rfl ?_
  refine x_get C d_T_next_3 f_T_ahead wd202 rfl rfl ?_
  refine x_bipush C d_T_next_6 32 ?_
  refine x_bipush C d_T_next_8 32 ?_
  refine x_cvr C d_T_next_10 wd395 cm_T_endOfRun rfl rfl [.int (S.1 7 5), .int 32, .int 32] rfl rfl (by decide) (Nat.le_of_ble_eq_true rfl) hf (fun _ h => m_T_endOfRun h) (fun v1 hf hb_v1 => ?_)
  refine x_put C d_T_next_13 f_T_start wd198 rfl rfl hf (fun S2 hf => ?_)
  refine x_aload_n C d_T_next_16 0 rfl ?_
  refine x_iconst C d_T_next_17 0 ?_
  refine x_put C d_T_next_18 f_T_value wd200 rfl rfl hf (fun S3 hf => ?_)
  refine x_aload_n C d_T_next_21 0 rfl ?_
  refine x_aload_n C d_T_next_22 0 rfl ?_
  refine x_get C d_T_next_23 f_T_start wd198 rfl rfl ?_
  refine x_iconst C d_T_next_26 1 ?_
  refine x_iadd C d_T_next_27 ?_
  refine x_put C d_T_next_28 f_T_ahead wd202 rfl rfl hf (fun S4 hf => ?_)
  refine x_aload_n C d_T_next_31 0 rfl ?_
  refine x_aload_n C d_T_next_32 0 rfl ?_
  refine x_get C d_T_next_33 f_T_start wd198 rfl rfl ?_
  refine x_cvr C d_T_next_36 wd399 cm_T_byteAt rfl rfl [.int (S4.1 7 2)] rfl rfl (by decide) (Nat.le_of_ble_eq_true rfl) hf (fun _ h => m_T_byteAt h) (fun v5 hf hb_v5 => ?_)
  refine x_istore_n C d_T_next_39 [(1, .int v5), (0, .ref (w.1 7))] (by rw [hnL]; decide) rfl ?_
  refine x_aload_n C d_T_next_40 1 rfl ?_
  refine x_get C d_T_next_41 f_T_start wd198 rfl rfl ?_
  refine x_aload_n C d_T_next_44 1 rfl ?_
  refine x_get C d_T_next_45 f_T_size wd193 rfl rfl ?_
  refine x_icmp_lt C d_T_next_48 hf (fun hf => ?_) (fun hf => ?_)
  · refine x_iload_n C d_T_next_67 0 rfl ?_
    refine x_bipush C d_T_next_68 97 ?_
    refine x_bipush C d_T_next_70 122 ?_
    refine x_csr C d_T_next_72 wd403 cm_T_isWithin [.int v5, .int 97, .int 122] rfl rfl (by decide) (Nat.le_of_ble_eq_true rfl) hf (fun _ h => m_T_isWithin h) (fun v6 hf hb_v6 => ?_)
    refine x_if_eq C d_T_next_75 hf (fun hf => ?_) (fun hf => ?_)
    · refine x_iload_n C d_T_next_121 0 rfl ?_
      refine x_bipush C d_T_next_122 48 ?_
      refine x_bipush C d_T_next_124 57 ?_
      refine x_csr C d_T_next_126 wd403 cm_T_isWithin [.int v5, .int 48, .int 57] rfl rfl (by decide) (Nat.le_of_ble_eq_true rfl) hf (fun _ h => m_T_isWithin h) (fun v7 hf hb_v7 => ?_)
      refine x_if_eq C d_T_next_129 hf (fun hf => ?_) (fun hf => ?_)
      · refine x_aload_n C d_T_next_139 1 rfl ?_
        refine x_iload_n C d_T_next_140 0 rfl ?_
        refine x_bipush C d_T_next_141 59 ?_
        refine x_jn (fun J9 => ∀ (v8 : Int32), J9 v8 = some rs → WX shN w x S4 151 [] [.int v8, .ref (w.1 7)]) hf (fun v8 hf => ?_) (fun J9 hJ9 hf => ?_)
        · refine x_put C d_T_next_151 f_T_kind wd196 rfl rfl hf (fun S10 hf => ?_)
          exact hR _ _ _ d_T_next_154.1 hf
        refine x_icmp_ne C d_T_next_143 hf (fun hf => ?_) (fun hf => ?_)
        · refine x_iconst C d_T_next_146 3 ?_
          refine x_goto C d_T_next_147 ?_
          refine x_sub [] rfl ?_
          exact hJ9 3 hf
        refine x_iconst C d_T_next_150 4 ?_
        refine x_sub [] rfl ?_
        exact hJ9 4 hf
      refine x_aload_n C d_T_next_132 1 rfl ?_
      refine x_cvv C d_T_next_133 wd468 cm_T_nextNumber rfl rfl [] rfl rfl (by decide) (Nat.le_of_ble_eq_true rfl) hf (fun _ h => m_T_nextNumber h) (fun S11 hf => ?_)
      refine x_goto C d_T_next_136 ?_
      exact hR _ _ _ d_T_next_154.1 hf
    refine x_aload_n C d_T_next_78 1 rfl ?_
    refine x_aload_n C d_T_next_79 1 rfl ?_
    refine x_aload_n C d_T_next_80 1 rfl ?_
    refine x_get C d_T_next_81 f_T_start wd198 rfl rfl ?_
    refine x_bipush C d_T_next_84 97 ?_
    refine x_bipush C d_T_next_86 122 ?_
    refine x_cvr C d_T_next_88 wd395 cm_T_endOfRun rfl rfl [.int (S4.1 7 2), .int 97, .int 122] rfl rfl (by decide) (Nat.le_of_ble_eq_true rfl) hf (fun _ h => m_T_endOfRun h) (fun v12 hf hb_v12 => ?_)
    refine x_put C d_T_next_91 f_T_ahead wd202 rfl rfl hf (fun S13 hf => ?_)
    refine x_aload_n C d_T_next_94 1 rfl ?_
    refine x_aload_n C d_T_next_95 1 rfl ?_
    refine x_cvr C d_T_next_96 wd406 cm_T_nameNumber rfl rfl [] rfl rfl (by decide) (Nat.le_of_ble_eq_true rfl) hf (fun _ h => m_T_nameNumber h) (fun v14 hf hb_v14 => ?_)
    refine x_put C d_T_next_99 f_T_value wd200 rfl rfl hf (fun S15 hf => ?_)
    refine x_aload_n C d_T_next_102 1 rfl ?_
    refine x_aload_n C d_T_next_103 1 rfl ?_
    refine x_get C d_T_next_104 f_T_value wd200 rfl rfl ?_
    refine x_jn (fun J17 => ∀ (v16 : Int32), J17 v16 = some rs → WX shN w x S15 115 [] [.int v16, .ref (w.1 7)]) hf (fun v16 hf => ?_) (fun J17 hJ17 hf => ?_)
    · refine x_put C d_T_next_115 f_T_kind wd196 rfl rfl hf (fun S18 hf => ?_)
      refine x_goto C d_T_next_118 ?_
      exact hR _ _ _ d_T_next_154.1 hf
    refine x_if_ne C d_T_next_107 hf (fun hf => ?_) (fun hf => ?_)
    · refine x_iconst C d_T_next_110 4 ?_
      refine x_goto C d_T_next_111 ?_
      refine x_sub [] rfl ?_
      exact hJ17 4 hf
    refine x_iconst C d_T_next_114 1 ?_
    refine x_sub [] rfl ?_
    exact hJ17 1 hf
  refine x_aload_n C d_T_next_51 1 rfl ?_
  refine x_iconst C d_T_next_52 0 ?_
  refine x_put C d_T_next_53 f_T_kind wd196 rfl rfl hf (fun S19 hf => ?_)
  refine x_aload_n C d_T_next_56 1 rfl ?_
  refine x_aload_n C d_T_next_57 1 rfl ?_
  refine x_get C d_T_next_58 f_T_size wd193 rfl rfl ?_
  refine x_put C d_T_next_61 f_T_ahead wd202 rfl rfl hf (fun S20 hf => ?_)
  refine x_goto C d_T_next_64 ?_
  exact hR _ _ _ d_T_next_154.1 hf
set_option maxRecDepth 4000 in
theorem m_R_outOfPlace {w : Ww} {l0 : Launch} {F : Nat} {S : St} {rs : Int32}  (hf : R_outOfPlace F S = some rs) : MI shN w l0 y_R_outOfPlace b_R_outOfPlace 1 .int 0 [.ref (w.1 6)] S rs S bzT := by
  refine MI.of (by decide) (Nat.le_of_ble_eq_true rfl) rfl (fun _ _ => rfl) (fun x hnL C hR => ?_)
  rw [R_outOfPlace] at hf
  refine x_aload_n C d_R_outOfPlace_0 0 rfl ?_
  refine x_getr C d_R_outOfPlace_1 f_R_tape wd219 rfl rfl ?_
  refine x_get C d_R_outOfPlace_4 f_T_kind wd195 rfl rfl ?_
  refine x_iconst C d_R_outOfPlace_7 4 ?_
  refine x_icmp_ne C d_R_outOfPlace_8 hf (fun hf => ?_) (fun hf => ?_)
  · refine x_iconst C d_R_outOfPlace_11 1 ?_
    refine x_goto C d_R_outOfPlace_12 ?_
    exact x_retR hR d_R_outOfPlace_16 hf trivial
  refine x_iconst C d_R_outOfPlace_15 2 ?_
  exact x_retR hR d_R_outOfPlace_16 hf trivial
set_option maxRecDepth 4000 in
theorem m_R_isToldAgain {w : Ww} {l0 : Launch} {F : Nat} {S : St} {p1 : Int32} {rs : Int32}  (hf : R_isToldAgain F S p1 = some rs) : MI shN w l0 y_R_isToldAgain b_R_isToldAgain 3 .boolean 0 [.ref (w.1 6), .int p1] S rs S bz01 := by
  refine MI.of (by decide) (Nat.le_of_ble_eq_true rfl) rfl (fun v hb => by rcases hb with rfl | rfl <;> decide) (fun x hnL C hR => ?_)
  rw [R_isToldAgain] at hf
  refine x_bipush C d_R_isToldAgain_0 112 ?_
  refine x_istore_n C d_R_isToldAgain_2 [(2, .int 112), (0, .ref (w.1 6)), (1, .int p1)] (by rw [hnL]; decide) rfl ?_
  refine x_iload_n C d_R_isToldAgain_3 2 rfl ?_
  rcases x_ite hf with ⟨q1, hf⟩ | ⟨q1, hf⟩
  · refine x_tin C d_R_isToldAgain_4 (k := 1) (t := 32) q1 (by decide) (by decide) rfl (by decide) ?_
    refine x_aload_n C d_R_isToldAgain_32 1 rfl ?_
    refine x_get C d_R_isToldAgain_33 f_R_namesTold wd225 rfl rfl ?_
    refine x_iconst C d_R_isToldAgain_36 1 ?_
    refine x_iload_n C d_R_isToldAgain_37 2 rfl ?_
    refine x_ishl C d_R_isToldAgain_38 ?_
    refine x_iload_n C d_R_isToldAgain_39 0 rfl ?_
    refine x_ior C d_R_isToldAgain_40 ?_
    refine x_iand C d_R_isToldAgain_41 ?_
    refine x_if_eq C d_R_isToldAgain_42 hf (fun hf => ?_) (fun hf => ?_)
    · refine x_iconst C d_R_isToldAgain_49 0 ?_
      exact x_retR hR d_R_isToldAgain_50 hf (Or.inl rfl)
    refine x_iconst C d_R_isToldAgain_45 1 ?_
    refine x_goto C d_R_isToldAgain_46 ?_
    exact x_retR hR d_R_isToldAgain_50 hf (Or.inr rfl)
  rcases x_ite hf with ⟨q2, hf⟩ | ⟨q2, hf⟩
  · refine x_tin C d_R_isToldAgain_4 (k := 2) (t := 51) q2 (by decide) (by decide) rfl (by decide) ?_
    refine x_aload_n C d_R_isToldAgain_51 1 rfl ?_
    refine x_get C d_R_isToldAgain_52 f_R_namesTold wd225 rfl rfl ?_
    refine x_iconst C d_R_isToldAgain_55 1 ?_
    refine x_iload_n C d_R_isToldAgain_56 2 rfl ?_
    refine x_ishl C d_R_isToldAgain_57 ?_
    refine x_iand C d_R_isToldAgain_58 ?_
    refine x_if_eq C d_R_isToldAgain_59 hf (fun hf => ?_) (fun hf => ?_)
    · refine x_iconst C d_R_isToldAgain_66 0 ?_
      exact x_retR hR d_R_isToldAgain_67 hf (Or.inl rfl)
    refine x_iconst C d_R_isToldAgain_62 1 ?_
    refine x_goto C d_R_isToldAgain_63 ?_
    exact x_retR hR d_R_isToldAgain_67 hf (Or.inr rfl)
  rcases x_ite hf with ⟨q3, hf⟩ | ⟨q3, hf⟩
  · refine x_tin C d_R_isToldAgain_4 (k := 3) (t := 51) q3 (by decide) (by decide) rfl (by decide) ?_
    refine x_aload_n C d_R_isToldAgain_51 1 rfl ?_
    refine x_get C d_R_isToldAgain_52 f_R_namesTold wd225 rfl rfl ?_
    refine x_iconst C d_R_isToldAgain_55 1 ?_
    refine x_iload_n C d_R_isToldAgain_56 2 rfl ?_
    refine x_ishl C d_R_isToldAgain_57 ?_
    refine x_iand C d_R_isToldAgain_58 ?_
    refine x_if_eq C d_R_isToldAgain_59 hf (fun hf => ?_) (fun hf => ?_)
    · refine x_iconst C d_R_isToldAgain_66 0 ?_
      exact x_retR hR d_R_isToldAgain_67 hf (Or.inl rfl)
    refine x_iconst C d_R_isToldAgain_62 1 ?_
    refine x_goto C d_R_isToldAgain_63 ?_
    exact x_retR hR d_R_isToldAgain_67 hf (Or.inr rfl)
  refine x_tout C d_R_isToldAgain_4 (t := 68) (by have tq1 := lv_neT q1 (a := 1) (by decide); have tq2 := lv_neT q2 (a := 2) (by decide); have tq3 := lv_neT q3 (a := 3) (by decide); omega) (by decide) ?_
  refine x_iconst C d_R_isToldAgain_68 0 ?_
  exact x_retR hR d_R_isToldAgain_69 hf (Or.inl rfl)
set_option maxRecDepth 4000 in
theorem m_R_fewestNumbers {w : Ww} {l0 : Launch} {F : Nat} {S : St} {p1 : Int32} {rs : Int32}  (hf : R_fewestNumbers F S p1 = some rs) : MI shN w l0 y_R_fewestNumbers b_R_fewestNumbers 1 .int 0 [.int p1] S rs S bzT := by
  refine MI.of (by decide) (Nat.le_of_ble_eq_true rfl) rfl (fun _ _ => rfl) (fun x hnL C hR => ?_)
  rw [R_fewestNumbers] at hf
  refine x_iload_n C d_R_fewestNumbers_0 0 rfl ?_
  refine x_bipush C d_R_fewestNumbers_1 6 ?_
  refine x_icmp_ne C d_R_fewestNumbers_3 hf (fun hf => ?_) (fun hf => ?_)
  · refine x_iconst C d_R_fewestNumbers_6 3 ?_
    refine x_goto C d_R_fewestNumbers_7 ?_
    exact x_retR hR d_R_fewestNumbers_11 hf trivial
  refine x_iconst C d_R_fewestNumbers_10 1 ?_
  exact x_retR hR d_R_fewestNumbers_11 hf trivial
set_option maxRecDepth 4000 in
theorem m_R_mostNumbers {w : Ww} {l0 : Launch} {F : Nat} {S : St} {p1 : Int32} {rs : Int32}  (hf : R_mostNumbers F S p1 = some rs) : MI shN w l0 y_R_mostNumbers b_R_mostNumbers 1 .int 1 [.int p1] S rs S bzT := by
  refine MI.of (by decide) (Nat.le_of_ble_eq_true rfl) rfl (fun _ _ => rfl) (fun x hnL C hR => ?_)
  rw [R_mostNumbers] at hf
  refine x_iload_n C d_R_mostNumbers_0 0 rfl ?_
  refine x_iconst C d_R_mostNumbers_1 5 ?_
  refine x_icmp_ne C d_R_mostNumbers_2 hf (fun hf => ?_) (fun hf => ?_)
  · refine x_sipush C d_R_mostNumbers_5 240 ?_
    refine x_goto C d_R_mostNumbers_8 ?_
    exact x_retR hR d_R_mostNumbers_15 hf trivial
  refine x_iload_n C d_R_mostNumbers_11 0 rfl ?_
  refine x_csr C d_R_mostNumbers_12 wd484 cm_R_fewestNumbers [.int p1] rfl rfl (by decide) (Nat.le_of_ble_eq_true rfl) hf (fun _ h => m_R_fewestNumbers h) (fun v1 hf hb_v1 => ?_)
  exact x_retR hR d_R_mostNumbers_15 hf trivial
set_option maxRecDepth 4000 in
theorem m_R_takeWires {w : Ww} {l0 : Launch} {F : Nat} {S : St} {p1 : Int32} {r : Int32} {S9 : St}  (hf : R_takeWires F S p1 = some (r, S9)) : MI shN w l0 y_R_takeWires b_R_takeWires 2 .int 0 [.ref (w.1 6), .int p1] S r S9 bzT := by
  refine MI.of (by decide) (Nat.le_of_ble_eq_true rfl) rfl (fun _ _ => rfl) (fun x hnL C hR => ?_)
  rw [R_takeWires] at hf
  refine x_iload_n C d_R_takeWires_0 1 rfl ?_
  refine x_iconst C d_R_takeWires_1 2 ?_
  refine x_icmp_lt C d_R_takeWires_2 hf (fun hf => ?_) (fun hf => ?_)
  · refine x_iconst C d_R_takeWires_11 3 ?_
    exact hR _ _ _ _ d_R_takeWires_12.1 hf trivial
  refine x_iload_n C d_R_takeWires_5 1 rfl ?_
  refine x_bipush C d_R_takeWires_6 8 ?_
  refine x_icmp_le C d_R_takeWires_8 hf (fun hf => ?_) (fun hf => ?_)
  · refine x_iconst C d_R_takeWires_11 3 ?_
    exact hR _ _ _ _ d_R_takeWires_12.1 hf trivial
  refine x_aload_n C d_R_takeWires_13 0 rfl ?_
  refine x_getr C d_R_takeWires_14 f_R_told wd221 rfl rfl ?_
  refine x_iload_n C d_R_takeWires_17 1 rfl ?_
  refine x_put C d_R_takeWires_18 f_P_wires wd112 rfl rfl hf (fun S1 hf => ?_)
  refine x_iconst C d_R_takeWires_21 0 ?_
  exact hR _ _ _ _ d_R_takeWires_22.1 hf trivial
set_option maxRecDepth 4000 in
theorem m_P_isGap {w : Ww} {l0 : Launch} {F : Nat} {P : Nat} {S : St} {p1 : Int32} {rs : Int32} (hP : isP P) (hf : P_isGap F P S p1 = some rs) : MI shN w l0 y_P_isGap b_P_isGap 2 .boolean 0 [.ref (w.1 P), .int p1] S rs S bz01 := by
  refine MI.of (by decide) (Nat.le_of_ble_eq_true rfl) rfl (fun v hb => by rcases hb with rfl | rfl <;> decide) (fun x hnL C hR => ?_)
  rw [P_isGap] at hf
  refine x_iload_n C d_P_isGap_0 1 rfl ?_
  refine x_jn (fun J1 => J1  = some rs → WX shN w x S 18 [] []) hf (fun hf => ?_) (fun J1 hJ1 hf => ?_)
  · refine x_iconst C d_P_isGap_18 0 ?_
    exact x_retR hR d_P_isGap_19 hf (Or.inl rfl)
  refine x_if_lt C d_P_isGap_1 hf (fun hf => ?_) (fun hf => ?_)
  · refine x_sub [] rfl ?_
    exact hJ1  hf
  refine x_iload_n C d_P_isGap_4 1 rfl ?_
  refine x_aload_n C d_P_isGap_5 0 rfl ?_
  refine x_get C d_P_isGap_6 f_P_wires wd109 hP.1 rfl ?_
  refine x_iconst C d_P_isGap_9 1 ?_
  refine x_isub C d_P_isGap_10 ?_
  refine x_icmp_ge C d_P_isGap_11 hf (fun hf => ?_) (fun hf => ?_)
  · refine x_iconst C d_P_isGap_14 1 ?_
    refine x_goto C d_P_isGap_15 ?_
    exact x_retR hR d_P_isGap_19 hf (Or.inr rfl)
  refine x_sub [] rfl ?_
  exact hJ1  hf
set_option maxRecDepth 4000 in
theorem m_P_shieldAt {w : Ww} {l0 : Launch} {F : Nat} {P : Nat} {S : St} {p1 : Int32} {rs : Int32} (hP : isP P) (hf : P_shieldAt F P S p1 = some rs) : MI shN w l0 y_P_shieldAt b_P_shieldAt 2 .int 1 [.ref (w.1 P), .int p1] S rs S bzT := by
  refine MI.of (by decide) (Nat.le_of_ble_eq_true rfl) rfl (fun _ _ => rfl) (fun x hnL C hR => ?_)
  rw [P_shieldAt] at hf
  refine x_aload_n C d_P_shieldAt_0 0 rfl ?_
  refine x_iload_n C d_P_shieldAt_1 1 rfl ?_
  refine x_cvr C d_P_shieldAt_2 wd510 cm_P_isGap rfl hP.1 [.int p1] rfl rfl (by decide) (Nat.le_of_ble_eq_true rfl) hf (fun _ h => m_P_isGap hP h) (fun v1 hf hb_v1 => ?_)
  refine x_if_eq C d_P_shieldAt_5 hf (fun hf => ?_) (fun hf => ?_)
  · refine x_iconst C d_P_shieldAt_19 0 ?_
    exact x_retR hR d_P_shieldAt_20 hf trivial
  refine x_aload_n C d_P_shieldAt_8 0 rfl ?_
  refine x_get C d_P_shieldAt_9 f_P_shields wd124 hP.1 rfl ?_
  refine x_iload_n C d_P_shieldAt_12 1 rfl ?_
  refine x_ishr C d_P_shieldAt_13 ?_
  refine x_iconst C d_P_shieldAt_14 1 ?_
  refine x_iand C d_P_shieldAt_15 ?_
  refine x_goto C d_P_shieldAt_16 ?_
  exact x_retR hR d_P_shieldAt_20 hf trivial
set_option maxRecDepth 4000 in
theorem m_P_putShield {w : Ww} {l0 : Launch} {F : Nat} {P : Nat} {S : St} {p1 : Int32} {p2 : Int32} {rs : St} (hP : isP P) (hf : P_putShield F P S p1 p2 = some rs) : MV shN w l0 y_P_putShield b_P_putShield 3 0 [.ref (w.1 P), .int p1, .int p2] S rs := by
  refine MV.of (by decide) (Nat.le_of_ble_eq_true rfl) rfl (fun x hnL C hR => ?_)
  rw [P_putShield] at hf
  refine x_aload_n C d_P_putShield_0 0 rfl ?_
  refine x_iload_n C d_P_putShield_1 2 rfl ?_
  refine x_jn (fun J2 => ∀ (v1 : Int32), J2 v1 = some rs → WX shN w x S 26 [] [.int v1, .ref (w.1 P)]) hf (fun v1 hf => ?_) (fun J2 hJ2 hf => ?_)
  · refine x_put C d_P_putShield_26 f_P_shields wd124 hP.1 rfl hf (fun S3 hf => ?_)
    exact hR _ _ _ d_P_putShield_29.1 hf
  refine x_if_eq C d_P_putShield_2 hf (fun hf => ?_) (fun hf => ?_)
  · refine x_aload_n C d_P_putShield_16 0 rfl ?_
    refine x_get C d_P_putShield_17 f_P_shields wd124 hP.1 rfl ?_
    refine x_iconst C d_P_putShield_20 1 ?_
    refine x_iload_n C d_P_putShield_21 1 rfl ?_
    refine x_ishl C d_P_putShield_22 ?_
    refine x_iconst C d_P_putShield_23 (-1) ?_
    refine x_ixor C d_P_putShield_24 ?_
    refine x_iand C d_P_putShield_25 ?_
    refine x_sub [] rfl ?_
    exact hJ2 ((S.1 P 3) &&& ((jshl 1 p1) ^^^ (-1))) hf
  refine x_aload_n C d_P_putShield_5 0 rfl ?_
  refine x_get C d_P_putShield_6 f_P_shields wd124 hP.1 rfl ?_
  refine x_iconst C d_P_putShield_9 1 ?_
  refine x_iload_n C d_P_putShield_10 1 rfl ?_
  refine x_ishl C d_P_putShield_11 ?_
  refine x_ior C d_P_putShield_12 ?_
  refine x_goto C d_P_putShield_13 ?_
  refine x_sub [] rfl ?_
  exact hJ2 ((S.1 P 3) ||| (jshl 1 p1)) hf
set_option maxRecDepth 4000 in
theorem m_R_takeShield {w : Ww} {l0 : Launch} {F : Nat} {S : St} {p1 : Int32} {r : Int32} {S9 : St}  (hf : R_takeShield F S p1 = some (r, S9)) : MI shN w l0 y_R_takeShield b_R_takeShield 2 .int 2 [.ref (w.1 6), .int p1] S r S9 bzT := by
  refine MI.of (by decide) (Nat.le_of_ble_eq_true rfl) rfl (fun _ _ => rfl) (fun x hnL C hR => ?_)
  rw [R_takeShield] at hf
  refine x_aload_n C d_R_takeShield_0 0 rfl ?_
  refine x_getr C d_R_takeShield_1 f_R_told wd221 rfl rfl ?_
  refine x_iload_n C d_R_takeShield_4 1 rfl ?_
  refine x_cvr C d_R_takeShield_5 wd502 cm_P_isGap rfl rfl [.int p1] rfl rfl (by decide) (Nat.le_of_ble_eq_true rfl) hf (fun _ h => m_P_isGap isP9 h) (fun v1 hf hb_v1 => ?_)
  refine x_if_ne C d_R_takeShield_8 hf (fun hf => ?_) (fun hf => ?_)
  · refine x_iconst C d_R_takeShield_11 3 ?_
    exact hR _ _ _ _ d_R_takeShield_12.1 hf trivial
  refine x_aload_n C d_R_takeShield_13 0 rfl ?_
  refine x_getr C d_R_takeShield_14 f_R_told wd221 rfl rfl ?_
  refine x_iload_n C d_R_takeShield_17 1 rfl ?_
  refine x_cvr C d_R_takeShield_18 wd506 cm_P_shieldAt rfl rfl [.int p1] rfl rfl (by decide) (Nat.le_of_ble_eq_true rfl) hf (fun _ h => m_P_shieldAt isP9 h) (fun v2 hf hb_v2 => ?_)
  refine x_iconst C d_R_takeShield_21 1 ?_
  refine x_icmp_ne C d_R_takeShield_22 hf (fun hf => ?_) (fun hf => ?_)
  · refine x_iconst C d_R_takeShield_25 4 ?_
    exact hR _ _ _ _ d_R_takeShield_26.1 hf trivial
  refine x_aload_n C d_R_takeShield_27 0 rfl ?_
  refine x_getr C d_R_takeShield_28 f_R_told wd221 rfl rfl ?_
  refine x_iload_n C d_R_takeShield_31 1 rfl ?_
  refine x_iconst C d_R_takeShield_32 1 ?_
  refine x_cvv C d_R_takeShield_33 wd511 cm_P_putShield rfl rfl [.int p1, .int 1] rfl rfl (by decide) (Nat.le_of_ble_eq_true rfl) hf (fun _ h => m_P_putShield isP9 h) (fun S3 hf => ?_)
  refine x_iconst C d_R_takeShield_36 0 ?_
  exact hR _ _ _ _ d_R_takeShield_37.1 hf trivial
set_option maxRecDepth 4000 in
theorem m_P_words {w : Ww} {l0 : Launch} {F : Nat} {P : Nat} {S : St} {rs : Int32} (hP : isP P) (hf : P_words F P S = some rs) : MI shN w l0 y_P_words b_P_words 1 .int 0 [.ref (w.1 P)] S rs S bzT := by
  refine MI.of (by decide) (Nat.le_of_ble_eq_true rfl) rfl (fun _ _ => rfl) (fun x hnL C hR => ?_)
  rw [P_words] at hf
  refine x_iconst C d_P_words_0 1 ?_
  refine x_aload_n C d_P_words_1 0 rfl ?_
  refine x_get C d_P_words_2 f_P_wires wd109 hP.1 rfl ?_
  refine x_ishl C d_P_words_5 ?_
  exact x_retR hR d_P_words_6 hf trivial
set_option maxRecDepth 4000 in
theorem m_P_isWord {w : Ww} {l0 : Launch} {F : Nat} {P : Nat} {S : St} {p1 : Int32} {rs : Int32} (hP : isP P) (hf : P_isWord F P S p1 = some rs) : MI shN w l0 y_P_isWord b_P_isWord 2 .boolean 1 [.ref (w.1 P), .int p1] S rs S bz01 := by
  refine MI.of (by decide) (Nat.le_of_ble_eq_true rfl) rfl (fun v hb => by rcases hb with rfl | rfl <;> decide) (fun x hnL C hR => ?_)
  rw [P_isWord] at hf
  refine x_iload_n C d_P_isWord_0 1 rfl ?_
  refine x_jn (fun J1 => J1  = some rs → WX shN w x S 16 [] []) hf (fun hf => ?_) (fun J1 hJ1 hf => ?_)
  · refine x_iconst C d_P_isWord_16 0 ?_
    exact x_retR hR d_P_isWord_17 hf (Or.inl rfl)
  refine x_if_lt C d_P_isWord_1 hf (fun hf => ?_) (fun hf => ?_)
  · refine x_sub [] rfl ?_
    exact hJ1  hf
  refine x_iload_n C d_P_isWord_4 1 rfl ?_
  refine x_aload_n C d_P_isWord_5 0 rfl ?_
  refine x_cvr C d_P_isWord_6 wd523 cm_P_words rfl hP.1 [] rfl rfl (by decide) (Nat.le_of_ble_eq_true rfl) hf (fun _ h => m_P_words hP h) (fun v2 hf hb_v2 => ?_)
  refine x_icmp_ge C d_P_isWord_9 hf (fun hf => ?_) (fun hf => ?_)
  · refine x_iconst C d_P_isWord_12 1 ?_
    refine x_goto C d_P_isWord_13 ?_
    exact x_retR hR d_P_isWord_17 hf (Or.inr rfl)
  refine x_sub [] rfl ?_
  exact hJ1  hf
set_option maxRecDepth 4000 in
theorem m_P_append {w : Ww} {l0 : Launch} {F : Nat} {P : Nat} {S : St} {p1 : Int32} {r : Int32} {S9 : St} (hP : isP P) (hf : P_append F P S p1 = some (r, S9)) : MI shN w l0 y_P_append b_P_append 2 .boolean 0 [.ref (w.1 P), .int p1] S r S9 bz01 := by
  refine MI.of (by decide) (Nat.le_of_ble_eq_true rfl) rfl (fun v hb => by rcases hb with rfl | rfl <;> decide) (fun x hnL C hR => ?_)
  rw [P_append] at hf
  refine x_aload_n C d_P_append_0 0 rfl ?_
  refine x_get C d_P_append_1 f_P_length wd127 hP.1 rfl ?_
  refine x_if_lt C d_P_append_4 hf (fun hf => ?_) (fun hf => ?_)
  · refine x_iconst C d_P_append_19 0 ?_
    exact hR _ _ _ _ d_P_append_20.1 hf (Or.inl rfl)
  refine x_aload_n C d_P_append_7 0 rfl ?_
  refine x_get C d_P_append_8 f_P_length wd127 hP.1 rfl ?_
  refine x_aload_n C d_P_append_11 0 rfl ?_
  refine x_getr C d_P_append_12 f_P_row wd133 hP.1 rfl ?_
  refine x_alen C (40) d_P_append_15 hP.2.2.1 rfl (by decide) ?_
  refine x_icmp_lt C d_P_append_16 hf (fun hf => ?_) (fun hf => ?_)
  · refine x_aload_n C d_P_append_21 0 rfl ?_
    refine x_getr C d_P_append_22 f_P_row wd133 hP.1 rfl ?_
    refine x_aload_n C d_P_append_25 0 rfl ?_
    refine x_get C d_P_append_26 f_P_length wd127 hP.1 rfl ?_
    refine x_iload_n C d_P_append_29 1 rfl ?_
    refine x_iast C d_P_append_30 hP.2.2.1 hf (fun S1 hf => ?_)
    refine x_aload_n C d_P_append_31 0 rfl ?_
    refine x_dup C d_P_append_32 rfl ?_
    refine x_get C d_P_append_33 f_P_length wd127 hP.1 rfl ?_
    refine x_iconst C d_P_append_36 1 ?_
    refine x_iadd C d_P_append_37 ?_
    refine x_put C d_P_append_38 f_P_length wd127 hP.1 rfl hf (fun S2 hf => ?_)
    refine x_iconst C d_P_append_41 1 ?_
    exact hR _ _ _ _ d_P_append_42.1 hf (Or.inr rfl)
  refine x_iconst C d_P_append_19 0 ?_
  exact hR _ _ _ _ d_P_append_20.1 hf (Or.inl rfl)
set_option maxRecDepth 4000 in
theorem m_R_takeWord {w : Ww} {l0 : Launch} {F : Nat} {S : St} {p1 : Int32} {r : Int32} {S9 : St}  (hf : R_takeWord F S p1 = some (r, S9)) : MI shN w l0 y_R_takeWord b_R_takeWord 2 .int 2 [.ref (w.1 6), .int p1] S r S9 bzT := by
  refine MI.of (by decide) (Nat.le_of_ble_eq_true rfl) rfl (fun _ _ => rfl) (fun x hnL C hR => ?_)
  rw [R_takeWord] at hf
  refine x_aload_n C d_R_takeWord_0 0 rfl ?_
  refine x_getr C d_R_takeWord_1 f_R_told wd221 rfl rfl ?_
  refine x_iload_n C d_R_takeWord_4 1 rfl ?_
  refine x_cvr C d_R_takeWord_5 wd519 cm_P_isWord rfl rfl [.int p1] rfl rfl (by decide) (Nat.le_of_ble_eq_true rfl) hf (fun _ h => m_P_isWord isP9 h) (fun v1 hf hb_v1 => ?_)
  refine x_if_ne C d_R_takeWord_8 hf (fun hf => ?_) (fun hf => ?_)
  · refine x_iconst C d_R_takeWord_11 3 ?_
    exact hR _ _ _ _ d_R_takeWord_12.1 hf trivial
  refine x_aload_n C d_R_takeWord_13 0 rfl ?_
  refine x_getr C d_R_takeWord_14 f_R_told wd221 rfl rfl ?_
  refine x_iload_n C d_R_takeWord_17 1 rfl ?_
  refine x_cvi C d_R_takeWord_18 wd527 cm_P_append rfl rfl [.int p1] rfl rfl (by decide) (Nat.le_of_ble_eq_true rfl) hf (fun _ _ h => m_P_append isP9 h) (fun v2 S3 hf hb_v2 => ?_)
  refine x_if_eq C d_R_takeWord_21 hf (fun hf => ?_) (fun hf => ?_)
  · refine x_iconst C d_R_takeWord_28 5 ?_
    exact hR _ _ _ _ d_R_takeWord_29.1 hf trivial
  refine x_iconst C d_R_takeWord_24 0 ?_
  refine x_goto C d_R_takeWord_25 ?_
  exact hR _ _ _ _ d_R_takeWord_29.1 hf trivial
set_option maxRecDepth 4000 in
theorem w_R_takeSteps_L31 {w : Ww} {l0 : Launch} {x : Cx} {F : Nat} {p1 : Int32} {rs : (Int32 × St)}  (hnL : x.2.2.2.2.2.2.2.2.2.2.2.2 = 3) (C : XC shN w "NeighbourWires$Reader" b_R_takeSteps l0 1 x) (hR : RI shN w b_R_takeSteps bzT rs x)   : ∀ (n : Nat) (S1 : St) (v2 : Int32), R_takeSteps_L31 F p1 n S1 v2 = some rs → WX shN w x S1 31 [(0, .ref (w.1 6)), (1, .int p1), (2, .int v2)] [] := by
  intro n
  induction n with
  | zero => intro S1 v2 hf; cases hf
  | succ n ih =>
    intro S1 v2 hf
    rw [R_takeSteps_L31] at hf
    refine x_iload_n C d_R_takeSteps_31 2 rfl ?_
    refine x_iload_n C d_R_takeSteps_32 1 rfl ?_
    refine x_icmp_ge C d_R_takeSteps_33 hf (fun hf => ?_) (fun hf => ?_)
    · refine x_aload_n C d_R_takeSteps_36 0 rfl ?_
      refine x_getr C d_R_takeSteps_37 f_R_told wd221 rfl rfl ?_
      refine x_aload_n C d_R_takeSteps_40 0 rfl ?_
      refine x_get C d_R_takeSteps_41 f_R_stepFrom wd226 rfl rfl ?_
      refine x_iload_n C d_R_takeSteps_44 2 rfl ?_
      refine x_aload_n C d_R_takeSteps_45 0 rfl ?_
      refine x_get C d_R_takeSteps_46 f_R_stepBy wd227 rfl rfl ?_
      refine x_imul C d_R_takeSteps_49 ?_
      refine x_iadd C d_R_takeSteps_50 ?_
      refine x_aload_n C d_R_takeSteps_51 0 rfl ?_
      refine x_getr C d_R_takeSteps_52 f_R_told wd221 rfl rfl ?_
      refine x_cvr C d_R_takeSteps_55 wd539 cm_P_words rfl rfl [] rfl rfl (by decide) (Nat.le_of_ble_eq_true rfl) hf (fun _ h => m_P_words isP9 h) (fun v3 hf hb_v3 => ?_)
      refine x_iconst C d_R_takeSteps_58 1 ?_
      refine x_isub C d_R_takeSteps_59 ?_
      refine x_iand C d_R_takeSteps_60 ?_
      refine x_cvi C d_R_takeSteps_61 wd527 cm_P_append rfl rfl [.int (((S1.1 6 4) + (v2 * (S1.1 6 5))) &&& (v3 - 1))] rfl rfl (by decide) (Nat.le_of_ble_eq_true rfl) hf (fun _ _ h => m_P_append isP9 h) (fun v4 S5 hf hb_v4 => ?_)
      refine x_pop C d_R_takeSteps_64 rfl ?_
      refine x_iinc C 1 d_R_takeSteps_65 2 rfl (by rw [hnL]; decide) hf (fun v6 => [(2, .int v6), (0, .ref (w.1 6)), (1, .int p1)]) (fun _ => rfl) (fun v6 hf => ?_)
      refine x_goto C d_R_takeSteps_68 ?_
      refine x_sub [1, 2, 0] rfl ?_
      exact ih S5 v6 hf
    refine x_iconst C d_R_takeSteps_71 0 ?_
    exact hR _ _ _ _ d_R_takeSteps_72.1 hf trivial
set_option maxRecDepth 4000 in
theorem m_R_takeSteps {w : Ww} {l0 : Launch} {F : Nat} {S : St} {p1 : Int32} {r : Int32} {S9 : St}  (hf : R_takeSteps F S p1 = some (r, S9)) : MI shN w l0 y_R_takeSteps b_R_takeSteps 3 .int 1 [.ref (w.1 6), .int p1] S r S9 bzT := by
  refine MI.of (by decide) (Nat.le_of_ble_eq_true rfl) rfl (fun _ _ => rfl) (fun x hnL C hR => ?_)
  rw [R_takeSteps] at hf
  refine x_iload_n C d_R_takeSteps_0 1 rfl ?_
  refine x_iconst C d_R_takeSteps_1 1 ?_
  refine x_icmp_lt C d_R_takeSteps_2 hf (fun hf => ?_) (fun hf => ?_)
  · refine x_iconst C d_R_takeSteps_11 3 ?_
    exact hR _ _ _ _ d_R_takeSteps_12.1 hf trivial
  refine x_iload_n C d_R_takeSteps_5 1 rfl ?_
  refine x_bipush C d_R_takeSteps_6 40 ?_
  refine x_icmp_le C d_R_takeSteps_8 hf (fun hf => ?_) (fun hf => ?_)
  · refine x_iconst C d_R_takeSteps_11 3 ?_
    exact hR _ _ _ _ d_R_takeSteps_12.1 hf trivial
  refine x_aload_n C d_R_takeSteps_13 0 rfl ?_
  refine x_getr C d_R_takeSteps_14 f_R_told wd221 rfl rfl ?_
  refine x_get C d_R_takeSteps_17 f_P_length wd131 rfl rfl ?_
  refine x_iload_n C d_R_takeSteps_20 1 rfl ?_
  refine x_iadd C d_R_takeSteps_21 ?_
  refine x_bipush C d_R_takeSteps_22 40 ?_
  refine x_icmp_le C d_R_takeSteps_24 hf (fun hf => ?_) (fun hf => ?_)
  · refine x_iconst C d_R_takeSteps_27 5 ?_
    exact hR _ _ _ _ d_R_takeSteps_28.1 hf trivial
  refine x_iconst C d_R_takeSteps_29 0 ?_
  refine x_istore_n C d_R_takeSteps_30 [(2, .int 0), (0, .ref (w.1 6)), (1, .int p1)] (by rw [hnL]; decide) rfl ?_
  refine x_sub [1, 2, 0] rfl ?_
  exact w_R_takeSteps_L31 hnL C hR  F S 0 hf
set_option maxRecDepth 4000 in
theorem m_R_takeStep {w : Ww} {l0 : Launch} {F : Nat} {S : St} {p1 : Int32} {p2 : Int32} {r : Int32} {S9 : St}  (hf : R_takeStep F S p1 p2 = some (r, S9)) : MI shN w l0 y_R_takeStep b_R_takeStep 3 .int 2 [.ref (w.1 6), .int p1, .int p2] S r S9 bzT := by
  refine MI.of (by decide) (Nat.le_of_ble_eq_true rfl) rfl (fun _ _ => rfl) (fun x hnL C hR => ?_)
  rw [R_takeStep] at hf
  refine x_iload_n C d_R_takeStep_0 1 rfl ?_
  refine x_if_ne C d_R_takeStep_1 hf (fun hf => ?_) (fun hf => ?_)
  · refine x_aload_n C d_R_takeStep_4 0 rfl ?_
    refine x_iload_n C d_R_takeStep_5 2 rfl ?_
    refine x_put C d_R_takeStep_6 f_R_stepFrom wd226 rfl rfl hf (fun S1 hf => ?_)
    refine x_aload_n C d_R_takeStep_9 0 rfl ?_
    refine x_getr C d_R_takeStep_10 f_R_told wd221 rfl rfl ?_
    refine x_iload_n C d_R_takeStep_13 2 rfl ?_
    refine x_cvr C d_R_takeStep_14 wd519 cm_P_isWord rfl rfl [.int p2] rfl rfl (by decide) (Nat.le_of_ble_eq_true rfl) hf (fun _ h => m_P_isWord isP9 h) (fun v2 hf hb_v2 => ?_)
    refine x_if_eq C d_R_takeStep_17 hf (fun hf => ?_) (fun hf => ?_)
    · refine x_iconst C d_R_takeStep_24 3 ?_
      exact hR _ _ _ _ d_R_takeStep_25.1 hf trivial
    refine x_iconst C d_R_takeStep_20 0 ?_
    refine x_goto C d_R_takeStep_21 ?_
    exact hR _ _ _ _ d_R_takeStep_25.1 hf trivial
  refine x_iload_n C d_R_takeStep_26 1 rfl ?_
  refine x_iconst C d_R_takeStep_27 1 ?_
  refine x_icmp_ne C d_R_takeStep_28 hf (fun hf => ?_) (fun hf => ?_)
  · refine x_aload_n C d_R_takeStep_31 0 rfl ?_
    refine x_iload_n C d_R_takeStep_32 2 rfl ?_
    refine x_put C d_R_takeStep_33 f_R_stepBy wd227 rfl rfl hf (fun S3 hf => ?_)
    refine x_iload_n C d_R_takeStep_36 2 rfl ?_
    refine x_sipush C d_R_takeStep_37 255 ?_
    refine x_icmp_le C d_R_takeStep_40 hf (fun hf => ?_) (fun hf => ?_)
    · refine x_iconst C d_R_takeStep_43 3 ?_
      refine x_goto C d_R_takeStep_44 ?_
      exact hR _ _ _ _ d_R_takeStep_48.1 hf trivial
    refine x_iconst C d_R_takeStep_47 0 ?_
    exact hR _ _ _ _ d_R_takeStep_48.1 hf trivial
  refine x_aload_n C d_R_takeStep_49 0 rfl ?_
  refine x_iload_n C d_R_takeStep_50 2 rfl ?_
  refine x_cvi C d_R_takeStep_51 wd535 cm_R_takeSteps rfl rfl [.int p2] rfl rfl (by decide) (Nat.le_of_ble_eq_true rfl) hf (fun _ _ h => m_R_takeSteps h) (fun v4 S5 hf hb_v4 => ?_)
  exact hR _ _ _ _ d_R_takeStep_54.1 hf trivial
