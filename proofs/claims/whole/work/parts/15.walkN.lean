set_option maxRecDepth 4000 in
theorem w_N_lesser_L5 {w : Ww} {l0 : Launch} {x : Cx} {F : Nat} {p1 : Int32} {p2 : Int32} {S : St} {rs : Int32}  (hnL : x.2.2.2.2.2.2.2.2.2.2.2.2 = 5) (C : XC shN w "NeighbourWires" b_N_lesser l0 1 x) (hR : RI shN w b_N_lesser bzT (rs, S) x)   : ∀ (n : Nat) (v1 : Int32) (v2 : Int32), N_lesser_L5 F p1 p2 S n v1 v2 = some rs → WX shN w x S 5 [(0, .ref (w.1 0)), (1, .int p1), (2, .int p2), (3, .int v1), (4, .int v2)] [] := by
  intro n
  induction n with
  | zero => intro v1 v2 hf; cases hf
  | succ n ih =>
    intro v1 v2 hf
    rw [N_lesser_L5] at hf
    refine x_iload C d_N_lesser_5 4 rfl ?_
    refine x_iload_n C d_N_lesser_7 2 rfl ?_
    refine x_icmp_ge C d_N_lesser_8 hf (fun hf => ?_) (fun hf => ?_)
    · refine x_aload_n C d_N_lesser_11 0 rfl ?_
      refine x_iload_n C d_N_lesser_12 1 rfl ?_
      refine x_iload C d_N_lesser_13 4 rfl ?_
      refine x_cvr C d_N_lesser_15 wd784 cm_N_isInBook rfl rfl [.int p1, .int v2] rfl rfl (by decide) (Nat.le_of_ble_eq_true rfl) hf (fun _ h => m_N_isInBook h) (fun v3 hf hb_v3 => ?_)
      refine x_jn (fun J5 => ∀ (v4 : Int32), J5 v4 = some rs → WX shN w x S 24 [(0, .ref (w.1 0)), (1, .int p1), (2, .int p2), (3, .int v4), (4, .int v2)] []) hf (fun v4 hf => ?_) (fun J5 hJ5 hf => ?_)
      · refine x_iinc C 1 d_N_lesser_24 4 rfl (by rw [hnL]; decide) hf (fun v6 => [(4, .int v6), (0, .ref (w.1 0)), (1, .int p1), (2, .int p2), (3, .int v4)]) (fun _ => rfl) (fun v6 hf => ?_)
        refine x_goto C d_N_lesser_27 ?_
        refine x_sub [1, 2, 3, 4, 0] rfl ?_
        exact ih v4 v6 hf
      refine x_if_eq C d_N_lesser_18 hf (fun hf => ?_) (fun hf => ?_)
      · exact hJ5 v1 hf
      refine x_iinc C 1 d_N_lesser_21 3 rfl (by rw [hnL]; decide) hf (fun v7 => [(3, .int v7), (0, .ref (w.1 0)), (1, .int p1), (2, .int p2), (4, .int v2)]) (fun _ => rfl) (fun v7 hf => ?_)
      refine x_sub [1, 2, 3, 0, 4] rfl ?_
      exact hJ5 v7 hf
    refine x_iload_n C d_N_lesser_30 3 rfl ?_
    exact x_retR hR d_N_lesser_31 hf trivial
set_option maxRecDepth 4000 in
theorem m_N_lesser {w : Ww} {l0 : Launch} {F : Nat} {S : St} {p1 : Int32} {p2 : Int32} {rs : Int32}  (hf : N_lesser F S p1 p2 = some rs) : MI shN w l0 y_N_lesser b_N_lesser 5 .int 1 [.ref (w.1 0), .int p1, .int p2] S rs S bzT := by
  refine MI.of (by decide) (Nat.le_of_ble_eq_true rfl) rfl (fun _ _ => rfl) (fun x hnL C hR => ?_)
  rw [N_lesser] at hf
  refine x_iconst C d_N_lesser_0 0 ?_
  refine x_istore_n C d_N_lesser_1 [(3, .int 0), (0, .ref (w.1 0)), (1, .int p1), (2, .int p2)] (by rw [hnL]; decide) rfl ?_
  refine x_iconst C d_N_lesser_2 0 ?_
  refine x_istore C d_N_lesser_3 [(4, .int 0), (3, .int 0), (0, .ref (w.1 0)), (1, .int p1), (2, .int p2)] (by rw [hnL]; decide) rfl ?_
  refine x_sub [2, 3, 4, 1, 0] rfl ?_
  exact w_N_lesser_L5 hnL C hR  F 0 0 hf
set_option maxRecDepth 4000 in
theorem m_N_book {w : Ww} {l0 : Launch} {F : Nat} {S : St} {p1 : Int32} {rs : Int32}  (hf : N_book F S p1 = some rs) : MI shN w l0 y_N_book b_N_book 2 .int 2 [.ref (w.1 0), .int p1] S rs S bzT := by
  refine MI.of (by decide) (Nat.le_of_ble_eq_true rfl) rfl (fun _ _ => rfl) (fun x hnL C hR => ?_)
  rw [N_book] at hf
  refine x_iload_n C d_N_book_0 1 rfl ?_
  refine x_csr C d_N_book_1 wd776 cm_N_isKind [.int p1] rfl rfl (by decide) (Nat.le_of_ble_eq_true rfl) hf (fun _ h => m_N_isKind h) (fun v1 hf hb_v1 => ?_)
  refine x_if_eq C d_N_book_4 hf (fun hf => ?_) (fun hf => ?_)
  · refine x_iconst C d_N_book_22 (-1) ?_
    exact x_retR hR d_N_book_23 hf trivial
  refine x_aload_n C d_N_book_7 0 rfl ?_
  refine x_iload_n C d_N_book_8 1 rfl ?_
  refine x_aload_n C d_N_book_9 0 rfl ?_
  refine x_getr C d_N_book_10 f_N_plan wd337 rfl rfl ?_
  refine x_cvr C d_N_book_13 wd779 cm_P_words rfl rfl [] rfl rfl (by decide) (Nat.le_of_ble_eq_true rfl) hf (fun _ h => m_P_words isP1 h) (fun v2 hf hb_v2 => ?_)
  refine x_cvr C d_N_book_16 wd780 cm_N_lesser rfl rfl [.int p1, .int v2] rfl rfl (by decide) (Nat.le_of_ble_eq_true rfl) hf (fun _ h => m_N_lesser h) (fun v3 hf hb_v3 => ?_)
  refine x_goto C d_N_book_19 ?_
  exact x_retR hR d_N_book_23 hf trivial
set_option maxRecDepth 4000 in
theorem w_N_word_L18 {w : Ww} {l0 : Launch} {x : Cx} {F : Nat} {p1 : Int32} {p2 : Int32} {S : St} {rs : Int32}  (hnL : x.2.2.2.2.2.2.2.2.2.2.2.2 = 5) (C : XC shN w "NeighbourWires" b_N_word l0 1 x) (hR : RI shN w b_N_word bzT (rs, S) x)   : ∀ (n : Nat) (v2 : Int32) (v3 : Int32), N_word_L18 F p1 p2 S n v2 v3 = some rs → WX shN w x S 18 [(0, .ref (w.1 0)), (1, .int p1), (2, .int p2), (3, .int v2), (4, .int v3)] [] := by
  intro n
  induction n with
  | zero => intro v2 v3 hf; cases hf
  | succ n ih =>
    intro v2 v3 hf
    rw [N_word_L18] at hf
    refine x_iload C d_N_word_18 4 rfl ?_
    refine x_aload_n C d_N_word_20 0 rfl ?_
    refine x_getr C d_N_word_21 f_N_plan wd337 rfl rfl ?_
    refine x_cvr C d_N_word_24 wd779 cm_P_words rfl rfl [] rfl rfl (by decide) (Nat.le_of_ble_eq_true rfl) hf (fun _ h => m_P_words isP1 h) (fun v4 hf hb_v4 => ?_)
    refine x_icmp_ge C d_N_word_27 hf (fun hf => ?_) (fun hf => ?_)
    · refine x_aload_n C d_N_word_30 0 rfl ?_
      refine x_iload_n C d_N_word_31 1 rfl ?_
      refine x_iload C d_N_word_32 4 rfl ?_
      refine x_cvr C d_N_word_34 wd784 cm_N_isInBook rfl rfl [.int p1, .int v3] rfl rfl (by decide) (Nat.le_of_ble_eq_true rfl) hf (fun _ h => m_N_isInBook h) (fun v5 hf hb_v5 => ?_)
      refine x_jn (fun J7 => ∀ (v6 : Int32), J7 v6 = some rs → WX shN w x S 51 [(0, .ref (w.1 0)), (1, .int p1), (2, .int p2), (3, .int v6), (4, .int v3)] []) hf (fun v6 hf => ?_) (fun J7 hJ7 hf => ?_)
      · refine x_iinc C 1 d_N_word_51 4 rfl (by rw [hnL]; decide) hf (fun v8 => [(4, .int v8), (0, .ref (w.1 0)), (1, .int p1), (2, .int p2), (3, .int v6)]) (fun _ => rfl) (fun v8 hf => ?_)
        refine x_goto C d_N_word_54 ?_
        refine x_sub [1, 2, 3, 4, 0] rfl ?_
        exact ih v6 v8 hf
      refine x_if_eq C d_N_word_37 hf (fun hf => ?_) (fun hf => ?_)
      · exact hJ7 v2 hf
      refine x_iload_n C d_N_word_40 3 rfl ?_
      refine x_iload_n C d_N_word_41 2 rfl ?_
      refine x_icmp_ne C d_N_word_42 hf (fun hf => ?_) (fun hf => ?_)
      · refine x_iload C d_N_word_45 4 rfl ?_
        exact x_retR hR d_N_word_47 hf trivial
      refine x_iinc C 1 d_N_word_48 3 rfl (by rw [hnL]; decide) hf (fun v9 => [(3, .int v9), (0, .ref (w.1 0)), (1, .int p1), (2, .int p2), (4, .int v3)]) (fun _ => rfl) (fun v9 hf => ?_)
      refine x_sub [1, 2, 3, 0, 4] rfl ?_
      exact hJ7 v9 hf
    refine x_bipush C d_N_word_57 (-4) ?_
    exact x_retR hR d_N_word_59 hf trivial
set_option maxRecDepth 4000 in
theorem m_N_word {w : Ww} {l0 : Launch} {F : Nat} {S : St} {p1 : Int32} {p2 : Int32} {rs : Int32}  (hf : N_word F S p1 p2 = some rs) : MI shN w l0 y_N_word b_N_word 5 .int 1 [.ref (w.1 0), .int p1, .int p2] S rs S bzT := by
  refine MI.of (by decide) (Nat.le_of_ble_eq_true rfl) rfl (fun _ _ => rfl) (fun x hnL C hR => ?_)
  rw [N_word] at hf
  refine x_iload_n C d_N_word_0 1 rfl ?_
  refine x_csr C d_N_word_1 wd776 cm_N_isKind [.int p1] rfl rfl (by decide) (Nat.le_of_ble_eq_true rfl) hf (fun _ h => m_N_isKind h) (fun v1 hf hb_v1 => ?_)
  refine x_if_eq C d_N_word_4 hf (fun hf => ?_) (fun hf => ?_)
  · refine x_iconst C d_N_word_11 (-1) ?_
    exact x_retR hR d_N_word_12 hf trivial
  refine x_iload_n C d_N_word_7 2 rfl ?_
  refine x_if_ge C d_N_word_8 hf (fun hf => ?_) (fun hf => ?_)
  · refine x_iconst C d_N_word_11 (-1) ?_
    exact x_retR hR d_N_word_12 hf trivial
  refine x_iconst C d_N_word_13 0 ?_
  refine x_istore_n C d_N_word_14 [(3, .int 0), (0, .ref (w.1 0)), (1, .int p1), (2, .int p2)] (by rw [hnL]; decide) rfl ?_
  refine x_iconst C d_N_word_15 0 ?_
  refine x_istore C d_N_word_16 [(4, .int 0), (3, .int 0), (0, .ref (w.1 0)), (1, .int p1), (2, .int p2)] (by rw [hnL]; decide) rfl ?_
  refine x_sub [2, 3, 4, 1, 0] rfl ?_
  exact w_N_word_L18 hnL C hR  F 0 0 hf
set_option maxRecDepth 4000 in
theorem m_N_place {w : Ww} {l0 : Launch} {F : Nat} {S : St} {p1 : Int32} {p2 : Int32} {rs : Int32}  (hf : N_place F S p1 p2 = some rs) : MI shN w l0 y_N_place b_N_place 3 .int 2 [.ref (w.1 0), .int p1, .int p2] S rs S bzT := by
  refine MI.of (by decide) (Nat.le_of_ble_eq_true rfl) rfl (fun _ _ => rfl) (fun x hnL C hR => ?_)
  rw [N_place] at hf
  refine x_iload_n C d_N_place_0 1 rfl ?_
  refine x_csr C d_N_place_1 wd776 cm_N_isKind [.int p1] rfl rfl (by decide) (Nat.le_of_ble_eq_true rfl) hf (fun _ h => m_N_isKind h) (fun v1 hf hb_v1 => ?_)
  refine x_if_eq C d_N_place_4 hf (fun hf => ?_) (fun hf => ?_)
  · refine x_iconst C d_N_place_18 (-1) ?_
    exact x_retR hR d_N_place_19 hf trivial
  refine x_aload_n C d_N_place_7 0 rfl ?_
  refine x_getr C d_N_place_8 f_N_plan wd337 rfl rfl ?_
  refine x_iload_n C d_N_place_11 2 rfl ?_
  refine x_cvr C d_N_place_12 wd587 cm_P_isWord rfl rfl [.int p2] rfl rfl (by decide) (Nat.le_of_ble_eq_true rfl) hf (fun _ h => m_P_isWord isP1 h) (fun v2 hf hb_v2 => ?_)
  refine x_if_ne C d_N_place_15 hf (fun hf => ?_) (fun hf => ?_)
  · refine x_iconst C d_N_place_18 (-1) ?_
    exact x_retR hR d_N_place_19 hf trivial
  refine x_aload_n C d_N_place_20 0 rfl ?_
  refine x_iload_n C d_N_place_21 1 rfl ?_
  refine x_iload_n C d_N_place_22 2 rfl ?_
  refine x_cvr C d_N_place_23 wd784 cm_N_isInBook rfl rfl [.int p1, .int p2] rfl rfl (by decide) (Nat.le_of_ble_eq_true rfl) hf (fun _ h => m_N_isInBook h) (fun v3 hf hb_v3 => ?_)
  refine x_if_eq C d_N_place_26 hf (fun hf => ?_) (fun hf => ?_)
  · refine x_bipush C d_N_place_38 (-4) ?_
    exact x_retR hR d_N_place_40 hf trivial
  refine x_aload_n C d_N_place_29 0 rfl ?_
  refine x_iload_n C d_N_place_30 1 rfl ?_
  refine x_iload_n C d_N_place_31 2 rfl ?_
  refine x_cvr C d_N_place_32 wd780 cm_N_lesser rfl rfl [.int p1, .int p2] rfl rfl (by decide) (Nat.le_of_ble_eq_true rfl) hf (fun _ h => m_N_lesser h) (fun v4 hf hb_v4 => ?_)
  refine x_goto C d_N_place_35 ?_
  exact x_retR hR d_N_place_40 hf trivial
set_option maxRecDepth 4000 in
theorem w_N_slowestInto_L5 {w : Ww} {l0 : Launch} {x : Cx} {F : Nat} {p1 : Int32} {p2 : Int32} {rs : (Int32 × St)}  (hnL : x.2.2.2.2.2.2.2.2.2.2.2.2 = 5) (C : XC shN w "NeighbourWires" b_N_slowestInto l0 1 x) (hR : RI shN w b_N_slowestInto bzT rs x)   : ∀ (n : Nat) (S1 : St) (v2 : Int32) (v3 : Int32), N_slowestInto_L5 F p1 p2 n S1 v2 v3 = some rs → WX shN w x S1 5 [(0, .ref (w.1 0)), (1, .int p1), (2, .int p2), (3, .int v2), (4, .int v3)] [] := by
  intro n
  induction n with
  | zero => intro S1 v2 v3 hf; cases hf
  | succ n ih =>
    intro S1 v2 v3 hf
    rw [N_slowestInto_L5] at hf
    refine x_iload C d_N_slowestInto_5 4 rfl ?_
    refine x_iload_n C d_N_slowestInto_7 2 rfl ?_
    refine x_icmp_ge C d_N_slowestInto_8 hf (fun hf => ?_) (fun hf => ?_)
    · refine x_aload_n C d_N_slowestInto_11 0 rfl ?_
      refine x_iload_n C d_N_slowestInto_12 1 rfl ?_
      refine x_iload C d_N_slowestInto_13 4 rfl ?_
      refine x_cvr C d_N_slowestInto_15 wd784 cm_N_isInBook rfl rfl [.int p1, .int v3] rfl rfl (by decide) (Nat.le_of_ble_eq_true rfl) hf (fun _ h => m_N_isInBook h) (fun v4 hf hb_v4 => ?_)
      refine x_jn (fun J7 => ∀ (S5 : St) (v6 : Int32), J7 S5 v6 = some rs → WX shN w x S5 51 [(0, .ref (w.1 0)), (1, .int p1), (2, .int p2), (3, .int v6), (4, .int v3)] []) hf (fun S5 v6 hf => ?_) (fun J7 hJ7 hf => ?_)
      · refine x_iinc C 1 d_N_slowestInto_51 4 rfl (by rw [hnL]; decide) hf (fun v8 => [(4, .int v8), (0, .ref (w.1 0)), (1, .int p1), (2, .int p2), (3, .int v6)]) (fun _ => rfl) (fun v8 hf => ?_)
        refine x_goto C d_N_slowestInto_54 ?_
        refine x_sub [1, 2, 3, 4, 0] rfl ?_
        exact ih S5 v6 v8 hf
      refine x_if_eq C d_N_slowestInto_18 hf (fun hf => ?_) (fun hf => ?_)
      · exact hJ7 S1 v2 hf
      refine x_aload_n C d_N_slowestInto_21 0 rfl ?_
      refine x_getr C d_N_slowestInto_22 f_N_change wd338 rfl rfl ?_
      refine x_iload C d_N_slowestInto_25 4 rfl ?_
      refine x_iload_n C d_N_slowestInto_27 2 rfl ?_
      refine x_aload_n C d_N_slowestInto_28 0 rfl ?_
      refine x_getr C d_N_slowestInto_29 f_N_plan wd337 rfl rfl ?_
      refine x_get C d_N_slowestInto_32 f_P_wires wd113 rfl rfl ?_
      refine x_iconst C d_N_slowestInto_35 0 ?_
      refine x_cvv C d_N_slowestInto_36 wd597 cm_C_between rfl rfl [.int v3, .int p2, .int (S1.1 1 0), .int 0] rfl rfl (by decide) (Nat.le_of_ble_eq_true rfl) hf (fun _ h => m_C_between h) (fun S9 hf => ?_)
      refine x_iload_n C d_N_slowestInto_39 3 rfl ?_
      refine x_aload_n C d_N_slowestInto_40 0 rfl ?_
      refine x_getr C d_N_slowestInto_41 f_N_change wd338 rfl rfl ?_
      refine x_cvr C d_N_slowestInto_44 wd615 cm_C_greatestSlow rfl rfl [] rfl rfl (by decide) (Nat.le_of_ble_eq_true rfl) hf (fun _ h => m_C_greatestSlow h) (fun v10 hf hb_v10 => ?_)
      refine x_mmax C d_N_slowestInto_47 wd661 ⟨wd662, wd89, wd663⟩ (by decide) (Nat.le_of_ble_eq_true rfl) ?_
      refine x_bi hf (fun v11 hf => ?_)
      refine x_istore_n C d_N_slowestInto_50 [(3, .int v11), (0, .ref (w.1 0)), (1, .int p1), (2, .int p2), (4, .int v3)] (by rw [hnL]; decide) rfl ?_
      refine x_sub [1, 2, 3, 0, 4] rfl ?_
      exact hJ7 S9 v11 hf
    refine x_iload_n C d_N_slowestInto_57 3 rfl ?_
    exact hR _ _ _ _ d_N_slowestInto_58.1 hf trivial
set_option maxRecDepth 4000 in
theorem m_N_slowestInto {w : Ww} {l0 : Launch} {F : Nat} {S : St} {p1 : Int32} {p2 : Int32} {r : Int32} {S9 : St}  (hf : N_slowestInto F S p1 p2 = some (r, S9)) : MI shN w l0 y_N_slowestInto b_N_slowestInto 5 .int 1 [.ref (w.1 0), .int p1, .int p2] S r S9 bzT := by
  refine MI.of (by decide) (Nat.le_of_ble_eq_true rfl) rfl (fun _ _ => rfl) (fun x hnL C hR => ?_)
  rw [N_slowestInto] at hf
  refine x_iconst C d_N_slowestInto_0 0 ?_
  refine x_istore_n C d_N_slowestInto_1 [(3, .int 0), (0, .ref (w.1 0)), (1, .int p1), (2, .int p2)] (by rw [hnL]; decide) rfl ?_
  refine x_iconst C d_N_slowestInto_2 0 ?_
  refine x_istore C d_N_slowestInto_3 [(4, .int 0), (3, .int 0), (0, .ref (w.1 0)), (1, .int p1), (2, .int p2)] (by rw [hnL]; decide) rfl ?_
  refine x_sub [2, 3, 4, 1, 0] rfl ?_
  exact w_N_slowestInto_L5 hnL C hR  F S 0 0 hf
set_option maxRecDepth 4000 in
theorem w_N_slowest_L13 {w : Ww} {l0 : Launch} {x : Cx} {F : Nat} {p1 : Int32} {rs : (Int32 × St)}  (hnL : x.2.2.2.2.2.2.2.2.2.2.2.2 = 4) (C : XC shN w "NeighbourWires" b_N_slowest l0 2 x) (hR : RI shN w b_N_slowest bzT rs x)   : ∀ (n : Nat) (S2 : St) (v3 : Int32) (v4 : Int32), N_slowest_L13 F p1 n S2 v3 v4 = some rs → WX shN w x S2 13 [(0, .ref (w.1 0)), (1, .int p1), (2, .int v3), (3, .int v4)] [] := by
  intro n
  induction n with
  | zero => intro S2 v3 v4 hf; cases hf
  | succ n ih =>
    intro S2 v3 v4 hf
    rw [N_slowest_L13] at hf
    refine x_iload_n C d_N_slowest_13 3 rfl ?_
    refine x_aload_n C d_N_slowest_14 0 rfl ?_
    refine x_getr C d_N_slowest_15 f_N_plan wd337 rfl rfl ?_
    refine x_cvr C d_N_slowest_18 wd779 cm_P_words rfl rfl [] rfl rfl (by decide) (Nat.le_of_ble_eq_true rfl) hf (fun _ h => m_P_words isP1 h) (fun v5 hf hb_v5 => ?_)
    refine x_icmp_ge C d_N_slowest_21 hf (fun hf => ?_) (fun hf => ?_)
    · refine x_aload_n C d_N_slowest_24 0 rfl ?_
      refine x_iload_n C d_N_slowest_25 1 rfl ?_
      refine x_iload_n C d_N_slowest_26 3 rfl ?_
      refine x_cvr C d_N_slowest_27 wd784 cm_N_isInBook rfl rfl [.int p1, .int v4] rfl rfl (by decide) (Nat.le_of_ble_eq_true rfl) hf (fun _ h => m_N_isInBook h) (fun v6 hf hb_v6 => ?_)
      refine x_jn (fun J9 => ∀ (S7 : St) (v8 : Int32), J9 S7 v8 = some rs → WX shN w x S7 44 [(0, .ref (w.1 0)), (1, .int p1), (2, .int v8), (3, .int v4)] []) hf (fun S7 v8 hf => ?_) (fun J9 hJ9 hf => ?_)
      · refine x_iinc C 1 d_N_slowest_44 3 rfl (by rw [hnL]; decide) hf (fun v10 => [(3, .int v10), (0, .ref (w.1 0)), (1, .int p1), (2, .int v8)]) (fun _ => rfl) (fun v10 hf => ?_)
        refine x_goto C d_N_slowest_47 ?_
        refine x_sub [1, 2, 3, 0] rfl ?_
        exact ih S7 v8 v10 hf
      refine x_if_eq C d_N_slowest_30 hf (fun hf => ?_) (fun hf => ?_)
      · exact hJ9 S2 v3 hf
      refine x_iload_n C d_N_slowest_33 2 rfl ?_
      refine x_aload_n C d_N_slowest_34 0 rfl ?_
      refine x_iload_n C d_N_slowest_35 1 rfl ?_
      refine x_iload_n C d_N_slowest_36 3 rfl ?_
      refine x_cvi C d_N_slowest_37 wd800 cm_N_slowestInto rfl rfl [.int p1, .int v4] rfl rfl (by decide) (Nat.le_of_ble_eq_true rfl) hf (fun _ _ h => m_N_slowestInto h) (fun v11 S12 hf hb_v11 => ?_)
      refine x_mmax C d_N_slowest_40 wd661 ⟨wd662, wd89, wd663⟩ (by decide) (Nat.le_of_ble_eq_true rfl) ?_
      refine x_bi hf (fun v13 hf => ?_)
      refine x_istore_n C d_N_slowest_43 [(2, .int v13), (0, .ref (w.1 0)), (1, .int p1), (3, .int v4)] (by rw [hnL]; decide) rfl ?_
      refine x_sub [1, 2, 0, 3] rfl ?_
      exact hJ9 S12 v13 hf
    refine x_iload_n C d_N_slowest_50 2 rfl ?_
    exact hR _ _ _ _ d_N_slowest_51.1 hf trivial
set_option maxRecDepth 4000 in
theorem m_N_slowest {w : Ww} {l0 : Launch} {F : Nat} {S : St} {p1 : Int32} {r : Int32} {S9 : St}  (hf : N_slowest F S p1 = some (r, S9)) : MI shN w l0 y_N_slowest b_N_slowest 4 .int 2 [.ref (w.1 0), .int p1] S r S9 bzT := by
  refine MI.of (by decide) (Nat.le_of_ble_eq_true rfl) rfl (fun _ _ => rfl) (fun x hnL C hR => ?_)
  rw [N_slowest] at hf
  refine x_iload_n C d_N_slowest_0 1 rfl ?_
  refine x_csr C d_N_slowest_1 wd776 cm_N_isKind [.int p1] rfl rfl (by decide) (Nat.le_of_ble_eq_true rfl) hf (fun _ h => m_N_isKind h) (fun v1 hf hb_v1 => ?_)
  refine x_if_ne C d_N_slowest_4 hf (fun hf => ?_) (fun hf => ?_)
  · refine x_iconst C d_N_slowest_7 (-1) ?_
    exact hR _ _ _ _ d_N_slowest_8.1 hf trivial
  refine x_iconst C d_N_slowest_9 0 ?_
  refine x_istore_n C d_N_slowest_10 [(2, .int 0), (0, .ref (w.1 0)), (1, .int p1)] (by rw [hnL]; decide) rfl ?_
  refine x_iconst C d_N_slowest_11 0 ?_
  refine x_istore_n C d_N_slowest_12 [(3, .int 0), (2, .int 0), (0, .ref (w.1 0)), (1, .int p1)] (by rw [hnL]; decide) rfl ?_
  refine x_sub [2, 3, 1, 0] rfl ?_
  exact w_N_slowest_L13 hnL C hR  F S 0 0 hf
set_option maxRecDepth 4000 in
theorem m_K_rowOf {w : Ww} {l0 : Launch} {F : Nat} {S : St} {p1 : Int32} {p2 : Int32} {rs : Int32}  (hf : K_rowOf F S p1 p2 = some rs) : MI shN w l0 y_K_rowOf b_K_rowOf 2 .int 0 [.int p1, .int p2] S rs S bzT := by
  refine MI.of (by decide) (Nat.le_of_ble_eq_true rfl) rfl (fun _ _ => rfl) (fun x hnL C hR => ?_)
  rw [K_rowOf] at hf
  refine x_iload_n C d_K_rowOf_0 0 rfl ?_
  refine x_sipush C d_K_rowOf_1 256 ?_
  refine x_imul C d_K_rowOf_4 ?_
  refine x_iload_n C d_K_rowOf_5 1 rfl ?_
  refine x_iadd C d_K_rowOf_6 ?_
  refine x_iconst C d_K_rowOf_7 4 ?_
  refine x_imul C d_K_rowOf_8 ?_
  exact x_retR hR d_K_rowOf_9 hf trivial
set_option maxRecDepth 4000 in
theorem m_K_addWay {w : Ww} {l0 : Launch} {F : Nat} {S : St} {p1 : Int32} {p2 : Int32} {p3 : Int32} {rs : St}  (hf : K_addWay F S p1 p2 p3 = some rs) : MV shN w l0 y_K_addWay b_K_addWay 5 1 [.ref (w.1 17), .int p1, .int p2, .int p3] S rs := by
  refine MV.of (by decide) (Nat.le_of_ble_eq_true rfl) rfl (fun x hnL C hR => ?_)
  rw [K_addWay] at hf
  refine x_iload_n C d_K_addWay_0 1 rfl ?_
  refine x_iload_n C d_K_addWay_1 2 rfl ?_
  refine x_csr C d_K_addWay_2 wd822 cm_K_rowOf [.int p1, .int p2] rfl rfl (by decide) (Nat.le_of_ble_eq_true rfl) hf (fun _ h => m_K_rowOf h) (fun v1 hf hb_v1 => ?_)
  refine x_iload_n C d_K_addWay_5 3 rfl ?_
  refine x_bipush C d_K_addWay_6 64 ?_
  refine x_idiv C d_K_addWay_8 (by decide) ?_
  refine x_iadd C d_K_addWay_9 ?_
  refine x_bi hf (fun v2 hf => ?_)
  refine x_istore C d_K_addWay_10 [(4, .int v2), (0, .ref (w.1 17)), (1, .int p1), (2, .int p2), (3, .int p3)] (by rw [hnL]; decide) rfl ?_
  refine x_iload C d_K_addWay_12 0 rfl ?_
  refine x_if_lt C d_K_addWay_14 hf (fun hf => ?_) (fun hf => ?_)
  · exact hR _ _ _ d_K_addWay_43.1 hf
  refine x_iload C d_K_addWay_17 0 rfl ?_
  refine x_aload_n C d_K_addWay_19 1 rfl ?_
  refine x_getr C d_K_addWay_20 f_K_near wd299 rfl rfl ?_
  refine x_alen C (5120) d_K_addWay_23 rfl rfl (by decide) ?_
  refine x_icmp_ge C d_K_addWay_24 hf (fun hf => ?_) (fun hf => ?_)
  · refine x_aload_n C d_K_addWay_27 1 rfl ?_
    refine x_getr C d_K_addWay_28 f_K_near wd299 rfl rfl ?_
    refine x_iload C d_K_addWay_31 0 rfl ?_
    refine x_dup2 C d_K_addWay_33 rfl rfl ?_
    refine x_lald C d_K_addWay_34 rfl hf (fun hf => ?_)
    refine x_lconst C d_K_addWay_35 1 ?_
    refine x_iload_n C d_K_addWay_36 4 rfl ?_
    refine x_bipush C d_K_addWay_37 64 ?_
    refine x_irem C d_K_addWay_39 (by decide) ?_
    refine x_lshl C d_K_addWay_40 ?_
    refine x_lor C d_K_addWay_41 ?_
    refine x_last C d_K_addWay_42 rfl hf (fun S3 hf => ?_)
    exact hR _ _ _ d_K_addWay_43.1 hf
  exact hR _ _ _ d_K_addWay_43.1 hf
set_option maxRecDepth 4000 in
theorem w_K_link_L3 {w : Ww} {l0 : Launch} {x : Cx} {F : Nat} {p1 : Int32} {p2 : Int32} {rs : St}  (hnL : x.2.2.2.2.2.2.2.2.2.2.2.2 = 5) (C : XC shN w "NeighbourWires$Machine" b_K_link l0 2 x) (hR : RV shN w b_K_link rs x)   : ∀ (n : Nat) (S1 : St) (v2 : Int32), K_link_L3 F p1 p2 n S1 v2 = some rs → WX shN w x S1 3 [(0, .ref (w.1 17)), (1, .int p1), (2, .int p2), (4, .int v2)] [] := by
  intro n
  induction n with
  | zero => intro S1 v2 hf; cases hf
  | succ n ih =>
    intro S1 v2 hf
    rw [K_link_L3] at hf
    refine x_iload C d_K_link_3 3 rfl ?_
    refine x_iconst C d_K_link_5 4 ?_
    refine x_icmp_gt C d_K_link_6 hf (fun hf => ?_) (fun hf => ?_)
    · exact hR _ _ _ d_K_link_31.1 hf
    refine x_aload_n C d_K_link_9 0 rfl ?_
    refine x_iload C d_K_link_10 3 rfl ?_
    refine x_iload_n C d_K_link_12 1 rfl ?_
    refine x_iload_n C d_K_link_13 2 rfl ?_
    refine x_cvv C d_K_link_14 wd818 cm_K_addWay rfl rfl [.int v2, .int p1, .int p2] rfl rfl (by decide) (Nat.le_of_ble_eq_true rfl) hf (fun _ h => m_K_addWay h) (fun S3 hf => ?_)
    refine x_aload_n C d_K_link_17 0 rfl ?_
    refine x_iload C d_K_link_18 3 rfl ?_
    refine x_iload_n C d_K_link_20 2 rfl ?_
    refine x_iload_n C d_K_link_21 1 rfl ?_
    refine x_cvv C d_K_link_22 wd818 cm_K_addWay rfl rfl [.int v2, .int p2, .int p1] rfl rfl (by decide) (Nat.le_of_ble_eq_true rfl) hf (fun _ h => m_K_addWay h) (fun S4 hf => ?_)
    refine x_iinc C 1 d_K_link_25 3 rfl (by rw [hnL]; decide) hf (fun v5 => [(4, .int v5), (0, .ref (w.1 17)), (1, .int p1), (2, .int p2)]) (fun _ => rfl) (fun v5 hf => ?_)
    refine x_goto C d_K_link_28 ?_
    refine x_sub [1, 2, 3, 0] rfl ?_
    exact ih S4 v5 hf
set_option maxRecDepth 4000 in
theorem m_K_link {w : Ww} {l0 : Launch} {F : Nat} {S : St} {p1 : Int32} {p2 : Int32} {p3 : Int32} {rs : St}  (hf : K_link F S p1 p2 p3 = some rs) : MV shN w l0 y_K_link b_K_link 5 2 [.ref (w.1 17), .int p1, .int p2, .int p3] S rs := by
  refine MV.of (by decide) (Nat.le_of_ble_eq_true rfl) rfl (fun x hnL C hR => ?_)
  rw [K_link] at hf
  refine x_iload_n C d_K_link_0 3 rfl ?_
  refine x_istore C d_K_link_1 [(4, .int p3), (0, .ref (w.1 17)), (1, .int p1), (2, .int p2), (3, .int p3)] (by rw [hnL]; decide) rfl ?_
  refine x_sub [1, 2, 3, 0] rfl ?_
  exact w_K_link_L3 hnL C hR  F S p3 hf
set_option maxRecDepth 4000 in
theorem w_K_prepare_L57 {w : Ww} {l0 : Launch} {x : Cx} {F : Nat} {v6 : Int32} {rs : St} {k7 : St → Option St} (hnL : x.2.2.2.2.2.2.2.2.2.2.2.2 = 4) (C : XC shN w "NeighbourWires$Machine" b_K_prepare l0 3 x) (hR : RV shN w b_K_prepare rs x)  (hk7 : ∀ (S8 : St), k7 S8 = some rs → WX shN w x S8 95 [(0, .ref (w.1 17)), (2, .int v6)] []) : ∀ (n : Nat) (S10 : St) (v11 : Int32), K_prepare_L57 F v6 k7 n S10 v11 = some rs → WX shN w x S10 57 [(0, .ref (w.1 17)), (2, .int v6), (3, .int v11)] [] := by
  intro n
  induction n with
  | zero => intro S10 v11 hf; cases hf
  | succ n ih =>
    intro S10 v11 hf
    rw [K_prepare_L57] at hf
    refine x_iload_n C d_K_prepare_57 2 rfl ?_
    refine x_iload_n C d_K_prepare_58 1 rfl ?_
    refine x_icmp_gt C d_K_prepare_59 hf (fun hf => ?_) (fun hf => ?_)
    · refine x_sub [0, 1] rfl ?_
      exact hk7 S10 hf
    refine x_aload_n C d_K_prepare_62 0 rfl ?_
    refine x_getr C d_K_prepare_63 f_K_change wd298 rfl rfl ?_
    refine x_iload_n C d_K_prepare_66 2 rfl ?_
    refine x_iload_n C d_K_prepare_67 1 rfl ?_
    refine x_aload_n C d_K_prepare_68 0 rfl ?_
    refine x_get C d_K_prepare_69 f_K_wires wd302 rfl rfl ?_
    refine x_iconst C d_K_prepare_72 0 ?_
    refine x_cvv C d_K_prepare_73 wd812 cm_C_between rfl rfl [.int v11, .int v6, .int (S10.1 17 4), .int 0] rfl rfl (by decide) (Nat.le_of_ble_eq_true rfl) hf (fun _ h => m_C_between h) (fun S12 hf => ?_)
    refine x_aload_n C d_K_prepare_76 0 rfl ?_
    refine x_iload_n C d_K_prepare_77 2 rfl ?_
    refine x_iload_n C d_K_prepare_78 1 rfl ?_
    refine x_aload_n C d_K_prepare_79 0 rfl ?_
    refine x_getr C d_K_prepare_80 f_K_change wd298 rfl rfl ?_
    refine x_cvr C d_K_prepare_83 wd813 cm_C_greatestSlow rfl rfl [] rfl rfl (by decide) (Nat.le_of_ble_eq_true rfl) hf (fun _ h => m_C_greatestSlow h) (fun v13 hf hb_v13 => ?_)
    refine x_cvv C d_K_prepare_86 wd814 cm_K_link rfl rfl [.int v11, .int v6, .int v13] rfl rfl (by decide) (Nat.le_of_ble_eq_true rfl) hf (fun _ h => m_K_link h) (fun S14 hf => ?_)
    refine x_iinc C 1 d_K_prepare_89 2 rfl (by rw [hnL]; decide) hf (fun v15 => [(3, .int v15), (0, .ref (w.1 17)), (2, .int v6)]) (fun _ => rfl) (fun v15 hf => ?_)
    refine x_goto C d_K_prepare_92 ?_
    refine x_sub [1, 2, 0] rfl ?_
    exact ih S14 v15 hf
set_option maxRecDepth 4000 in
theorem w_K_prepare_L47 {w : Ww} {l0 : Launch} {x : Cx} {F : Nat}  {rs : St}  (hnL : x.2.2.2.2.2.2.2.2.2.2.2.2 = 4) (C : XC shN w "NeighbourWires$Machine" b_K_prepare l0 3 x) (hR : RV shN w b_K_prepare rs x)   : ∀ (n : Nat) (S5 : St) (v6 : Int32), K_prepare_L47 F n S5 v6 = some rs → WX shN w x S5 47 [(0, .ref (w.1 17)), (2, .int v6)] [] := by
  intro n
  induction n with
  | zero => intro S5 v6 hf; cases hf
  | succ n ih =>
    intro S5 v6 hf
    rw [K_prepare_L47] at hf
    refine x_iload_n C d_K_prepare_47 1 rfl ?_
    refine x_aload_n C d_K_prepare_48 0 rfl ?_
    refine x_get C d_K_prepare_49 f_K_words wd303 rfl rfl ?_
    refine x_icmp_ge C d_K_prepare_52 hf (fun hf => ?_) (fun hf => ?_)
    · refine x_iconst C d_K_prepare_55 0 ?_
      refine x_istore_n C d_K_prepare_56 [(3, .int 0), (0, .ref (w.1 17)), (2, .int v6)] (by rw [hnL]; decide) rfl ?_
      refine x_sub [1, 2, 0] rfl ?_
      refine w_K_prepare_L57 hnL C hR (fun S8 hf => ?_) F S5 0 hf
      refine x_iinc C 1 d_K_prepare_95 1 rfl (by rw [hnL]; decide) hf (fun v9 => [(2, .int v9), (0, .ref (w.1 17))]) (fun _ => rfl) (fun v9 hf => ?_)
      refine x_goto C d_K_prepare_98 ?_
      refine x_sub [1, 0] rfl ?_
      exact ih S8 v9 hf
    exact hR _ _ _ d_K_prepare_101.1 hf
set_option maxRecDepth 4000 in
theorem w_K_prepare_L23 {w : Ww} {l0 : Launch} {x : Cx} {F : Nat}  {rs : St} {k3 : St → Option St} (hnL : x.2.2.2.2.2.2.2.2.2.2.2.2 = 4) (C : XC shN w "NeighbourWires$Machine" b_K_prepare l0 3 x) (hR : RV shN w b_K_prepare rs x)  (hk3 : ∀ (S4 : St), k3 S4 = some rs → WX shN w x S4 45 [(0, .ref (w.1 17))] []) : ∀ (n : Nat) (S16 : St) (v17 : Int32), K_prepare_L23 F k3 n S16 v17 = some rs → WX shN w x S16 23 [(0, .ref (w.1 17)), (2, .int v17)] [] := by
  intro n
  induction n with
  | zero => intro S16 v17 hf; cases hf
  | succ n ih =>
    intro S16 v17 hf
    rw [K_prepare_L23] at hf
    refine x_iload_n C d_K_prepare_23 1 rfl ?_
    refine x_aload_n C d_K_prepare_24 0 rfl ?_
    refine x_getr C d_K_prepare_25 f_K_near wd299 rfl rfl ?_
    refine x_alen C (5120) d_K_prepare_28 rfl rfl (by decide) ?_
    refine x_icmp_ge C d_K_prepare_29 hf (fun hf => ?_) (fun hf => ?_)
    · refine x_aload_n C d_K_prepare_32 0 rfl ?_
      refine x_getr C d_K_prepare_33 f_K_near wd299 rfl rfl ?_
      refine x_iload_n C d_K_prepare_36 1 rfl ?_
      refine x_lconst C d_K_prepare_37 0 ?_
      refine x_last C d_K_prepare_38 rfl hf (fun S18 hf => ?_)
      refine x_iinc C 1 d_K_prepare_39 1 rfl (by rw [hnL]; decide) hf (fun v19 => [(2, .int v19), (0, .ref (w.1 17))]) (fun _ => rfl) (fun v19 hf => ?_)
      refine x_goto C d_K_prepare_42 ?_
      refine x_sub [1, 0] rfl ?_
      exact ih S18 v19 hf
    refine x_sub [0] rfl ?_
    exact hk3 S16 hf
set_option maxRecDepth 4000 in
theorem m_K_prepare {w : Ww} {l0 : Launch} {F : Nat} {S : St} {p1 : Int32} {rs : St}  (hf : K_prepare F S p1 = some rs) : MV shN w l0 y_K_prepare b_K_prepare 4 3 [.ref (w.1 17), .int p1] S rs := by
  refine MV.of (by decide) (Nat.le_of_ble_eq_true rfl) rfl (fun x hnL C hR => ?_)
  rw [K_prepare] at hf
  refine x_aload_n C d_K_prepare_0 0 rfl ?_
  refine x_get C d_K_prepare_1 f_K_wires wd302 rfl rfl ?_
  refine x_iload_n C d_K_prepare_4 1 rfl ?_
  refine x_icmp_ne C d_K_prepare_5 hf (fun hf => ?_) (fun hf => ?_)
  · exact hR _ _ _ d_K_prepare_8.1 hf
  refine x_aload_n C d_K_prepare_9 0 rfl ?_
  refine x_iload_n C d_K_prepare_10 1 rfl ?_
  refine x_put C d_K_prepare_11 f_K_wires wd302 rfl rfl hf (fun S1 hf => ?_)
  refine x_aload_n C d_K_prepare_14 0 rfl ?_
  refine x_iconst C d_K_prepare_15 1 ?_
  refine x_iload_n C d_K_prepare_16 1 rfl ?_
  refine x_ishl C d_K_prepare_17 ?_
  refine x_put C d_K_prepare_18 f_K_words wd303 rfl rfl hf (fun S2 hf => ?_)
  refine x_iconst C d_K_prepare_21 0 ?_
  refine x_istore_n C d_K_prepare_22 [(2, .int 0), (0, .ref (w.1 17)), (1, .int p1)] (by rw [hnL]; decide) rfl ?_
  refine x_sub [1, 0] rfl ?_
  refine w_K_prepare_L23 hnL C hR (fun S4 hf => ?_) F S2 0 hf
  refine x_iconst C d_K_prepare_45 0 ?_
  refine x_istore_n C d_K_prepare_46 [(2, .int 0), (0, .ref (w.1 17))] (by rw [hnL]; decide) rfl ?_
  refine x_sub [1, 0] rfl ?_
  exact w_K_prepare_L47 hnL C hR  F S4 0 hf
set_option maxRecDepth 4000 in
theorem w_K_grow_L30 {w : Ww} {l0 : Launch} {x : Cx} {F d : Nat} {p2 : Int32} {p3 : Int32} {S : St} {rc : St → Int32 → Int32 → Int32 → Int32 → Option Int32} {v1 : Int32} {rs : Int32}  (hnL : x.2.2.2.2.2.2.2.2.2.2.2.2 = 11) (C : XC shN w "NeighbourWires$Machine" b_K_grow l0 (d + 1) x) (hR : RI shN w b_K_grow bzT (rs, S) x) (hrc : ∀ p2 p3 p4 p5 r, rc S p2 p3 p4 p5 = some r → MI shN w l0 y_K_grow b_K_grow 11 .int d [.ref (w.1 18), .int p2, .int p3, .int p4, .int p5] S r S bzT)   : ∀ (n : Nat) (v5 : Int32) (v6 : Int32) (v7 : Int32), K_grow_L30 F p2 p3 S rc v1 n v5 v6 v7 = some rs → WX shN w x S 30 [(0, .ref (w.1 18)), (1, .int p2), (2, .int p3), (5, .int v1), (6, .int v5), (7, .int v6), (8, .int v7)] [] := by
  intro n
  induction n with
  | zero => intro v5 v6 v7 hf; cases hf
  | succ n ih =>
    intro v5 v6 v7 hf
    rw [K_grow_L30] at hf
    refine x_iload C d_K_grow_30 3 rfl ?_
    refine x_bipush C d_K_grow_32 16 ?_
    refine x_icmp_ge C d_K_grow_34 hf (fun hf => ?_) (fun hf => ?_)
    · refine x_iload C d_K_grow_37 6 rfl ?_
      refine x_bipush C d_K_grow_39 16 ?_
      refine x_icmp_ge C d_K_grow_41 hf (fun hf => ?_) (fun hf => ?_)
      · refine x_iload C d_K_grow_44 3 rfl ?_
        refine x_iload C d_K_grow_46 5 rfl ?_
        refine x_csr C d_K_grow_48 wd832 cm_Ji_bitCount [.int v6] rfl rfl (by omega) (Nat.le_of_ble_eq_true rfl) hf (fun _ h => m_Ji_bitCount h) (fun v8 hf hb_v8 => ?_)
        refine x_iadd C d_K_grow_51 ?_
        refine x_iload C d_K_grow_52 4 rfl ?_
        refine x_csr C d_K_grow_54 wd832 cm_Ji_bitCount [.int v5] rfl rfl (by omega) (Nat.le_of_ble_eq_true rfl) hf (fun _ h => m_Ji_bitCount h) (fun v9 hf hb_v9 => ?_)
        refine x_icmp_gt C d_K_grow_57 hf (fun hf => ?_) (fun hf => ?_)
        · refine x_iconst C d_K_grow_63 1 ?_
          refine x_iload C d_K_grow_64 6 rfl ?_
          refine x_ishl C d_K_grow_66 ?_
          refine x_bi hf (fun v10 hf => ?_)
          refine x_istore C d_K_grow_67 [(9, .int v10), (0, .ref (w.1 18)), (1, .int p2), (2, .int p3), (5, .int v1), (6, .int v5), (7, .int v6), (8, .int v7)] (by rw [hnL]; decide) rfl ?_
          refine x_iload_n C d_K_grow_69 2 rfl ?_
          refine x_iload C d_K_grow_70 7 rfl ?_
          refine x_iconst C d_K_grow_72 4 ?_
          refine x_imul C d_K_grow_73 ?_
          refine x_iadd C d_K_grow_74 ?_
          refine x_bi hf (fun v11 hf => ?_)
          refine x_istore C d_K_grow_75 [(10, .int v11), (9, .int v10), (0, .ref (w.1 18)), (1, .int p2), (2, .int p3), (5, .int v1), (6, .int v5), (7, .int v6), (8, .int v7)] (by rw [hnL]; decide) rfl ?_
          refine x_iload C d_K_grow_77 7 rfl ?_
          refine x_iload C d_K_grow_79 1 rfl ?_
          refine x_iand C d_K_grow_81 ?_
          refine x_jn (fun J14 => ∀ (v12 : Int32) (v13 : Int32), J14 v12 v13 = some rs → WX shN w x S 127 [(0, .ref (w.1 18)), (1, .int p2), (2, .int p3), (5, .int v1), (6, .int v12), (7, .int v13), (8, .int v7)] []) hf (fun v12 v13 hf => ?_) (fun J14 hJ14 hf => ?_)
          · refine x_iinc C 1 d_K_grow_127 6 rfl (by rw [hnL]; decide) hf (fun v15 => [(8, .int v15), (0, .ref (w.1 18)), (1, .int p2), (2, .int p3), (5, .int v1), (6, .int v12), (7, .int v13)]) (fun _ => rfl) (fun v15 hf => ?_)
            refine x_goto C d_K_grow_130 ?_
            refine x_sub [1, 2, 3, 4, 5, 6, 0] rfl ?_
            exact ih v12 v13 v15 hf
          refine x_if_eq C d_K_grow_82 hf (fun hf => ?_) (fun hf => ?_)
          · refine x_sub [2, 3, 4, 5, 6, 7, 8] rfl ?_
            exact hJ14 v5 v6 hf
          refine x_iload C d_K_grow_85 0 rfl ?_
          refine x_if_lt C d_K_grow_87 hf (fun hf => ?_) (fun hf => ?_)
          · refine x_sub [2, 3, 4, 5, 6, 7, 8] rfl ?_
            exact hJ14 v5 v6 hf
          refine x_iload C d_K_grow_90 0 rfl ?_
          refine x_aload_n C d_K_grow_92 2 rfl ?_
          refine x_alen C (5120) d_K_grow_93 rfl rfl (by decide) ?_
          refine x_icmp_ge C d_K_grow_94 hf (fun hf => ?_) (fun hf => ?_)
          · refine x_iload C d_K_grow_97 7 rfl ?_
            refine x_iload C d_K_grow_99 1 rfl ?_
            refine x_iconst C d_K_grow_101 (-1) ?_
            refine x_ixor C d_K_grow_102 ?_
            refine x_iand C d_K_grow_103 ?_
            refine x_bi hf (fun v16 hf => ?_)
            refine x_istore C d_K_grow_104 [(7, .int v16), (10, .int v11), (9, .int v10), (0, .ref (w.1 18)), (1, .int p2), (2, .int p3), (5, .int v1), (6, .int v5), (8, .int v7)] (by rw [hnL]; decide) rfl ?_
            refine x_aload_n C d_K_grow_106 3 rfl ?_
            refine x_iload_n C d_K_grow_107 4 rfl ?_
            refine x_iload_n C d_K_grow_108 5 rfl ?_
            refine x_iload C d_K_grow_109 2 rfl ?_
            refine x_ior C d_K_grow_111 ?_
            refine x_iload C d_K_grow_112 0 rfl ?_
            refine x_aload_n C d_K_grow_114 3 rfl ?_
            refine x_iload C d_K_grow_115 1 rfl ?_
            refine x_lald C d_K_grow_117 rfl hf (fun hf => ?_)
            refine x_l2i C d_K_grow_118 ?_
            refine x_iand C d_K_grow_119 ?_
            refine x_iload C d_K_grow_120 7 rfl ?_
            refine x_csr C d_K_grow_122 wd829 cm_K_grow [.ref (w.1 18), .int p2, .int (p3 ||| v10), .int (v16 &&& (Int64.toInt32 (S.2 18 (Int32.toNatClampNeg v11)))), .int v5] rfl rfl (by omega) (Nat.le_of_ble_eq_true rfl) hf (fun _ h => hrc _ _ _ _ _ h) (fun v17 hf hb_v17 => ?_)
            refine x_istore C d_K_grow_125 [(6, .int v17), (7, .int v16), (10, .int v11), (9, .int v10), (0, .ref (w.1 18)), (1, .int p2), (2, .int p3), (5, .int v1), (8, .int v7)] (by rw [hnL]; decide) rfl ?_
            refine x_sub [4, 5, 6, 7, 0, 1, 8] rfl ?_
            exact hJ14 v17 v16 hf
          refine x_sub [2, 3, 4, 5, 6, 7, 8] rfl ?_
          exact hJ14 v5 v6 hf
        refine x_iload C d_K_grow_60 4 rfl ?_
        exact x_retR hR d_K_grow_62 hf trivial
      refine x_iload C d_K_grow_133 4 rfl ?_
      exact x_retR hR d_K_grow_135 hf trivial
    refine x_iload C d_K_grow_133 4 rfl ?_
    exact x_retR hR d_K_grow_135 hf trivial
set_option maxRecDepth 4000 in
theorem m_K_growB {w : Ww} {l0 : Launch} {F d : Nat} {rc : St → Int32 → Int32 → Int32 → Int32 → Option Int32} {S : St} {p2 : Int32} {p3 : Int32} {p4 : Int32} {p5 : Int32} {rs : Int32}  (hrc : ∀ p2 p3 p4 p5 r, rc S p2 p3 p4 p5 = some r → MI shN w l0 y_K_grow b_K_grow 11 .int d [.ref (w.1 18), .int p2, .int p3, .int p4, .int p5] S r S bzT) (hf : K_growB F rc S p2 p3 p4 p5 = some rs) : MI shN w l0 y_K_grow b_K_grow 11 .int (d + 1) [.ref (w.1 18), .int p2, .int p3, .int p4, .int p5] S rs S bzT := by
  refine MI.of (by decide) (Nat.le_of_ble_eq_true rfl) rfl (fun _ _ => rfl) (fun x hnL C hR => ?_)
  rw [K_growB] at hf
  refine x_iload_n C d_K_grow_0 2 rfl ?_
  refine x_csr C d_K_grow_1 wd832 cm_Ji_bitCount [.int p3] rfl rfl (by omega) (Nat.le_of_ble_eq_true rfl) hf (fun _ h => m_Ji_bitCount h) (fun v1 hf hb_v1 => ?_)
  refine x_istore C d_K_grow_4 [(5, .int v1), (0, .ref (w.1 18)), (1, .int p2), (2, .int p3), (3, .int p4), (4, .int p5)] (by rw [hnL]; decide) rfl ?_
  refine x_iload C d_K_grow_6 0 rfl ?_
  refine x_iload C d_K_grow_8 5 rfl ?_
  refine x_csr C d_K_grow_10 wd832 cm_Ji_bitCount [.int p5] rfl rfl (by omega) (Nat.le_of_ble_eq_true rfl) hf (fun _ h => m_Ji_bitCount h) (fun v2 hf hb_v2 => ?_)
  refine x_jn (fun J4 => ∀ (v3 : Int32), J4 v3 = some rs → WX shN w x S 22 [(0, .ref (w.1 18)), (1, .int p2), (2, .int p3), (3, .int p4), (5, .int v1)] [.int v3]) hf (fun v3 hf => ?_) (fun J4 hJ4 hf => ?_)
  · refine x_istore C d_K_grow_22 [(6, .int v3), (0, .ref (w.1 18)), (1, .int p2), (2, .int p3), (3, .int p4), (5, .int v1)] (by rw [hnL]; decide) rfl ?_
    refine x_iload_n C d_K_grow_24 4 rfl ?_
    refine x_istore C d_K_grow_25 [(7, .int p4), (6, .int v3), (0, .ref (w.1 18)), (1, .int p2), (2, .int p3), (3, .int p4), (5, .int v1)] (by rw [hnL]; decide) rfl ?_
    refine x_iconst C d_K_grow_27 0 ?_
    refine x_istore C d_K_grow_28 [(8, .int 0), (7, .int p4), (6, .int v3), (0, .ref (w.1 18)), (1, .int p2), (2, .int p3), (3, .int p4), (5, .int v1)] (by rw [hnL]; decide) rfl ?_
    refine x_sub [3, 4, 5, 7, 2, 1, 0] rfl ?_
    exact w_K_grow_L30 hnL C hR hrc  F v3 p4 0 hf
  refine x_icmp_le C d_K_grow_13 hf (fun hf => ?_) (fun hf => ?_)
  · refine x_iload_n C d_K_grow_16 3 rfl ?_
    refine x_goto C d_K_grow_17 ?_
    refine x_sub [1, 2, 3, 4, 0] rfl ?_
    exact hJ4 p3 hf
  refine x_iload C d_K_grow_20 5 rfl ?_
  refine x_sub [1, 2, 3, 4, 0] rfl ?_
  exact hJ4 p5 hf
theorem m_K_growD {w : Ww} {l0 : Launch} {F : Nat} {S : St} : ∀ (d : Nat) (p2 p3 p4 p5 r : Int32), K_grow F d S p2 p3 p4 p5 = some r → MI shN w l0 y_K_grow b_K_grow 11 .int d [.ref (w.1 18), .int p2, .int p3, .int p4, .int p5] S r S bzT := by
  intro d
  induction d with
  | zero => intro p2 p3 p4 p5 r hf; cases hf
  | succ d ih =>
    intro p2 p3 p4 p5 r hf
    rw [K_grow] at hf
    exact m_K_growB ih hf
theorem m_K_grow {w : Ww} {l0 : Launch} {F : Nat} {S : St} {p2 p3 p4 p5 r : Int32} (hf : K_grow F 17 S p2 p3 p4 p5 = some r) : MI shN w l0 y_K_grow b_K_grow 11 .int 17 [.ref (w.1 18), .int p2, .int p3, .int p4, .int p5] S r S bzT := m_K_growD 17 p2 p3 p4 p5 r hf
set_option maxRecDepth 4000 in
theorem m_K_greatestBook {w : Ww} {l0 : Launch} {F : Nat} {S : St} {p1 : Int32} {rs : Int32}  (hf : K_greatestBook F S p1 = some rs) : MI shN w l0 y_K_greatestBook b_K_greatestBook 2 .int 18 [.ref (w.1 17), .int p1] S rs S bzT := by
  refine MI.of (by decide) (Nat.le_of_ble_eq_true rfl) rfl (fun _ _ => rfl) (fun x hnL C hR => ?_)
  rw [K_greatestBook] at hf
  refine x_aload_n C d_K_greatestBook_0 0 rfl ?_
  refine x_get C d_K_greatestBook_1 f_K_wires wd302 rfl rfl ?_
  refine x_iconst C d_K_greatestBook_4 4 ?_
  refine x_icmp_le C d_K_greatestBook_5 hf (fun hf => ?_) (fun hf => ?_)
  · refine x_iconst C d_K_greatestBook_8 0 ?_
    refine x_goto C d_K_greatestBook_9 ?_
    exact x_retR hR d_K_greatestBook_34 hf trivial
  refine x_aload_n C d_K_greatestBook_12 0 rfl ?_
  refine x_getr C d_K_greatestBook_13 f_K_near wd299 rfl rfl ?_
  refine x_iload_n C d_K_greatestBook_16 1 rfl ?_
  refine x_iconst C d_K_greatestBook_17 0 ?_
  refine x_csr C d_K_greatestBook_18 wd822 cm_K_rowOf [.int p1, .int 0] rfl rfl (by decide) (Nat.le_of_ble_eq_true rfl) hf (fun _ h => m_K_rowOf h) (fun v1 hf hb_v1 => ?_)
  refine x_iconst C d_K_greatestBook_21 0 ?_
  refine x_iconst C d_K_greatestBook_22 1 ?_
  refine x_aload_n C d_K_greatestBook_23 0 rfl ?_
  refine x_get C d_K_greatestBook_24 f_K_words wd303 rfl rfl ?_
  refine x_ishl C d_K_greatestBook_27 ?_
  refine x_iconst C d_K_greatestBook_28 1 ?_
  refine x_isub C d_K_greatestBook_29 ?_
  refine x_iconst C d_K_greatestBook_30 0 ?_
  refine x_csr C d_K_greatestBook_31 wd829 cm_K_grow [.ref (w.1 18), .int v1, .int 0, .int ((jshl 1 (S.1 17 5)) - 1), .int 0] rfl rfl (by decide) (Nat.le_of_ble_eq_true rfl) hf (fun _ h => m_K_grow h) (fun v2 hf hb_v2 => ?_)
  exact x_retR hR d_K_greatestBook_34 hf trivial
set_option maxRecDepth 4000 in
theorem m_N_greatest {w : Ww} {l0 : Launch} {F : Nat} {S : St} {p1 : Int32} {p2 : Int32} {r : Int32} {S9 : St}  (hf : N_greatest F S p1 p2 = some (r, S9)) : MI shN w l0 y_N_greatest b_N_greatest 4 .int 19 [.ref (w.1 0), .int p1, .int p2] S r S9 bzT := by
  refine MI.of (by decide) (Nat.le_of_ble_eq_true rfl) rfl (fun _ _ => rfl) (fun x hnL C hR => ?_)
  rw [N_greatest] at hf
  refine x_iload_n C d_N_greatest_0 1 rfl ?_
  refine x_csr C d_N_greatest_1 wd719 cm_N_isSlow [.int p1] rfl rfl (by decide) (Nat.le_of_ble_eq_true rfl) hf (fun _ h => m_N_isSlow h) (fun v1 hf hb_v1 => ?_)
  refine x_if_eq C d_N_greatest_4 hf (fun hf => ?_) (fun hf => ?_)
  · refine x_iconst C d_N_greatest_16 (-1) ?_
    exact hR _ _ _ _ d_N_greatest_17.1 hf trivial
  refine x_iload_n C d_N_greatest_7 2 rfl ?_
  refine x_if_lt C d_N_greatest_8 hf (fun hf => ?_) (fun hf => ?_)
  · refine x_iconst C d_N_greatest_16 (-1) ?_
    exact hR _ _ _ _ d_N_greatest_17.1 hf trivial
  refine x_iload_n C d_N_greatest_11 2 rfl ?_
  refine x_iconst C d_N_greatest_12 1 ?_
  refine x_icmp_le C d_N_greatest_13 hf (fun hf => ?_) (fun hf => ?_)
  · refine x_iconst C d_N_greatest_16 (-1) ?_
    exact hR _ _ _ _ d_N_greatest_17.1 hf trivial
  refine x_aload_n C d_N_greatest_18 0 rfl ?_
  refine x_getr C d_N_greatest_19 f_N_plan wd337 rfl rfl ?_
  refine x_get C d_N_greatest_22 f_P_wires wd113 rfl rfl ?_
  refine x_iconst C d_N_greatest_25 4 ?_
  refine x_icmp_le C d_N_greatest_26 hf (fun hf => ?_) (fun hf => ?_)
  · refine x_bipush C d_N_greatest_29 (-2) ?_
    exact hR _ _ _ _ d_N_greatest_31.1 hf trivial
  refine x_aload_n C d_N_greatest_32 0 rfl ?_
  refine x_getr C d_N_greatest_33 f_N_machine wd342 rfl rfl ?_
  refine x_aload_n C d_N_greatest_36 0 rfl ?_
  refine x_getr C d_N_greatest_37 f_N_plan wd337 rfl rfl ?_
  refine x_get C d_N_greatest_40 f_P_wires wd113 rfl rfl ?_
  refine x_cvv C d_N_greatest_43 wd808 cm_K_prepare rfl rfl [.int (S.1 1 0)] rfl rfl (by decide) (Nat.le_of_ble_eq_true rfl) hf (fun _ h => m_K_prepare h) (fun S2 hf => ?_)
  refine x_aload_n C d_N_greatest_46 0 rfl ?_
  refine x_getr C d_N_greatest_47 f_N_machine wd342 rfl rfl ?_
  refine x_iload_n C d_N_greatest_50 1 rfl ?_
  refine x_cvr C d_N_greatest_51 wd825 cm_K_greatestBook rfl rfl [.int p1] rfl rfl (by decide) (Nat.le_of_ble_eq_true rfl) hf (fun _ h => m_K_greatestBook h) (fun v3 hf hb_v3 => ?_)
  refine x_istore_n C d_N_greatest_54 [(3, .int v3), (0, .ref (w.1 0)), (1, .int p1), (2, .int p2)] (by rw [hnL]; decide) rfl ?_
  refine x_iload_n C d_N_greatest_55 3 rfl ?_
  refine x_if_ne C d_N_greatest_56 hf (fun hf => ?_) (fun hf => ?_)
  · refine x_iload_n C d_N_greatest_59 0 rfl ?_
    refine x_csr C d_N_greatest_60 wd732 cm_Ji_bitCount [.int v3] rfl rfl (by decide) (Nat.le_of_ble_eq_true rfl) hf (fun _ h => m_Ji_bitCount h) (fun v4 hf hb_v4 => ?_)
    refine x_goto C d_N_greatest_63 ?_
    exact hR _ _ _ _ d_N_greatest_67.1 hf trivial
  refine x_iload_n C d_N_greatest_66 0 rfl ?_
  exact hR _ _ _ _ d_N_greatest_67.1 hf trivial
set_option maxRecDepth 4000 in
theorem m_K_nearPart {w : Ww} {l0 : Launch} {F : Nat} {S : St} {p1 : Int32} {p2 : Int32} {p3 : Int32} {rs : Int64}  (hf : K_nearPart F S p1 p2 p3 = some rs) : ML shN w l0 y_K_nearPart b_K_nearPart 5 1 [.ref (w.1 17), .int p1, .int p2, .int p3] S rs S := by
  refine ML.of (by decide) (Nat.le_of_ble_eq_true rfl) rfl (fun x hnL C hR => ?_)
  rw [K_nearPart] at hf
  refine x_iload_n C d_K_nearPart_0 1 rfl ?_
  refine x_iload_n C d_K_nearPart_1 2 rfl ?_
  refine x_csr C d_K_nearPart_2 wd822 cm_K_rowOf [.int p1, .int p2] rfl rfl (by decide) (Nat.le_of_ble_eq_true rfl) hf (fun _ h => m_K_rowOf h) (fun v1 hf hb_v1 => ?_)
  refine x_iload_n C d_K_nearPart_5 3 rfl ?_
  refine x_iadd C d_K_nearPart_6 ?_
  refine x_bi hf (fun v2 hf => ?_)
  refine x_istore C d_K_nearPart_7 [(4, .int v2), (0, .ref (w.1 17)), (1, .int p1), (2, .int p2), (3, .int p3)] (by rw [hnL]; decide) rfl ?_
  refine x_iload C d_K_nearPart_9 0 rfl ?_
  refine x_jn (fun J3 => J3  = some rs → WX shN w x S 34 [] []) hf (fun hf => ?_) (fun J3 hJ3 hf => ?_)
  · refine x_lconst C d_K_nearPart_34 0 ?_
    exact x_retL hR d_K_nearPart_35 hf
  refine x_if_lt C d_K_nearPart_11 hf (fun hf => ?_) (fun hf => ?_)
  · refine x_sub [] rfl ?_
    exact hJ3  hf
  refine x_iload C d_K_nearPart_14 0 rfl ?_
  refine x_aload_n C d_K_nearPart_16 1 rfl ?_
  refine x_getr C d_K_nearPart_17 f_K_near wd299 rfl rfl ?_
  refine x_alen C (5120) d_K_nearPart_20 rfl rfl (by decide) ?_
  refine x_icmp_ge C d_K_nearPart_21 hf (fun hf => ?_) (fun hf => ?_)
  · refine x_aload_n C d_K_nearPart_24 1 rfl ?_
    refine x_getr C d_K_nearPart_25 f_K_near wd299 rfl rfl ?_
    refine x_iload C d_K_nearPart_28 0 rfl ?_
    refine x_lald C d_K_nearPart_30 rfl hf (fun hf => ?_)
    refine x_goto C d_K_nearPart_31 ?_
    exact x_retL hR d_K_nearPart_35 hf
  refine x_sub [] rfl ?_
  exact hJ3  hf
set_option maxRecDepth 4000 in
theorem w_K_waysFrom_L5 {w : Ww} {l0 : Launch} {x : Cx} {F : Nat} {p1 : Int32} {p2 : Int32} {S : St} {rs : Int32}  (hnL : x.2.2.2.2.2.2.2.2.2.2.2.2 = 5) (C : XC shN w "NeighbourWires$Machine" b_K_waysFrom l0 2 x) (hR : RI shN w b_K_waysFrom bzT (rs, S) x)   : ∀ (n : Nat) (v1 : Int32) (v2 : Int32), K_waysFrom_L5 F p1 p2 S n v1 v2 = some rs → WX shN w x S 5 [(0, .ref (w.1 17)), (1, .int p1), (2, .int p2), (3, .int v1), (4, .int v2)] [] := by
  intro n
  induction n with
  | zero => intro v1 v2 hf; cases hf
  | succ n ih =>
    intro v1 v2 hf
    rw [K_waysFrom_L5] at hf
    refine x_iload C d_K_waysFrom_5 4 rfl ?_
    refine x_iconst C d_K_waysFrom_7 4 ?_
    refine x_icmp_ge C d_K_waysFrom_8 hf (fun hf => ?_) (fun hf => ?_)
    · refine x_iload_n C d_K_waysFrom_11 3 rfl ?_
      refine x_aload_n C d_K_waysFrom_12 0 rfl ?_
      refine x_iload_n C d_K_waysFrom_13 1 rfl ?_
      refine x_iload_n C d_K_waysFrom_14 2 rfl ?_
      refine x_iload C d_K_waysFrom_15 4 rfl ?_
      refine x_cvq C d_K_waysFrom_17 wd841 cm_K_nearPart rfl rfl [.int p1, .int p2, .int v2] rfl rfl (by decide) (Nat.le_of_ble_eq_true rfl) hf (fun _ h => m_K_nearPart h) (fun u3 hf => ?_)
      refine x_csr C d_K_waysFrom_20 wd845 cm_Jl_bitCount [.long u3] rfl rfl (by decide) (Nat.le_of_ble_eq_true rfl) hf (fun _ h => m_Jl_bitCount h) (fun v4 hf hb_v4 => ?_)
      refine x_iadd C d_K_waysFrom_23 ?_
      refine x_bi hf (fun v5 hf => ?_)
      refine x_istore_n C d_K_waysFrom_24 [(3, .int v5), (0, .ref (w.1 17)), (1, .int p1), (2, .int p2), (4, .int v2)] (by rw [hnL]; decide) rfl ?_
      refine x_iinc C 1 d_K_waysFrom_25 4 rfl (by rw [hnL]; decide) hf (fun v6 => [(4, .int v6), (3, .int v5), (0, .ref (w.1 17)), (1, .int p1), (2, .int p2)]) (fun _ => rfl) (fun v6 hf => ?_)
      refine x_goto C d_K_waysFrom_28 ?_
      refine x_sub [2, 3, 4, 1, 0] rfl ?_
      exact ih v5 v6 hf
    refine x_iload_n C d_K_waysFrom_31 3 rfl ?_
    exact x_retR hR d_K_waysFrom_32 hf trivial
set_option maxRecDepth 4000 in
theorem m_K_waysFrom {w : Ww} {l0 : Launch} {F : Nat} {S : St} {p1 : Int32} {p2 : Int32} {rs : Int32}  (hf : K_waysFrom F S p1 p2 = some rs) : MI shN w l0 y_K_waysFrom b_K_waysFrom 5 .int 2 [.ref (w.1 17), .int p1, .int p2] S rs S bzT := by
  refine MI.of (by decide) (Nat.le_of_ble_eq_true rfl) rfl (fun _ _ => rfl) (fun x hnL C hR => ?_)
  rw [K_waysFrom] at hf
  refine x_iconst C d_K_waysFrom_0 0 ?_
  refine x_istore_n C d_K_waysFrom_1 [(3, .int 0), (0, .ref (w.1 17)), (1, .int p1), (2, .int p2)] (by rw [hnL]; decide) rfl ?_
  refine x_iconst C d_K_waysFrom_2 0 ?_
  refine x_istore C d_K_waysFrom_3 [(4, .int 0), (3, .int 0), (0, .ref (w.1 17)), (1, .int p1), (2, .int p2)] (by rw [hnL]; decide) rfl ?_
  refine x_sub [2, 3, 4, 1, 0] rfl ?_
  exact w_K_waysFrom_L5 hnL C hR  F 0 0 hf
set_option maxRecDepth 4000 in
theorem m_N_ways {w : Ww} {l0 : Launch} {F : Nat} {S : St} {p1 : Int32} {p2 : Int32} {r : Int32} {S9 : St}  (hf : N_ways F S p1 p2 = some (r, S9)) : MI shN w l0 y_N_ways b_N_ways 3 .int 4 [.ref (w.1 0), .int p1, .int p2] S r S9 bzT := by
  refine MI.of (by decide) (Nat.le_of_ble_eq_true rfl) rfl (fun _ _ => rfl) (fun x hnL C hR => ?_)
  rw [N_ways] at hf
  refine x_iload_n C d_N_ways_0 1 rfl ?_
  refine x_csr C d_N_ways_1 wd719 cm_N_isSlow [.int p1] rfl rfl (by decide) (Nat.le_of_ble_eq_true rfl) hf (fun _ h => m_N_isSlow h) (fun v1 hf hb_v1 => ?_)
  refine x_if_eq C d_N_ways_4 hf (fun hf => ?_) (fun hf => ?_)
  · refine x_iconst C d_N_ways_18 (-1) ?_
    exact hR _ _ _ _ d_N_ways_19.1 hf trivial
  refine x_aload_n C d_N_ways_7 0 rfl ?_
  refine x_getr C d_N_ways_8 f_N_plan wd337 rfl rfl ?_
  refine x_iload_n C d_N_ways_11 2 rfl ?_
  refine x_cvr C d_N_ways_12 wd587 cm_P_isWord rfl rfl [.int p2] rfl rfl (by decide) (Nat.le_of_ble_eq_true rfl) hf (fun _ h => m_P_isWord isP1 h) (fun v2 hf hb_v2 => ?_)
  refine x_if_ne C d_N_ways_15 hf (fun hf => ?_) (fun hf => ?_)
  · refine x_iconst C d_N_ways_18 (-1) ?_
    exact hR _ _ _ _ d_N_ways_19.1 hf trivial
  refine x_aload_n C d_N_ways_20 0 rfl ?_
  refine x_getr C d_N_ways_21 f_N_machine wd342 rfl rfl ?_
  refine x_aload_n C d_N_ways_24 0 rfl ?_
  refine x_getr C d_N_ways_25 f_N_plan wd337 rfl rfl ?_
  refine x_get C d_N_ways_28 f_P_wires wd113 rfl rfl ?_
  refine x_cvv C d_N_ways_31 wd808 cm_K_prepare rfl rfl [.int (S.1 1 0)] rfl rfl (by decide) (Nat.le_of_ble_eq_true rfl) hf (fun _ h => m_K_prepare h) (fun S3 hf => ?_)
  refine x_aload_n C d_N_ways_34 0 rfl ?_
  refine x_getr C d_N_ways_35 f_N_machine wd342 rfl rfl ?_
  refine x_iload_n C d_N_ways_38 1 rfl ?_
  refine x_iload_n C d_N_ways_39 2 rfl ?_
  refine x_cvr C d_N_ways_40 wd837 cm_K_waysFrom rfl rfl [.int p1, .int p2] rfl rfl (by decide) (Nat.le_of_ble_eq_true rfl) hf (fun _ h => m_K_waysFrom h) (fun v4 hf hb_v4 => ?_)
  exact hR _ _ _ _ d_N_ways_43.1 hf trivial
set_option maxRecDepth 4000 in
theorem m_N_isBits {w : Ww} {l0 : Launch} {F : Nat} {S : St} {p1 : Int32} {rs : Int32}  (hf : N_isBits F S p1 = some rs) : MI shN w l0 y_N_isBits b_N_isBits 1 .boolean 0 [.int p1] S rs S bz01 := by
  refine MI.of (by decide) (Nat.le_of_ble_eq_true rfl) rfl (fun v hb => by rcases hb with rfl | rfl <;> decide) (fun x hnL C hR => ?_)
  rw [N_isBits] at hf
  refine x_iload_n C d_N_isBits_0 0 rfl ?_
  refine x_jn (fun J1 => J1  = some rs → WX shN w x S 14 [] []) hf (fun hf => ?_) (fun J1 hJ1 hf => ?_)
  · refine x_iconst C d_N_isBits_14 0 ?_
    exact x_retR hR d_N_isBits_15 hf (Or.inl rfl)
  refine x_if_lt C d_N_isBits_1 hf (fun hf => ?_) (fun hf => ?_)
  · refine x_sub [] rfl ?_
    exact hJ1  hf
  refine x_iload_n C d_N_isBits_4 0 rfl ?_
  refine x_bipush C d_N_isBits_5 8 ?_
  refine x_icmp_gt C d_N_isBits_7 hf (fun hf => ?_) (fun hf => ?_)
  · refine x_sub [] rfl ?_
    exact hJ1  hf
  refine x_iconst C d_N_isBits_10 1 ?_
  refine x_goto C d_N_isBits_11 ?_
  exact x_retR hR d_N_isBits_15 hf (Or.inr rfl)
set_option maxRecDepth 4000 in
theorem w_K_fillKept_L2 {w : Ww} {l0 : Launch} {x : Cx} {F : Nat}  {rs : St}  (hnL : x.2.2.2.2.2.2.2.2.2.2.2.2 = 4) (C : XC shN w "NeighbourWires$Machine" b_K_fillKept l0 0 x) (hR : RV shN w b_K_fillKept rs x)   : ∀ (n : Nat) (S1 : St) (v2 : Int32), K_fillKept_L2 F n S1 v2 = some rs → WX shN w x S1 2 [(0, .ref (w.1 17)), (1, .int v2)] [] := by
  intro n
  induction n with
  | zero => intro S1 v2 hf; cases hf
  | succ n ih =>
    intro S1 v2 hf
    rw [K_fillKept_L2] at hf
    refine x_iload_n C d_K_fillKept_2 1 rfl ?_
    refine x_aload_n C d_K_fillKept_3 0 rfl ?_
    refine x_getr C d_K_fillKept_4 f_K_kept wd300 rfl rfl ?_
    refine x_alen C (4) d_K_fillKept_7 rfl rfl (by decide) ?_
    refine x_icmp_ge C d_K_fillKept_8 hf (fun hf => ?_) (fun hf => ?_)
    · refine x_iload_n C d_K_fillKept_11 1 rfl ?_
      refine x_bipush C d_K_fillKept_12 64 ?_
      refine x_imul C d_K_fillKept_14 ?_
      refine x_bi hf (fun v3 hf => ?_)
      refine x_istore_n C d_K_fillKept_15 [(2, .int v3), (0, .ref (w.1 17)), (1, .int v2)] (by rw [hnL]; decide) rfl ?_
      refine x_aload_n C d_K_fillKept_16 1 rfl ?_
      refine x_get C d_K_fillKept_17 f_K_words wd303 rfl rfl ?_
      refine x_iload_n C d_K_fillKept_20 0 rfl ?_
      refine x_isub C d_K_fillKept_21 ?_
      refine x_bipush C d_K_fillKept_22 64 ?_
      refine x_jn (fun J5 => ∀ (v4 : Int32), J5 v4 = some rs → WX shN w x S1 32 [(0, .ref (w.1 17)), (1, .int v2), (2, .int v3)] [.int v4]) hf (fun v4 hf => ?_) (fun J5 hJ5 hf => ?_)
      · refine x_istore_n C d_K_fillKept_32 [(3, .int v4), (0, .ref (w.1 17)), (1, .int v2), (2, .int v3)] (by rw [hnL]; decide) rfl ?_
        refine x_aload_n C d_K_fillKept_33 1 rfl ?_
        refine x_getr C d_K_fillKept_34 f_K_kept wd300 rfl rfl ?_
        refine x_iload_n C d_K_fillKept_37 2 rfl ?_
        refine x_iload_n C d_K_fillKept_38 0 rfl ?_
        refine x_jn (fun J7 => ∀ (u6 : Int64), J7 u6 = some rs → WX shN w x S1 70 [(0, .ref (w.1 17)), (1, .int v2)] [.long u6, .int v2, .ref (w.1 19)]) hf (fun u6 hf => ?_) (fun J7 hJ7 hf => ?_)
        · refine x_last C d_K_fillKept_70 rfl hf (fun S8 hf => ?_)
          refine x_iinc C 1 d_K_fillKept_71 1 rfl (by rw [hnL]; decide) hf (fun v9 => [(1, .int v9), (0, .ref (w.1 17))]) (fun _ => rfl) (fun v9 hf => ?_)
          refine x_goto C d_K_fillKept_74 ?_
          refine x_sub [1, 0] rfl ?_
          exact ih S8 v9 hf
        refine x_if_eq C d_K_fillKept_39 hf (fun hf => ?_) (fun hf => ?_)
        · refine x_aload_n C d_K_fillKept_48 1 rfl ?_
          refine x_get C d_K_fillKept_49 f_K_words wd303 rfl rfl ?_
          refine x_iload_n C d_K_fillKept_52 3 rfl ?_
          refine x_icmp_le C d_K_fillKept_53 hf (fun hf => ?_) (fun hf => ?_)
          · refine x_lconst C d_K_fillKept_56 1 ?_
            refine x_aload_n C d_K_fillKept_57 1 rfl ?_
            refine x_get C d_K_fillKept_58 f_K_words wd303 rfl rfl ?_
            refine x_iload_n C d_K_fillKept_61 3 rfl ?_
            refine x_isub C d_K_fillKept_62 ?_
            refine x_lshl C d_K_fillKept_63 ?_
            refine x_lconst C d_K_fillKept_64 1 ?_
            refine x_lsub C d_K_fillKept_65 ?_
            refine x_goto C d_K_fillKept_66 ?_
            refine x_sub [1, 2] rfl ?_
            exact hJ7 ((jlshl 1 ((S1.1 17 5) - v3)) - 1) hf
          refine x_lconst C d_K_fillKept_69 0 ?_
          refine x_sub [1, 2] rfl ?_
          exact hJ7 0 hf
        refine x_ldc2 C d_K_fillKept_42 wd870 ?_
        refine x_goto C d_K_fillKept_45 ?_
        refine x_sub [1, 2] rfl ?_
        exact hJ7 (-1) hf
      refine x_icmp_lt C d_K_fillKept_24 hf (fun hf => ?_) (fun hf => ?_)
      · refine x_iconst C d_K_fillKept_31 0 ?_
        refine x_sub [1, 2, 0] rfl ?_
        exact hJ5 0 hf
      refine x_iconst C d_K_fillKept_27 1 ?_
      refine x_goto C d_K_fillKept_28 ?_
      refine x_sub [1, 2, 0] rfl ?_
      exact hJ5 1 hf
    exact hR _ _ _ d_K_fillKept_77.1 hf
set_option maxRecDepth 4000 in
theorem m_K_fillKept {w : Ww} {l0 : Launch} {F : Nat} {S : St} {rs : St}  (hf : K_fillKept F S = some rs) : MV shN w l0 y_K_fillKept b_K_fillKept 4 0 [.ref (w.1 17)] S rs := by
  refine MV.of (by decide) (Nat.le_of_ble_eq_true rfl) rfl (fun x hnL C hR => ?_)
  rw [K_fillKept] at hf
  refine x_iconst C d_K_fillKept_0 0 ?_
  refine x_istore_n C d_K_fillKept_1 [(1, .int 0), (0, .ref (w.1 17))] (by rw [hnL]; decide) rfl ?_
  refine x_sub [1, 0] rfl ?_
  exact w_K_fillKept_L2 hnL C hR  F S 0 hf
set_option maxRecDepth 4000 in
theorem m_K_isIn {w : Ww} {l0 : Launch} {F : Nat} {A : Nat} {S : St} {p2 : Int32} {rs : Int32} (hA : isJ A (lenN A)) (hf : K_isIn F A S p2 = some rs) : MI shN w l0 y_K_isIn b_K_isIn 3 .boolean 0 [.ref (w.1 A), .int p2] S rs S bz01 := by
  refine MI.of (by decide) (Nat.le_of_ble_eq_true rfl) rfl (fun v hb => by rcases hb with rfl | rfl <;> decide) (fun x hnL C hR => ?_)
  rw [K_isIn] at hf
  refine x_iload_n C d_K_isIn_0 1 rfl ?_
  refine x_bipush C d_K_isIn_1 64 ?_
  refine x_idiv C d_K_isIn_3 (by decide) ?_
  refine x_bi hf (fun v1 hf => ?_)
  refine x_istore_n C d_K_isIn_4 [(2, .int v1), (0, .ref (w.1 A)), (1, .int p2)] (by rw [hnL]; decide) rfl ?_
  refine x_iload_n C d_K_isIn_5 0 rfl ?_
  refine x_jn (fun J2 => J2  = some rs → WX shN w x S 34 [] []) hf (fun hf => ?_) (fun J2 hJ2 hf => ?_)
  · refine x_iconst C d_K_isIn_34 0 ?_
    exact x_retR hR d_K_isIn_35 hf (Or.inl rfl)
  refine x_if_lt C d_K_isIn_6 hf (fun hf => ?_) (fun hf => ?_)
  · refine x_sub [] rfl ?_
    exact hJ2  hf
  refine x_iload_n C d_K_isIn_9 0 rfl ?_
  refine x_aload_n C d_K_isIn_10 1 rfl ?_
  refine x_alen C (Int32.ofNat (lenN A)) d_K_isIn_11 hA rfl rfl ?_
  refine x_icmp_ge C d_K_isIn_12 hf (fun hf => ?_) (fun hf => ?_)
  · refine x_aload_n C d_K_isIn_15 1 rfl ?_
    refine x_iload_n C d_K_isIn_16 0 rfl ?_
    refine x_lald C d_K_isIn_17 hA hf (fun hf => ?_)
    refine x_iload_n C d_K_isIn_18 2 rfl ?_
    refine x_bipush C d_K_isIn_19 64 ?_
    refine x_irem C d_K_isIn_21 (by decide) ?_
    refine x_lushr C d_K_isIn_22 ?_
    refine x_lconst C d_K_isIn_23 1 ?_
    refine x_land C d_K_isIn_24 ?_
    refine x_lconst C d_K_isIn_25 0 ?_
    refine x_lcmp C d_K_isIn_26 ?_
    refine x_if_eq C d_K_isIn_27 hf (fun hf => ?_) (fun hf => ?_)
    · refine x_sub [] rfl ?_
      exact hJ2  hf
    refine x_iconst C d_K_isIn_30 1 ?_
    refine x_goto C d_K_isIn_31 ?_
    exact x_retR hR d_K_isIn_35 hf (Or.inr rfl)
  refine x_sub [] rfl ?_
  exact hJ2  hf
