/-! B: FEED -/
theorem sh_eq : ∀ i, i < 8 → (8 : Int32) * (7 - nI i) = nI (56 - 8 * i) := by decide +kernel
theorem m8_eq : ∀ i, i < 7 → nI (56 - 8 * i) + (-8) = nI (56 - 8 * (i + 1)) := by decide +kernel
theorem w_c : ∀ k, k < 64 → ((nI k).toInt64 &&& 63).toBitVec = BitVec.ofNat 64 k := by decide +kernel
theorem w_cu : ∀ k, k < 64 → ((nI k).toInt64.toUInt64 &&& Int64.toUInt64 63) = UInt64.ofNat k := by decide +kernel
theorem w_sm : ∀ k, k < 64 → ((BitVec.ofNat 64 k).smod 64).toNat = k := by decide +kernel
theorem w_um : ∀ k, k < 64 → ((UInt64.ofNat k).toBitVec % 64).toNat = k := by decide +kernel
theorem b255 : ∀ i, i < 64 → (255 : Int64).toBitVec.getLsbD i = decide (i < 8) := by decide +kernel
theorem jlshr_b (v : Int64) (s : Nat) (hs : s < 64) : (jlshr v (nI s)).toBitVec = v.toBitVec.sshiftRight s := by
  unfold jlshr
  rw [Int64.toBitVec_shiftRight, w_c s hs, BitVec.sshiftRight', w_sm s hs]
theorem jlushr_b (v : Int64) (s : Nat) (hs : s < 64) : (jlushr v (nI s)).toBitVec = v.toBitVec >>> s := by
  unfold jlushr
  rw [w_cu s hs]
  show (v.toUInt64 >>> UInt64.ofNat s).toBitVec = _
  rw [UInt64.toBitVec_shiftRight]
  show v.toBitVec >>> ((UInt64.ofNat s).toBitVec % 64) = _
  rw [BitVec.ushiftRight_eq', w_um s hs]
theorem byte_of (v : Int64) (s : Nat) (hs : s ≤ 56) : ∃ k, k < 256 ∧ Int64.toInt32 (jlshr v (nI s) &&& 255) = nI k ∧ vp_nar .byte (jb (Int64.toInt32 (jlushr v (nI s)))) = jb (nI k) := by
  refine ⟨(v.toBitVec.extractLsb' s 8).toNat, (v.toBitVec.extractLsb' s 8).isLt, ?_, ?_⟩
  · apply Int32.toBitVec_inj.mp
    rw [Int64.toBitVec_toInt32, Int64.toBitVec_and, jlshr_b v s (by omega)]
    show _ = BitVec.ofNat 32 _
    apply BitVec.eq_of_getLsbD_eq
    intro i hi
    rw [BitVec.getLsbD_ofNat, BitVec.testBit_toNat, BitVec.getLsbD_extractLsb', BitVec.getLsbD_signExtend, if_pos (show i < 64 by omega), BitVec.getLsbD_and, BitVec.getLsbD_sshiftRight, b255 i (by omega)]
    by_cases h8 : i < 8
    · rw [if_pos (show s + i < 64 by omega)]
      simp only [hi, h8, decide_true, Bool.true_and, Bool.and_true, show ¬ 64 ≤ i by omega, decide_false, Bool.not_false]
    · simp only [hi, h8, decide_true, decide_false, Bool.true_and, Bool.and_false, Bool.false_and]
  · have h2 : vp_nar .byte (jb (Int64.toInt32 (jlushr v (nI s)))) = jb (Int64.toInt32 (jlushr v (nI s))) := fb_byte_twice _
    rw [h2]
    unfold jb
    congr 1
    apply Int8.toBitVec_inj.mp
    rw [Int32.toBitVec_toInt8, Int32.toBitVec_toInt8, Int64.toBitVec_toInt32, jlushr_b v s (by omega)]
    show _ = BitVec.signExtend 8 (BitVec.ofNat 32 _)
    apply BitVec.eq_of_getLsbD_eq
    intro i hi
    rw [BitVec.getLsbD_signExtend, BitVec.getLsbD_signExtend, if_pos (show i < 32 by omega), BitVec.getLsbD_signExtend, if_pos (show i < 64 by omega), if_pos (show i < 32 by omega), BitVec.getLsbD_ushiftRight, BitVec.getLsbD_ofNat, BitVec.testBit_toNat, BitVec.getLsbD_extractLsb']
    simp only [hi, show i < 32 by omega, decide_true, Bool.true_and]
/-- the state after i of a word's bytes -/
def fN (v : Int64) (t : Nat) (S : St) : Nat → St
  | 0 => S
  | i + 1 => sI (fN v t S i) 8 (t + i) (vp_nar .byte (jb (Int64.toInt32 (jlushr v (nI (56 - 8 * i))))))
def fM (v : Int64) (t : Nat) (M : St) : Nat → St
  | 0 => M
  | i + 1 => sI (sI (fM v t M i) 5 (t + i) (Int64.toInt32 (jlshr v (nI (56 - 8 * i)) &&& 255))) 0 15 (nI (t + i + 1))
theorem fN_row (v : Int64) (t : Nat) (S : St) (a : Nat) (ha : a ≠ 8) : ∀ i, (fN v t S i).1 a = S.1 a
  | 0 => rfl
  | i + 1 => by
    show (sI (fN v t S i) _ _ _).1 a = _
    rw [sI_row _ _ _ _ _ ha, fN_row v t S a ha i]
theorem fN_2 (v : Int64) (t : Nat) (S : St) : ∀ i, (fN v t S i).2 = S.2
  | 0 => rfl
  | i + 1 => fN_2 v t S i
theorem fM_row (v : Int64) (t : Nat) (M : St) (a : Nat) (ha : a ≠ 5 ∧ a ≠ 0) : ∀ i, (fM v t M i).1 a = M.1 a
  | 0 => rfl
  | i + 1 => by
    show (sI (sI (fM v t M i) _ _ _) _ _ _).1 a = _
    rw [sI_row _ _ _ _ _ ha.2, sI_row _ _ _ _ _ ha.1, fM_row v t M a ha i]
theorem fM_0 (v : Int64) (t : Nat) (M : St) (k : Nat) (hk : k ≠ 15) : ∀ i, (fM v t M i).1 0 k = M.1 0 k
  | 0 => rfl
  | i + 1 => by
    show (sI (sI (fM v t M i) _ _ _) _ _ _).1 0 k = _
    rw [sI_at, if_neg (fun q => hk q.2), sI_at, if_neg (by omega), fM_0 v t M k hk i]
theorem fM_15 (v : Int64) (t : Nat) (M : St) (h : M.1 0 15 = nI t) : ∀ i, (fM v t M i).1 0 15 = nI (t + i)
  | 0 => h
  | i + 1 => by
    show (sI (sI (fM v t M i) _ _ _) _ _ _).1 0 15 = _
    rw [sI_at, if_pos ⟨rfl, rfl⟩]
    rfl
theorem fNM (v : Int64) (t : Nat) (S M : St) (h : ∀ k, k < t → ∃ b, b < 256 ∧ M.1 5 k = nI b ∧ S.1 8 k = jb (nI b)) : ∀ i, i ≤ 8 → ∀ k, k < t + i → ∃ b, b < 256 ∧ (fM v t M i).1 5 k = nI b ∧ (fN v t S i).1 8 k = jb (nI b)
  | 0, _, k, hk => h k hk
  | i + 1, hi, k, hk => by
    show ∃ b, b < 256 ∧ (sI (sI (fM v t M i) 5 (t + i) _) 0 15 _).1 5 k = nI b ∧ (sI (fN v t S i) 8 (t + i) _).1 8 k = jb (nI b)
    rw [sI_row _ _ _ _ 5 (by decide), sI_at, sI_at]
    by_cases e : k = t + i
    · obtain ⟨b, hb, e1, e2⟩ := byte_of v (56 - 8 * i) (by omega)
      exact ⟨b, hb, by rw [if_pos ⟨rfl, e⟩, e1], by rw [if_pos ⟨rfl, e⟩, e2]⟩
    · rw [if_neg (fun q => e q.2), if_neg (fun q => e q.2)]
      exact fNM v t S M h i (by omega) k (by omega)
theorem N_feed_loop {F t : Nat} {v : Int64} {S : St} {K : St → Option (Int32 × St)} (ht : t + 8 ≤ 240) (hs : S.1 7 0 = nI t) : ∀ (k i n : Nat), i + k = 8 → k < n → T_append_L26 F v K n (fN v t S i) (nI i) = K (fN v t S 8)
  | 0, i, n + 1, e, hn => by
    rw [T_append_L26]
    have : i = 8 := by omega
    subst this
    rw [if_neg (by decide)]
  | k + 1, i, n + 1, e, hn => by
    rw [T_append_L26, if_pos (show nI i < 8 from (nI_ltI (b := 8) (by omega) (by omega)).mpr (by omega)), fN_row v t S 7 (by decide), hs, nI_add, chk_n _ (by omega) (by omega), bnd_e, bnd_e, nI_clamp (by omega), sh_eq i (by omega), nI_1]
    exact N_feed_loop ht hs k (i + 1) n (by omega) (by omega)
theorem M_feed_loop {F t : Nat} {v : Int64} {M : St} {K : St → Option (Int32 × St)} (ht : t + 8 ≤ 240) (hs : M.1 0 15 = nI t) : ∀ (k i n : Nat), i + (k + 1) = 8 → k + 1 < n → M_feed_L19 F v K n (fM v t M i) (nI (56 - 8 * i)) = K (fM v t M 8)
  | 0, i, n + 2, e, hn => by
    have : i = 7 := by omega
    subst this
    rw [M_feed_L19, if_neg (by decide), fM_15 v t M hs, chk_n _ (by omega) (by omega), bnd_e, bnd_e, bnd_e, nI_clamp (by omega), sI_row _ _ _ _ 0 (by decide), fM_15 v t M hs, nI_1, M_feed_L19, if_pos (by decide)]
    rfl
  | k + 1, i, n + 1, e, hn => by
    rw [M_feed_L19, if_neg (show ¬ nI (56 - 8 * i) < 0 from nI_pos (by omega)), fM_15 v t M hs, chk_n _ (by omega) (by omega), bnd_e, bnd_e, bnd_e, nI_clamp (by omega), sI_row _ _ _ _ 0 (by decide), fM_15 v t M hs, nI_1, m8_eq i (by omega)]
    exact M_feed_loop ht hs k (i + 1) n (by omega) (by omega)
theorem ok_feed : st_feed F9 Rel9 := by
  intro S M h v
  obtain ⟨hp, ⟨t, t240, st, mt, hb⟩, hf, hh, hc, hd⟩ := id h
  have c240 : (240 : Int32) - 8 = nI 232 := by decide
  unfold N_feed M_feed T_append
  rw [st, mt, c240, if_neg (show ¬ nI t < 0 from nI_pos (by omega))]
  by_cases g : 232 < t
  · rw [if_pos (show nI 232 < nI t from nI_lt g (by omega)), cal_s, if_pos rfl, if_pos (show (240 : Int32) < nI t + 8 from by
      show nI 240 < nI t + nI 8
      rw [nI_add]
      exact nI_lt (by omega) (by omega))]
    exact ⟨-3, S, M, rfl, rfl, h⟩
  · rw [if_neg (show ¬ nI 232 < nI t from nI_nlt (by omega) (by omega)), if_neg (show ¬ (240 : Int32) < nI t + 8 from by
      show ¬ nI 240 < nI t + nI 8
      rw [nI_add]
      exact nI_nlt (by omega) (by omega))]
    have e1 := N_feed_loop (F := F9) (v := v) (S := S) (K := fun S2 => bnd (sI S2 7 0 ((S2.1 7 0) + 8)) fun S3 => some ((1 : Int32), S3)) (t := t) (by omega) st 8 0 F9 (by omega) (by decide)
    have e2 := M_feed_loop (F := F9) (v := v) (M := M) (K := fun S2 => some (S2.1 0 15, S2)) (t := t) (by omega) mt 7 0 F9 (by omega) (by decide)
    refine ⟨nI (t + 8), sI (fN v t S 8) 7 0 (nI (t + 8)), fM v t M 8, ?_, ?_, ?_⟩
    · show cal (T_append_L26 F9 v _ F9 (fN v t S 0) (nI 0)) _ = _
      rw [e1, bnd_e, cal_s, if_neg (by decide), fN_row v t S 7 (by decide), st]
      have : nI t + 8 = nI (t + 8) := nI_add t 8
      rw [this, sI_at, if_pos ⟨rfl, rfl⟩]
    · show M_feed_L19 F9 v _ F9 (fM v t M 0) (nI (56 - 8 * 0)) = _
      rw [e2, fM_15 v t M mt]
    · obtain ⟨n, hp⟩ := hp
      refine ⟨⟨n, ?_⟩, ⟨t + 8, by omega, ?_, fM_15 v t M mt 8, fun k hk => ?_⟩, ?_, ?_, ?_, ?_⟩
      · unfold RelP at hp ⊢
        rw [sI_row _ _ _ _ 1 (by decide), sI_row _ _ _ _ 2 (by decide), sI_row _ _ _ _ 3 (by decide), fN_row _ _ _ 1 (by decide), fN_row _ _ _ 2 (by decide), fN_row _ _ _ 3 (by decide), fM_row _ _ _ 1 (by decide), fM_row _ _ _ 2 (by decide), fM_0 _ _ _ 0 (by decide), fM_0 _ _ _ 1 (by decide), fM_0 _ _ _ 2 (by decide), fM_0 _ _ _ 3 (by decide), fM_0 _ _ _ 4 (by decide)]
        exact hp
      · rw [sI_at, if_pos ⟨rfl, rfl⟩]
      · rw [sI_row _ _ _ _ 8 (by decide)]
        exact fNM v t S M hb 8 (by omega) k hk
      · unfold RelF at hf ⊢
        rw [sI_row _ _ _ _ 6 (by decide), sI_row _ _ _ _ 0 (by decide), fN_row _ _ _ 6 (by decide), fN_row _ _ _ 0 (by decide), fM_0 _ _ _ 20 (by decide), fM_0 _ _ _ 36 (by decide)]
        exact hf
      · intro k hk
        rw [sI_row _ _ _ _ (22 + 2 * k) (by omega), sI_row _ _ _ _ (23 + 2 * k) (by omega), fN_row _ _ _ (22 + 2 * k) (by omega), fN_row _ _ _ (23 + 2 * k) (by omega), fM_row _ _ _ 14 (by decide), fM_row _ _ _ 15 (by decide), fM_row _ _ _ 16 (by decide)]
        exact hh k hk
      · unfold RelC at hc ⊢
        rw [sI_row _ _ _ _ 17 (by decide), sI_2, fN_2, fN_row _ _ _ 17 (by decide)]
        exact hc
      · unfold RelD at hd ⊢
        rw [fM_0 _ _ _ 31 (by decide), fM_row _ _ _ 13 (by decide)]
        exact hd
