/-! THE RELATION HOLDS AT THE START, EVERY CALL KEEPS IT -/
theorem rz_at : (∀ k, k < 5 → S_reset.1 0 k = (if k = 0 then 4 else if k = 1 then 1 else if k = 2 then 1 else 0)) ∧ ∀ k, k < 8 → S_reset.1 1 k = nI k := by decide +kernel
theorem rel_0 : Rel9 S0N S0M := by
  have a := rz_at.1
  have b := rz_at.2
  refine ⟨⟨4, by omega, by omega, ?_, rfl, ⟨1, by omega, ?_, rfl⟩, ⟨1, by omega, ?_, rfl⟩, ⟨0, by decide, ?_, rfl⟩, ⟨0, by omega, ?_, rfl, fun k hk => absurd hk (Nat.not_lt_zero k)⟩, fun p hp => ⟨p, hp, ?_, ?_⟩, fun p q hp hq e => ?_⟩, ⟨0, by omega, rfl, rfl, fun k hk => absurd hk (Nat.not_lt_zero k)⟩, ⟨rfl, rfl⟩, ?_, Or.inl rfl, Or.inl rfl⟩
  · exact a 0 (by decide)
  · exact a 1 (by decide)
  · exact a 2 (by decide)
  · exact a 3 (by decide)
  · exact a 4 (by decide)
  · exact b p (by omega)
  · rcases (show p = 0 ∨ p = 1 ∨ p = 2 ∨ p = 3 by omega) with rfl | rfl | rfl | rfl <;> rfl
  · have e' : S_reset.1 1 p = S_reset.1 1 q := e
    rw [b p (by omega), b q (by omega)] at e'
    exact (nI_eq (by omega) (by omega)).mp e'
  · intro k hk
    rcases (show k = 0 ∨ k = 1 ∨ k = 2 ∨ k = 3 by omega) with rfl | rfl | rfl | rfl
    · exact ⟨Or.inl ⟨rfl, rfl⟩, ⟨0, by omega, rfl, rfl⟩, fun i _ => rfl⟩
    · exact ⟨Or.inl ⟨rfl, rfl⟩, ⟨0, by omega, rfl, rfl⟩, fun i _ => rfl⟩
    · exact ⟨Or.inl ⟨rfl, rfl⟩, ⟨0, by omega, rfl, rfl⟩, fun i _ => rfl⟩
    · exact ⟨Or.inl ⟨rfl, rfl⟩, ⟨0, by omega, rfl, rfl⟩, fun i _ => rfl⟩
theorem rel_ok : RelOK F9 Rel9 := ⟨ok_feed, ok_end, ok_text, ok_fault, ok_order, ok_shield, ok_at, ok_change, ok_slow, ok_send, ok_empty, ok_sent, ok_row, ok_best, ok_shields, ok_turned, ok_book, ok_word, ok_place, ok_slowest, ok_greatest, ok_ways, ok_kept, ok_bits, ok_encode, ok_decode, ok_sheet, ok_lay, ok_read, ok_torn, ok_count⟩
