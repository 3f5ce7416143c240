/-! the start, and every step -/
theorem rel_00 : Rel u0x u0m 0 := by
  refine ⟨(fun _ => -1, fun _ => -1, fun _ => 0, fun _ => 0, fun _ => 0, fun _ => 0, 0, 0, 0, 0, 0, 0), ?_, ?_, ?_, Or.inl (by show ¬ (1 : Int32) = 0; decide), Nat.le_refl _, ⟨⟨0, Nat.le_refl _, rfl⟩, Or.inl rfl⟩, Or.inr ⟨rfl, Or.inl rfl⟩⟩
  · refine ⟨Or.inl ⟨rfl, rfl⟩, fun k a b => ?_, fun k a b => ?_, fun _ _ _ => rfl, ⟨by show 0 ≤ 26; omega, fun k hk => absurd hk (Nat.not_lt_zero _)⟩, by show 0 ≤ 6; omega, fun k _ => ⟨⟨0, by omega, rfl⟩, Or.inl rfl⟩, by show 0 ≤ 999; omega, by show 0 ≤ 600; omega⟩
    · have b' : k ≤ 0 := b
      omega
    · have b' : k ≤ 0 := b
      omega
  · refine ⟨⟨rfl, rfl, fun k a b => ?_, fun k a b => ?_⟩, ⟨rfl, fun k hk => absurd hk (Nat.not_lt_zero _)⟩, rfl, rfl, fun _ _ => ⟨rfl, rfl, rfl⟩, rfl⟩
    · have b' : k ≤ 0 := b
      omega
    · have b' : k ≤ 0 := b
      omega
  · refine ⟨⟨rfl, rfl, fun k a b => ?_, fun k a b => ?_⟩, ⟨rfl, fun k hk => absurd hk (Nat.not_lt_zero _)⟩, rfl, rfl, fun _ _ => ⟨rfl, rfl, rfl⟩, rfl⟩
    · have b' : k ≤ 0 := b
      omega
    · have b' : k ≤ 0 := b
      omega
theorem st_all : StAll Rel := ⟨st_letter, st_blank, st_fault, st_board, st_number, st_as, st_way, st_paint, st_wipe, st_be, st_ways, st_mend, st_wins, st_odds, st_see, st_forget, st_paintings, st_image, st_restore, st_count, st_digest, fun _ _ _ h => h.next⟩
