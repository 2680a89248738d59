/-! fresh objects hold alike -/
theorem rel0 : Rel sg0 sgR0 := by
  refine ⟨⟨0, fun _ => 0, fun _ => 0, fun _ => 0, fun _ => 0, 200, 3, ?_, rfl, by decide, by decide, rfl, rfl⟩, ?_, ?_, Or.inl rfl, Or.inl rfl, Or.inl rfl⟩
  · exact ⟨⟨rfl, fun j _ => ⟨rfl, rfl, rfl, rfl⟩⟩, ⟨rfl, fun j _ => ⟨rfl, rfl, rfl, rfl⟩⟩, ⟨by decide, fun j _ => ⟨Nat.zero_le _, (show 0 < 24 by decide), (show 0 < 8 by decide)⟩⟩, by decide, rfl, fun j _ => ⟨rfl, rfl, Or.inl rfl⟩⟩
  · intro k hk
    rcases lt8 hk with rfl | rfl | rfl | rfl | rfl | rfl | rfl | rfl <;> exact ⟨rfl, rfl⟩
  · refine ⟨rfl, fun s hs => Or.inl ?_⟩
    rcases lt4 hs with rfl | rfl | rfl | rfl <;> exact ⟨rfl, rfl⟩
