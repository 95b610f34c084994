/-! the start holds the relation -/
theorem gRel0 : gRel gM0 := by
  have n1 : nT (Sv 5 gM0.1) = 0 := rfl
  have n2 : nP (Sv 5 gM0.1) = 0 := rfl
  have n3 : nB (Sv 5 gM0.1) = 0 := rfl
  have n4 : nQ (Sv 5 gM0.1) = 0 := rfl
  refine ⟨⟨⟨⟨⟨0, by omega, rfl⟩, fun t _ => ⟨0, by omega, rfl⟩, fun t ht => ?_, fun t w ht => ?_, ⟨2, by omega, rfl⟩, ⟨1, by omega, rfl⟩⟩, ⟨⟨0, by omega, rfl⟩, fun p hp => ?_, fun f hf => ?_⟩, ⟨⟨0, by omega, rfl⟩, fun j hj => ?_⟩, ⟨fun p _ => ⟨0, by omega, rfl⟩, fun f hf => ?_⟩, ⟨0, by omega, rfl⟩, fun j hj => ?_⟩, ⟨rfl, fun t ht => ?_, fun t w ht => ?_, rfl, rfl⟩, ⟨rfl, fun p hp => ?_, fun p _ hp => ?_, fun p hp => ?_, fun f hf => ?_⟩, ⟨rfl, fun j hj => ?_⟩, ⟨fun p hp => ?_, fun f hf => ?_⟩, rfl, fun j hj => ?_⟩, fun i hi => ⟨rfl, Or.inl rfl⟩, fun i hi h => ?_, fun i hi => rfl, rfl, rfl⟩
  · omega
  · omega
  · omega
  · exact Or.inl (show jFill 4 (-1) (fun _ => 0) f = -1 from if_pos hf)
  · omega
  · exact Or.inl (show jFill 4 (-2) (fun _ => 0) f = -2 from if_pos hf)
  · omega
  · omega
  · omega
  · omega
  · have : ∀ p, p < 6 → gM0.1 117 (16 * 0 + p) = 0 := by decide
    exact this p hp
  · have : ∀ p, p < 6 → gM0.1 117 (16 * 0 + 6 + p) = -1 := by decide
    exact this p hp
  · have : ∀ f, f < 4 → gM0.1 117 (16 * 0 + 12 + f) = Sv 5 gM0.1 12 f := by decide
    exact this f hf
  · omega
  · have : ∀ p, p < 6 → gM0.1 118 (12 * 0 + p) = Sv 5 gM0.1 16 p := by decide
    exact this p hp
  · have : ∀ f, f < 4 → gM0.1 118 (12 * 0 + 6 + f) = Sv 5 gM0.1 17 f := by decide
    exact this f hf
  · omega
  · exact absurd (show (0 : Int32) = 1 from h) (by decide)
