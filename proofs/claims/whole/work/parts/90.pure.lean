theorem gRel0 : gRel gM0 := sorry
theorem lawOk : LawOk gRel := sorry
