def gRel (M : Mem) : Prop := sorry
theorem gRel0 : gRel gM0 := sorry
theorem lawOk : LawOk gRel := sorry
