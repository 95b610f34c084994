/-! the cells by their numbers -/
theorem o_0 : gIs 19 0 := ⟨by decide, rfl⟩
theorem az_2 : gArrZ 2 2 := ⟨by decide, rfl⟩
theorem a_3 : gArr 3 3 := ⟨by decide, rfl⟩
theorem a_4 : gArr 6 4 := ⟨by decide, rfl⟩
theorem o_5 : gIs 18 5 := ⟨by decide, rfl⟩
theorem o_6 : gIs 11 6 := ⟨by decide, rfl⟩
theorem a_7 : gArr 6 7 := ⟨by decide, rfl⟩
theorem a_8 : gArr 6 8 := ⟨by decide, rfl⟩
theorem a_9 : gArr 6 9 := ⟨by decide, rfl⟩
theorem a_10 : gArr 6 10 := ⟨by decide, rfl⟩
theorem a_11 : gArr 48 11 := ⟨by decide, rfl⟩
theorem a_12 : gArr 48 12 := ⟨by decide, rfl⟩
theorem a_13 : gArr 48 13 := ⟨by decide, rfl⟩
theorem o_14 : gIs 17 14 := ⟨by decide, rfl⟩
theorem a_15 : gArr 6 15 := ⟨by decide, rfl⟩
theorem a_16 : gArr 6 16 := ⟨by decide, rfl⟩
theorem a_17 : gArr 4 17 := ⟨by decide, rfl⟩
theorem o_18 : gIs 13 18 := ⟨by decide, rfl⟩
theorem a_19 : gArr 60 19 := ⟨by decide, rfl⟩
theorem o_20 : gIs 10 20 := ⟨by decide, rfl⟩
theorem a_21 : gArr 6 21 := ⟨by decide, rfl⟩
theorem a_22 : gArr 4 22 := ⟨by decide, rfl⟩
theorem o_23 : gIs 12 23 := ⟨by decide, rfl⟩
theorem a_24 : gArr 24 24 := ⟨by decide, rfl⟩
theorem a_25 : gArr 24 25 := ⟨by decide, rfl⟩
theorem o_26 : gIs 18 26 := ⟨by decide, rfl⟩
theorem o_27 : gIs 11 27 := ⟨by decide, rfl⟩
theorem a_28 : gArr 6 28 := ⟨by decide, rfl⟩
theorem a_29 : gArr 6 29 := ⟨by decide, rfl⟩
theorem a_30 : gArr 6 30 := ⟨by decide, rfl⟩
theorem a_31 : gArr 6 31 := ⟨by decide, rfl⟩
theorem a_32 : gArr 48 32 := ⟨by decide, rfl⟩
theorem a_33 : gArr 48 33 := ⟨by decide, rfl⟩
theorem a_34 : gArr 48 34 := ⟨by decide, rfl⟩
theorem o_35 : gIs 17 35 := ⟨by decide, rfl⟩
theorem a_36 : gArr 6 36 := ⟨by decide, rfl⟩
theorem a_37 : gArr 6 37 := ⟨by decide, rfl⟩
theorem a_38 : gArr 4 38 := ⟨by decide, rfl⟩
theorem o_39 : gIs 13 39 := ⟨by decide, rfl⟩
theorem a_40 : gArr 60 40 := ⟨by decide, rfl⟩
theorem o_41 : gIs 10 41 := ⟨by decide, rfl⟩
theorem a_42 : gArr 6 42 := ⟨by decide, rfl⟩
theorem a_43 : gArr 4 43 := ⟨by decide, rfl⟩
theorem o_44 : gIs 12 44 := ⟨by decide, rfl⟩
theorem a_45 : gArr 24 45 := ⟨by decide, rfl⟩
theorem a_46 : gArr 24 46 := ⟨by decide, rfl⟩
theorem o_47 : gIs 18 47 := ⟨by decide, rfl⟩
theorem o_48 : gIs 11 48 := ⟨by decide, rfl⟩
theorem a_49 : gArr 6 49 := ⟨by decide, rfl⟩
theorem a_50 : gArr 6 50 := ⟨by decide, rfl⟩
theorem a_51 : gArr 6 51 := ⟨by decide, rfl⟩
theorem a_52 : gArr 6 52 := ⟨by decide, rfl⟩
theorem a_53 : gArr 48 53 := ⟨by decide, rfl⟩
theorem a_54 : gArr 48 54 := ⟨by decide, rfl⟩
theorem a_55 : gArr 48 55 := ⟨by decide, rfl⟩
theorem o_56 : gIs 17 56 := ⟨by decide, rfl⟩
theorem a_57 : gArr 6 57 := ⟨by decide, rfl⟩
theorem a_58 : gArr 6 58 := ⟨by decide, rfl⟩
theorem a_59 : gArr 4 59 := ⟨by decide, rfl⟩
theorem o_60 : gIs 13 60 := ⟨by decide, rfl⟩
theorem a_61 : gArr 60 61 := ⟨by decide, rfl⟩
theorem o_62 : gIs 10 62 := ⟨by decide, rfl⟩
theorem a_63 : gArr 6 63 := ⟨by decide, rfl⟩
theorem a_64 : gArr 4 64 := ⟨by decide, rfl⟩
theorem o_65 : gIs 12 65 := ⟨by decide, rfl⟩
theorem a_66 : gArr 24 66 := ⟨by decide, rfl⟩
theorem a_67 : gArr 24 67 := ⟨by decide, rfl⟩
theorem o_68 : gIs 15 68 := ⟨by decide, rfl⟩
theorem a_69 : gArr 4 69 := ⟨by decide, rfl⟩
theorem a_70 : gArr 200 70 := ⟨by decide, rfl⟩
theorem a_71 : gArr 200 71 := ⟨by decide, rfl⟩
theorem o_72 : gIs 16 72 := ⟨by decide, rfl⟩
theorem a_73 : gArr 4 73 := ⟨by decide, rfl⟩
theorem a_74 : gArr 4 74 := ⟨by decide, rfl⟩
theorem o_76 : gIs 17 76 := ⟨by decide, rfl⟩
theorem a_77 : gArr 6 77 := ⟨by decide, rfl⟩
theorem a_78 : gArr 6 78 := ⟨by decide, rfl⟩
theorem a_79 : gArr 4 79 := ⟨by decide, rfl⟩
theorem o_80 : gIs 17 80 := ⟨by decide, rfl⟩
theorem a_81 : gArr 6 81 := ⟨by decide, rfl⟩
theorem a_82 : gArr 6 82 := ⟨by decide, rfl⟩
theorem a_83 : gArr 4 83 := ⟨by decide, rfl⟩
theorem o_84 : gIs 17 84 := ⟨by decide, rfl⟩
theorem a_85 : gArr 6 85 := ⟨by decide, rfl⟩
theorem a_86 : gArr 6 86 := ⟨by decide, rfl⟩
theorem a_87 : gArr 4 87 := ⟨by decide, rfl⟩
theorem o_88 : gIs 17 88 := ⟨by decide, rfl⟩
theorem a_89 : gArr 6 89 := ⟨by decide, rfl⟩
theorem a_90 : gArr 6 90 := ⟨by decide, rfl⟩
theorem a_91 : gArr 4 91 := ⟨by decide, rfl⟩
theorem o_92 : gIs 17 92 := ⟨by decide, rfl⟩
theorem a_93 : gArr 6 93 := ⟨by decide, rfl⟩
theorem a_94 : gArr 6 94 := ⟨by decide, rfl⟩
theorem a_95 : gArr 4 95 := ⟨by decide, rfl⟩
theorem o_96 : gIs 14 96 := ⟨by decide, rfl⟩
theorem a_97 : gArr 24 97 := ⟨by decide, rfl⟩
theorem a_98 : gArr 24 98 := ⟨by decide, rfl⟩
theorem a_99 : gArr 48 99 := ⟨by decide, rfl⟩
theorem o_100 : gIs 17 100 := ⟨by decide, rfl⟩
theorem a_101 : gArr 6 101 := ⟨by decide, rfl⟩
theorem a_102 : gArr 6 102 := ⟨by decide, rfl⟩
theorem a_103 : gArr 4 103 := ⟨by decide, rfl⟩
theorem o_104 : gIs 17 104 := ⟨by decide, rfl⟩
theorem a_105 : gArr 6 105 := ⟨by decide, rfl⟩
theorem a_106 : gArr 6 106 := ⟨by decide, rfl⟩
theorem a_107 : gArr 4 107 := ⟨by decide, rfl⟩
theorem o_108 : gIs 20 108 := ⟨by decide, rfl⟩
theorem a_109 : gArr 3 109 := ⟨by decide, rfl⟩
theorem a_110 : gArr 3 110 := ⟨by decide, rfl⟩
theorem a_111 : gArr 3 111 := ⟨by decide, rfl⟩
theorem a_112 : gArr 3 112 := ⟨by decide, rfl⟩
theorem a_113 : gArr 72 113 := ⟨by decide, rfl⟩
theorem a_114 : gArr 432 114 := ⟨by decide, rfl⟩
theorem a_115 : gArr 180 115 := ⟨by decide, rfl⟩
theorem a_116 : gArr 288 116 := ⟨by decide, rfl⟩
theorem a_117 : gArr 48 117 := ⟨by decide, rfl⟩
theorem a_118 : gArr 36 118 := ⟨by decide, rfl⟩
theorem az_119 : gArrZ 3 119 := ⟨by decide, rfl⟩
theorem a_120 : gArr 3 120 := ⟨by decide, rfl⟩
theorem a_121 : gArr 402 121 := ⟨by decide, rfl⟩
theorem a_122 : gArr 5 122 := ⟨by decide, rfl⟩
theorem a_123 : gArr 3216 123 := ⟨by decide, rfl⟩
theorem a_124 : gArr 1024 124 := ⟨by decide, rfl⟩
theorem a_125 : gArr 16 125 := ⟨by decide, rfl⟩
theorem a_126 : gArr 4 126 := ⟨by decide, rfl⟩
theorem a_127 : gArr 24 127 := ⟨by decide, rfl⟩
theorem a_128 : gArr 24 128 := ⟨by decide, rfl⟩
theorem a_129 : gArr 48 129 := ⟨by decide, rfl⟩
theorem gx10_0 {k : Nat} (h : gIs 10 k) : gArr 6 (k + 1) := (show ∀ k, k < 130 → (gDesc.getD k (0, 0)).1 = 10 → (k + 1 < 130 ∧ gDesc.getD (k + 1) (0, 0) = (0, 6)) by decide +kernel) k h.1 h.2
theorem gx10_1 {k : Nat} (h : gIs 10 k) : gArr 4 (k + 2) := (show ∀ k, k < 130 → (gDesc.getD k (0, 0)).1 = 10 → (k + 2 < 130 ∧ gDesc.getD (k + 2) (0, 0) = (0, 4)) by decide +kernel) k h.1 h.2
theorem gx11_3 {k : Nat} (h : gIs 11 k) : gArr 6 (k + 1) := (show ∀ k, k < 130 → (gDesc.getD k (0, 0)).1 = 11 → (k + 1 < 130 ∧ gDesc.getD (k + 1) (0, 0) = (0, 6)) by decide +kernel) k h.1 h.2
theorem gx11_4 {k : Nat} (h : gIs 11 k) : gArr 6 (k + 2) := (show ∀ k, k < 130 → (gDesc.getD k (0, 0)).1 = 11 → (k + 2 < 130 ∧ gDesc.getD (k + 2) (0, 0) = (0, 6)) by decide +kernel) k h.1 h.2
theorem gx11_5 {k : Nat} (h : gIs 11 k) : gArr 6 (k + 3) := (show ∀ k, k < 130 → (gDesc.getD k (0, 0)).1 = 11 → (k + 3 < 130 ∧ gDesc.getD (k + 3) (0, 0) = (0, 6)) by decide +kernel) k h.1 h.2
theorem gx11_6 {k : Nat} (h : gIs 11 k) : gArr 6 (k + 4) := (show ∀ k, k < 130 → (gDesc.getD k (0, 0)).1 = 11 → (k + 4 < 130 ∧ gDesc.getD (k + 4) (0, 0) = (0, 6)) by decide +kernel) k h.1 h.2
theorem gx11_7 {k : Nat} (h : gIs 11 k) : gArr 48 (k + 5) := (show ∀ k, k < 130 → (gDesc.getD k (0, 0)).1 = 11 → (k + 5 < 130 ∧ gDesc.getD (k + 5) (0, 0) = (0, 48)) by decide +kernel) k h.1 h.2
theorem gx11_8 {k : Nat} (h : gIs 11 k) : gArr 48 (k + 6) := (show ∀ k, k < 130 → (gDesc.getD k (0, 0)).1 = 11 → (k + 6 < 130 ∧ gDesc.getD (k + 6) (0, 0) = (0, 48)) by decide +kernel) k h.1 h.2
theorem gx11_9 {k : Nat} (h : gIs 11 k) : gArr 48 (k + 7) := (show ∀ k, k < 130 → (gDesc.getD k (0, 0)).1 = 11 → (k + 7 < 130 ∧ gDesc.getD (k + 7) (0, 0) = (0, 48)) by decide +kernel) k h.1 h.2
theorem gx12_1 {k : Nat} (h : gIs 12 k) : gArr 24 (k + 1) := (show ∀ k, k < 130 → (gDesc.getD k (0, 0)).1 = 12 → (k + 1 < 130 ∧ gDesc.getD (k + 1) (0, 0) = (0, 24)) by decide +kernel) k h.1 h.2
theorem gx12_2 {k : Nat} (h : gIs 12 k) : gArr 24 (k + 2) := (show ∀ k, k < 130 → (gDesc.getD k (0, 0)).1 = 12 → (k + 2 < 130 ∧ gDesc.getD (k + 2) (0, 0) = (0, 24)) by decide +kernel) k h.1 h.2
theorem gx13_1 {k : Nat} (h : gIs 13 k) : gArr 60 (k + 1) := (show ∀ k, k < 130 → (gDesc.getD k (0, 0)).1 = 13 → (k + 1 < 130 ∧ gDesc.getD (k + 1) (0, 0) = (0, 60)) by decide +kernel) k h.1 h.2
theorem gx17_1 {k : Nat} (h : gIs 17 k) : gArr 6 (k + 1) := (show ∀ k, k < 130 → (gDesc.getD k (0, 0)).1 = 17 → (k + 1 < 130 ∧ gDesc.getD (k + 1) (0, 0) = (0, 6)) by decide +kernel) k h.1 h.2
theorem gx17_2 {k : Nat} (h : gIs 17 k) : gArr 6 (k + 2) := (show ∀ k, k < 130 → (gDesc.getD k (0, 0)).1 = 17 → (k + 2 < 130 ∧ gDesc.getD (k + 2) (0, 0) = (0, 6)) by decide +kernel) k h.1 h.2
theorem gx17_3 {k : Nat} (h : gIs 17 k) : gArr 4 (k + 3) := (show ∀ k, k < 130 → (gDesc.getD k (0, 0)).1 = 17 → (k + 3 < 130 ∧ gDesc.getD (k + 3) (0, 0) = (0, 4)) by decide +kernel) k h.1 h.2
theorem gx18_0 {k : Nat} (h : gIs 18 k) : gIs 11 (k + 1) := (show ∀ k, k < 130 → (gDesc.getD k (0, 0)).1 = 18 → (k + 1 < 130 ∧ (gDesc.getD (k + 1) (0, 0)).1 = 11) by decide +kernel) k h.1 h.2
theorem gx18_1 {k : Nat} (h : gIs 18 k) : gIs 17 (k + 9) := (show ∀ k, k < 130 → (gDesc.getD k (0, 0)).1 = 18 → (k + 9 < 130 ∧ (gDesc.getD (k + 9) (0, 0)).1 = 17) by decide +kernel) k h.1 h.2
theorem gx18_2 {k : Nat} (h : gIs 18 k) : gIs 13 (k + 13) := (show ∀ k, k < 130 → (gDesc.getD k (0, 0)).1 = 18 → (k + 13 < 130 ∧ (gDesc.getD (k + 13) (0, 0)).1 = 13) by decide +kernel) k h.1 h.2
theorem gx18_3 {k : Nat} (h : gIs 18 k) : gIs 10 (k + 15) := (show ∀ k, k < 130 → (gDesc.getD k (0, 0)).1 = 18 → (k + 15 < 130 ∧ (gDesc.getD (k + 15) (0, 0)).1 = 10) by decide +kernel) k h.1 h.2
theorem gx18_4 {k : Nat} (h : gIs 18 k) : gIs 12 (k + 18) := (show ∀ k, k < 130 → (gDesc.getD k (0, 0)).1 = 18 → (k + 18 < 130 ∧ (gDesc.getD (k + 18) (0, 0)).1 = 12) by decide +kernel) k h.1 h.2
theorem gxS {i : Int32} (h : vp_in i 5) : gIs 17 (76 + 4 * i.toNatClampNeg) := (show ∀ k, k < 5 → (76 + 4 * k < 130 ∧ (gDesc.getD (76 + 4 * k) (0, 0)).1 = 17) by decide +kernel) _ (Nat.not_le.mp fun q => h (Or.inr q))
theorem gxK {i : Int32} (h : vp_in i 2) : gIs 18 (26 + 21 * i.toNatClampNeg) := (show ∀ k, k < 2 → (26 + 21 * k < 130 ∧ (gDesc.getD (26 + 21 * k) (0, 0)).1 = 18) by decide +kernel) _ (Nat.not_le.mp fun q => h (Or.inr q))
