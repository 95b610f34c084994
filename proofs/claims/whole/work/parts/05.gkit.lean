/-! THE WORLD OF CLASS AND REFERENCE, all cells at once, in the order of their numbers (wip/gen/shape.py); M: what the cells hold -/
abbrev Mem : Type := (Nat → Nat → Int32) × Int64
def mset (M : Mem) (c i : Nat) (v : Int32) : Mem := (fun a => if a = c then upd (M.1 c) i v else M.1 a, M.2)
def lset (M : Mem) (v : Int64) : Mem := (M.1, v)
def mcpy (M : Mem) (c0 c1 sp dp n : Nat) : Mem := (fun a => if a = c1 then va_cpy (M.1 c0) (M.1 c1) sp dp n else M.1 a, M.2)
def gDesc : List (Nat × Nat) := [(19, 0), (2, 2), (1, 2), (0, 3), (0, 6), (18, 0), (11, 0), (0, 6), (0, 6), (0, 6), (0, 6), (0, 48), (0, 48), (0, 48), (17, 0), (0, 6), (0, 6), (0, 4), (13, 0), (0, 60), (10, 0), (0, 6), (0, 4), (12, 0), (0, 24), (0, 24), (18, 0), (11, 0), (0, 6), (0, 6), (0, 6), (0, 6), (0, 48), (0, 48), (0, 48), (17, 0), (0, 6), (0, 6), (0, 4), (13, 0), (0, 60), (10, 0), (0, 6), (0, 4), (12, 0), (0, 24), (0, 24), (18, 0), (11, 0), (0, 6), (0, 6), (0, 6), (0, 6), (0, 48), (0, 48), (0, 48), (17, 0), (0, 6), (0, 6), (0, 4), (13, 0), (0, 60), (10, 0), (0, 6), (0, 4), (12, 0), (0, 24), (0, 24), (15, 0), (0, 4), (0, 200), (0, 200), (16, 0), (0, 4), (0, 4), (3, 5), (17, 0), (0, 6), (0, 6), (0, 4), (17, 0), (0, 6), (0, 6), (0, 4), (17, 0), (0, 6), (0, 6), (0, 4), (17, 0), (0, 6), (0, 6), (0, 4), (17, 0), (0, 6), (0, 6), (0, 4), (14, 0), (0, 24), (0, 24), (0, 48), (17, 0), (0, 6), (0, 6), (0, 4), (17, 0), (0, 6), (0, 6), (0, 4), (20, 0), (0, 3), (0, 3), (0, 3), (0, 3), (0, 72), (0, 432), (0, 180), (0, 288), (0, 48), (0, 36), (1, 3), (0, 3), (0, 402), (0, 5), (0, 3216), (0, 1024), (0, 16), (0, 4), (0, 24), (0, 24), (0, 48)]
def gShpK (ad : Nat → Nat) (ca : Nat → ClassId) (m : Nat → Int32) (L : Int64) (j n : Nat) : Nat → va_E
  | 0 => .inl (ca 0, n, .inl m)
  | 1 => .inl (ca 1, n, .inl m)
  | 2 => .inl (ca 2, n, .inr (.inr (.inr (.inr fun i => some (ad (26 + 21 * i))))))
  | 3 => .inl (ca 3, n, .inr (.inr (.inr (.inr fun i => some (ad (76 + 4 * i))))))
  | 10 => .inr (0, [.ref (ad (j + 1)), .ref (ad (j + 2))])
  | 11 => .inr (1, [.int (m 0), .int (m 1), .int (m 2), .ref (ad (j + 1)), .ref (ad (j + 2)), .ref (ad (j + 3)), .ref (ad (j + 4)), .ref (ad (j + 5)), .ref (ad (j + 6)), .ref (ad (j + 7))])
  | 12 => .inr (2, [.int (m 0), .ref (ad (j + 1)), .ref (ad (j + 2))])
  | 13 => .inr (3, [.int (m 0), .ref (ad (j + 1))])
  | 14 => .inr (4, [.int (m 0), .int (m 1), .ref (ad (j + 1)), .ref (ad (j + 2)), .ref (ad (j + 3))])
  | 15 => .inr (5, [.int (m 0), .int (m 1), .int (m 2), .int (m 3), .ref (ad (j + 1)), .ref (ad (j + 2)), .ref (ad (j + 3))])
  | 16 => .inr (6, [.ref (ad (j + 1)), .ref (ad (j + 2)), .ref (ad (j + 3)), .int (m 3), .int (m 4)])
  | 17 => .inr (7, [.int (m 0), .ref (ad (j + 1)), .ref (ad (j + 2)), .ref (ad (j + 3))])
  | 18 => .inr (8, [.ref (ad (j + 1)), .ref (ad (j + 9)), .ref (ad (j + 13)), .ref (ad (j + 15)), .ref (ad (j + 18))])
  | 19 => .inr (9, [.ref (ad (j + 5)), .ref (ad (j + 1)), .ref (ad (j + 2)), .ref (ad (j + 3)), .int (m 4), .int (m 5), .ref (ad (j + 68)), .ref (ad (j + 72)), .ref (ad (j + 4)), .ref (ad (j + 96)), .ref (ad (j + 100)), .ref (ad (j + 104))])
  | _ => .inr (10, [.ref (ad (j + 1)), .ref (ad (j + 2)), .ref (ad (j + 3)), .ref (ad (j + 4)), .ref (ad (j + 5)), .ref (ad (j + 6)), .ref (ad (j + 7)), .ref (ad (j + 8)), .ref (ad (j + 9)), .ref (ad (j + 10)), .ref (ad (j + 11)), .int (m 11), .int (m 12), .ref (ad (j + 12)), .int (m 14), .ref (ad (j + 13)), .int (m 16), .ref (ad (j + 14)), .ref (ad (j + 15)), .ref (ad (j + 16)), .ref (ad (j + 17)), .ref (ad (j + 18)), .ref (ad (j + 19)), .ref (ad (j + 20)), .int (m 24), .int (m 25), .ref (ad (j + 21)), .int (m 27), .long L])
def gShp (ad : Nat → Nat) (ca : Nat → ClassId) (j : Nat) (m : Nat → Int32) (L : Int64) : va_E := gShpK ad ca m L j (gDesc.getD j (0, 0)).2 (gDesc.getD j (0, 0)).1
def gW (ad : Nat → Nat) (ca : Nat → ClassId) (M : Mem) : va_W := (List.range 130).map fun j => (ad j, gShp ad ca j (M.1 j) M.2)
def gT (ca : Nat → ClassId) : List (ClassId × FieldType) := [(ca 0, .int), (ca 1, .boolean), (ca 2, .object "NineTongues$Stock"), (ca 3, .object "NineTongues$State")]
def gIs (k j : Nat) : Prop := j < 130 ∧ (gDesc.getD j (0, 0)).1 = k
def gArr (n j : Nat) : Prop := j < 130 ∧ gDesc.getD j (0, 0) = (0, n)
def gArrZ (n j : Nat) : Prop := j < 130 ∧ gDesc.getD j (0, 0) = (1, n)
def gInj (ad : Nat → Nat) : Prop := ∀ i j, i < 130 → j < 130 → ad i = ad j → i = j
def gA (ad : Nat → Nat) : Nat → Prop := fun q => ∃ j, j < 130 ∧ q = ad j
def gNest : List (String × Nat × MethodName × String) := [("NineTongues$Lexicon", 49, ⟨"NineTongues", "isIn", "(III)Z"⟩, "NineTongues"), ("NineTongues$Route", 46, ⟨"NineTongues", "isIn", "(III)Z"⟩, "NineTongues"), ("NineTongues$Route", 77, ⟨"NineTongues", "isKind", "(I)Z"⟩, "NineTongues"), ("NineTongues$Rows", 32, ⟨"NineTongues", "isIn", "(III)Z"⟩, "NineTongues"), ("NineTongues$Stock", 88, ⟨"NineTongues", "mix", "(JJ)J"⟩, "NineTongues"), ("NineTongues$Lexicon", 102, ⟨"NineTongues", "mix", "(JJ)J"⟩, "NineTongues"), ("NineTongues$Stock", 99, ⟨"NineTongues", "mixRow", "(J[II)J"⟩, "NineTongues"), ("NineTongues$Pairs", 32, ⟨"NineTongues", "mix", "(JJ)J"⟩, "NineTongues")]
def gN (U : State) : Prop := ∀ q ∈ gNest, va_Nw (.methodLinkNest q.1 q.2.1 q.2.2.1 q.2.2.2) U
def gP (ad : Nat → Nat) (dd : va_G) (ca : Nat → ClassId) (M : Mem) (H : Heap) : Prop := va_P dd vwCl (gW ad ca M) H
def Wd (ad : Nat → Nat) (dd : va_G) (ca : Nat → ClassId) (M : Mem) (U : State) : Prop := gInj ad ∧ gP ad dd ca M U.heap ∧ va_K dd vwCl (gT ca) U ∧ gN U
def gQ (ad : Nat → Nat) (dd : va_G) (ca : Nat → ClassId) (v : Option Value) (M : Mem) : Array Value → State → Outcome → State → Prop := fun _ st oc t => oc = .returned v ∧ gP ad dd ca M t.heap ∧ va_F (gA ad) st t
def gRm (d : Nat) : Room := { frames := d, cells := 0, slots := 0, locals := 40 * d }
theorem gW_at {ad : Nat → Nat} {ca : Nat → ClassId} {M : Mem} {j : Nat} (h : j < 130) : (gW ad ca M)[j]? = some (ad j, gShp ad ca j (M.1 j) M.2) := by
  simp [gW, h]
theorem gW_len {ad : Nat → Nat} {ca : Nat → ClassId} {M : Mem} : (gW ad ca M).length = 130 := by simp [gW]
theorem gW_set {ad : Nat → Nat} {ca : Nat → ClassId} {M M' : Mem} {j : Nat} {e : va_E} (h : j < 130) (he : e = gShp ad ca j (M'.1 j) M'.2) (ho : ∀ a, a < 130 → a ≠ j → gShp ad ca a (M'.1 a) M'.2 = gShp ad ca a (M.1 a) M.2) : (gW ad ca M).set j (ad j, e) = gW ad ca M' := by
  apply List.ext_getElem?
  intro k
  by_cases hkl : k < 130
  · by_cases hk : k = j
    · subst hk
      rw [List.getElem?_set_self (by rw [gW_len]; exact h), gW_at h, he]
    · rw [List.getElem?_set_ne (Ne.symm hk), gW_at hkl, gW_at hkl, ho k hkl hk]
  · rw [List.getElem?_eq_none (by rw [List.length_set, gW_len]; omega), List.getElem?_eq_none (by rw [gW_len]; omega)]
theorem gW_key {ad : Nat → Nat} {ca : Nat → ClassId} {M : Mem} {k : Nat} {q : Nat × va_E} (h : (gW ad ca M)[k]? = some q) : k < 130 ∧ q.1 = ad k := by
  have hl := (List.getElem?_eq_some_iff.mp h).1
  rw [gW_len] at hl
  rw [gW_at hl] at h
  cases h
  exact ⟨hl, rfl⟩
theorem gW_D {A : Nat → Prop} {ad : Nat → Nat} {ca : Nat → ClassId} {M : Mem} (hi : gInj ad) (hA : ∀ j, j < 130 → A (ad j)) : va_D A (gW ad ca M) := by
  refine ⟨fun i j p q hp hq h => ?_, fun k q hk => ?_⟩
  · obtain ⟨h1, h2⟩ := gW_key hp
    obtain ⟨h3, h4⟩ := gW_key hq
    exact hi i j h1 h3 (by rw [← h2, ← h4]; exact h)
  · obtain ⟨h1, h2⟩ := gW_key hk
    rw [h2]; exact hA k h1
theorem mset_same {M : Mem} {c i : Nat} {v : Int32} : (mset M c i v).1 c = upd (M.1 c) i v := by simp [mset]
theorem mset_ne {M : Mem} {c i a : Nat} {v : Int32} (h : a ≠ c) : (mset M c i v).1 a = M.1 a := by simp [mset, h]
theorem mcpy_same {M : Mem} {c0 c1 sp dp n : Nat} : (mcpy M c0 c1 sp dp n).1 c1 = va_cpy (M.1 c0) (M.1 c1) sp dp n := by simp [mcpy]
theorem mcpy_ne {M : Mem} {c0 c1 sp dp n a : Nat} (h : a ≠ c1) : (mcpy M c0 c1 sp dp n).1 a = M.1 a := by simp [mcpy, h]
theorem gShp_arr {ad : Nat → Nat} {ca : Nat → ClassId} {m : Nat → Int32} {L : Int64} {j n : Nat} (h : gArr n j) : gShp ad ca j m L = .inl (ca 0, n, .inl m) := by
  unfold gShp; rw [h.2]; rfl
theorem gShp_arrZ {ad : Nat → Nat} {ca : Nat → ClassId} {m : Nat → Int32} {L : Int64} {j n : Nat} (h : gArrZ n j) : gShp ad ca j m L = .inl (ca 1, n, .inl m) := by
  unfold gShp; rw [h.2]; rfl
theorem gShp_10 {ad : Nat → Nat} {ca : Nat → ClassId} {m : Nat → Int32} {L : Int64} {j : Nat} (h : gIs 10 j) : gShp ad ca j m L = .inr (0, [.ref (ad (j + 1)), .ref (ad (j + 2))]) := by
  unfold gShp; rw [h.2]; rfl
theorem gShp_11 {ad : Nat → Nat} {ca : Nat → ClassId} {m : Nat → Int32} {L : Int64} {j : Nat} (h : gIs 11 j) : gShp ad ca j m L = .inr (1, [.int (m 0), .int (m 1), .int (m 2), .ref (ad (j + 1)), .ref (ad (j + 2)), .ref (ad (j + 3)), .ref (ad (j + 4)), .ref (ad (j + 5)), .ref (ad (j + 6)), .ref (ad (j + 7))]) := by
  unfold gShp; rw [h.2]; rfl
theorem gShp_12 {ad : Nat → Nat} {ca : Nat → ClassId} {m : Nat → Int32} {L : Int64} {j : Nat} (h : gIs 12 j) : gShp ad ca j m L = .inr (2, [.int (m 0), .ref (ad (j + 1)), .ref (ad (j + 2))]) := by
  unfold gShp; rw [h.2]; rfl
theorem gShp_13 {ad : Nat → Nat} {ca : Nat → ClassId} {m : Nat → Int32} {L : Int64} {j : Nat} (h : gIs 13 j) : gShp ad ca j m L = .inr (3, [.int (m 0), .ref (ad (j + 1))]) := by
  unfold gShp; rw [h.2]; rfl
theorem gShp_14 {ad : Nat → Nat} {ca : Nat → ClassId} {m : Nat → Int32} {L : Int64} {j : Nat} (h : gIs 14 j) : gShp ad ca j m L = .inr (4, [.int (m 0), .int (m 1), .ref (ad (j + 1)), .ref (ad (j + 2)), .ref (ad (j + 3))]) := by
  unfold gShp; rw [h.2]; rfl
theorem gShp_15 {ad : Nat → Nat} {ca : Nat → ClassId} {m : Nat → Int32} {L : Int64} {j : Nat} (h : gIs 15 j) : gShp ad ca j m L = .inr (5, [.int (m 0), .int (m 1), .int (m 2), .int (m 3), .ref (ad (j + 1)), .ref (ad (j + 2)), .ref (ad (j + 3))]) := by
  unfold gShp; rw [h.2]; rfl
theorem gShp_16 {ad : Nat → Nat} {ca : Nat → ClassId} {m : Nat → Int32} {L : Int64} {j : Nat} (h : gIs 16 j) : gShp ad ca j m L = .inr (6, [.ref (ad (j + 1)), .ref (ad (j + 2)), .ref (ad (j + 3)), .int (m 3), .int (m 4)]) := by
  unfold gShp; rw [h.2]; rfl
theorem gShp_17 {ad : Nat → Nat} {ca : Nat → ClassId} {m : Nat → Int32} {L : Int64} {j : Nat} (h : gIs 17 j) : gShp ad ca j m L = .inr (7, [.int (m 0), .ref (ad (j + 1)), .ref (ad (j + 2)), .ref (ad (j + 3))]) := by
  unfold gShp; rw [h.2]; rfl
theorem gShp_18 {ad : Nat → Nat} {ca : Nat → ClassId} {m : Nat → Int32} {L : Int64} {j : Nat} (h : gIs 18 j) : gShp ad ca j m L = .inr (8, [.ref (ad (j + 1)), .ref (ad (j + 9)), .ref (ad (j + 13)), .ref (ad (j + 15)), .ref (ad (j + 18))]) := by
  unfold gShp; rw [h.2]; rfl
theorem gShp_19 {ad : Nat → Nat} {ca : Nat → ClassId} {m : Nat → Int32} {L : Int64} {j : Nat} (h : gIs 19 j) : gShp ad ca j m L = .inr (9, [.ref (ad (j + 5)), .ref (ad (j + 1)), .ref (ad (j + 2)), .ref (ad (j + 3)), .int (m 4), .int (m 5), .ref (ad (j + 68)), .ref (ad (j + 72)), .ref (ad (j + 4)), .ref (ad (j + 96)), .ref (ad (j + 100)), .ref (ad (j + 104))]) := by
  unfold gShp; rw [h.2]; rfl
theorem gShp_20 {ad : Nat → Nat} {ca : Nat → ClassId} {m : Nat → Int32} {L : Int64} {j : Nat} (h : gIs 20 j) : gShp ad ca j m L = .inr (10, [.ref (ad (j + 1)), .ref (ad (j + 2)), .ref (ad (j + 3)), .ref (ad (j + 4)), .ref (ad (j + 5)), .ref (ad (j + 6)), .ref (ad (j + 7)), .ref (ad (j + 8)), .ref (ad (j + 9)), .ref (ad (j + 10)), .ref (ad (j + 11)), .int (m 11), .int (m 12), .ref (ad (j + 12)), .int (m 14), .ref (ad (j + 13)), .int (m 16), .ref (ad (j + 14)), .ref (ad (j + 15)), .ref (ad (j + 16)), .ref (ad (j + 17)), .ref (ad (j + 18)), .ref (ad (j + 19)), .ref (ad (j + 20)), .int (m 24), .int (m 25), .ref (ad (j + 21)), .int (m 27), .long L]) := by
  unfold gShp; rw [h.2]; rfl
theorem gN_warm {s U : State} (hW : s.WarmedH U.vm) (h : gN s) : gN U := fun q hq => va_Nw.warmM hW (h q hq)
theorem gN_same {u U : State} (h : u.vm = U.vm) (hN : gN u) : gN U := fun q hq => va_Nw.same rfl h (hN q hq)
theorem gLay0 : ∀ w ∈ u_ws RX0 TX0 2, w ∈ gTs := by
  show ∀ w ∈ ([u_lay RX0 TX0 0, u_lay RX0 TX0 1] : List Cond), w ∈ gTs
  exact List.forall_mem_cons.mpr ⟨k1_146, List.forall_mem_cons.mpr ⟨k1_148, fun _ h => absurd h List.not_mem_nil⟩⟩
theorem gLay1 : ∀ w ∈ u_ws RX1 TX1 10, w ∈ gTs := by
  show ∀ w ∈ ([u_lay RX1 TX1 0, u_lay RX1 TX1 1, u_lay RX1 TX1 2, u_lay RX1 TX1 3, u_lay RX1 TX1 4, u_lay RX1 TX1 5, u_lay RX1 TX1 6, u_lay RX1 TX1 7, u_lay RX1 TX1 8, u_lay RX1 TX1 9] : List Cond), w ∈ gTs
  exact List.forall_mem_cons.mpr ⟨k1_53, List.forall_mem_cons.mpr ⟨k1_55, List.forall_mem_cons.mpr ⟨k1_57, List.forall_mem_cons.mpr ⟨k1_59, List.forall_mem_cons.mpr ⟨k1_61, List.forall_mem_cons.mpr ⟨k1_63, List.forall_mem_cons.mpr ⟨k1_65, List.forall_mem_cons.mpr ⟨k1_67, List.forall_mem_cons.mpr ⟨k1_69, List.forall_mem_cons.mpr ⟨k1_71, fun _ h => absurd h List.not_mem_nil⟩⟩⟩⟩⟩⟩⟩⟩⟩⟩
theorem gLay2 : ∀ w ∈ u_ws RX2 TX2 3, w ∈ gTs := by
  show ∀ w ∈ ([u_lay RX2 TX2 0, u_lay RX2 TX2 1, u_lay RX2 TX2 2] : List Cond), w ∈ gTs
  exact List.forall_mem_cons.mpr ⟨k1_165, List.forall_mem_cons.mpr ⟨k1_167, List.forall_mem_cons.mpr ⟨k1_169, fun _ h => absurd h List.not_mem_nil⟩⟩⟩
theorem gLay3 : ∀ w ∈ u_ws RX3 TX3 2, w ∈ gTs := by
  show ∀ w ∈ ([u_lay RX3 TX3 0, u_lay RX3 TX3 1] : List Cond), w ∈ gTs
  exact List.forall_mem_cons.mpr ⟨k1_128, List.forall_mem_cons.mpr ⟨k1_130, fun _ h => absurd h List.not_mem_nil⟩⟩
theorem gLay4 : ∀ w ∈ u_ws RX4 TX4 5, w ∈ gTs := by
  show ∀ w ∈ ([u_lay RX4 TX4 0, u_lay RX4 TX4 1, u_lay RX4 TX4 2, u_lay RX4 TX4 3, u_lay RX4 TX4 4] : List Cond), w ∈ gTs
  exact List.forall_mem_cons.mpr ⟨k2_31, List.forall_mem_cons.mpr ⟨k2_33, List.forall_mem_cons.mpr ⟨k2_35, List.forall_mem_cons.mpr ⟨k2_37, List.forall_mem_cons.mpr ⟨k2_39, fun _ h => absurd h List.not_mem_nil⟩⟩⟩⟩⟩
theorem gLay5 : ∀ w ∈ u_ws RX5 TX5 7, w ∈ gTs := by
  show ∀ w ∈ ([u_lay RX5 TX5 0, u_lay RX5 TX5 1, u_lay RX5 TX5 2, u_lay RX5 TX5 3, u_lay RX5 TX5 4, u_lay RX5 TX5 5, u_lay RX5 TX5 6] : List Cond), w ∈ gTs
  exact List.forall_mem_cons.mpr ⟨k1_211, List.forall_mem_cons.mpr ⟨k1_213, List.forall_mem_cons.mpr ⟨k1_215, List.forall_mem_cons.mpr ⟨k1_217, List.forall_mem_cons.mpr ⟨k1_219, List.forall_mem_cons.mpr ⟨k1_221, List.forall_mem_cons.mpr ⟨k1_223, fun _ h => absurd h List.not_mem_nil⟩⟩⟩⟩⟩⟩⟩
theorem gLay6 : ∀ w ∈ u_ws RX6 TX6 5, w ∈ gTs := by
  show ∀ w ∈ ([u_lay RX6 TX6 0, u_lay RX6 TX6 1, u_lay RX6 TX6 2, u_lay RX6 TX6 3, u_lay RX6 TX6 4] : List Cond), w ∈ gTs
  exact List.forall_mem_cons.mpr ⟨k2_4, List.forall_mem_cons.mpr ⟨k2_6, List.forall_mem_cons.mpr ⟨k2_8, List.forall_mem_cons.mpr ⟨k2_10, List.forall_mem_cons.mpr ⟨k2_12, fun _ h => absurd h List.not_mem_nil⟩⟩⟩⟩⟩
theorem gLay7 : ∀ w ∈ u_ws RX7 TX7 4, w ∈ gTs := by
  show ∀ w ∈ ([u_lay RX7 TX7 0, u_lay RX7 TX7 1, u_lay RX7 TX7 2, u_lay RX7 TX7 3] : List Cond), w ∈ gTs
  exact List.forall_mem_cons.mpr ⟨k1_106, List.forall_mem_cons.mpr ⟨k1_108, List.forall_mem_cons.mpr ⟨k1_110, List.forall_mem_cons.mpr ⟨k1_112, fun _ h => absurd h List.not_mem_nil⟩⟩⟩⟩
theorem gLay8 : ∀ w ∈ u_ws RX8 TX8 5, w ∈ gTs := by
  show ∀ w ∈ ([u_lay RX8 TX8 0, u_lay RX8 TX8 1, u_lay RX8 TX8 2, u_lay RX8 TX8 3, u_lay RX8 TX8 4] : List Cond), w ∈ gTs
  exact List.forall_mem_cons.mpr ⟨k1_184, List.forall_mem_cons.mpr ⟨k1_186, List.forall_mem_cons.mpr ⟨k1_188, List.forall_mem_cons.mpr ⟨k1_190, List.forall_mem_cons.mpr ⟨k1_192, fun _ h => absurd h List.not_mem_nil⟩⟩⟩⟩⟩
theorem gLay9 : ∀ w ∈ u_ws RX9 TX9 12, w ∈ gTs := by
  show ∀ w ∈ ([u_lay RX9 TX9 0, u_lay RX9 TX9 1, u_lay RX9 TX9 2, u_lay RX9 TX9 3, u_lay RX9 TX9 4, u_lay RX9 TX9 5, u_lay RX9 TX9 6, u_lay RX9 TX9 7, u_lay RX9 TX9 8, u_lay RX9 TX9 9, u_lay RX9 TX9 10, u_lay RX9 TX9 11] : List Cond), w ∈ gTs
  exact List.forall_mem_cons.mpr ⟨k2_56, List.forall_mem_cons.mpr ⟨k2_58, List.forall_mem_cons.mpr ⟨k2_60, List.forall_mem_cons.mpr ⟨k2_62, List.forall_mem_cons.mpr ⟨k2_64, List.forall_mem_cons.mpr ⟨k2_66, List.forall_mem_cons.mpr ⟨k2_68, List.forall_mem_cons.mpr ⟨k2_70, List.forall_mem_cons.mpr ⟨k2_72, List.forall_mem_cons.mpr ⟨k2_74, List.forall_mem_cons.mpr ⟨k2_76, List.forall_mem_cons.mpr ⟨k2_78, fun _ h => absurd h List.not_mem_nil⟩⟩⟩⟩⟩⟩⟩⟩⟩⟩⟩⟩
theorem gLay10 : ∀ w ∈ u_ws RX10 TX10 29, w ∈ gTs := by
  show ∀ w ∈ ([u_lay RX10 TX10 0, u_lay RX10 TX10 1, u_lay RX10 TX10 2, u_lay RX10 TX10 3, u_lay RX10 TX10 4, u_lay RX10 TX10 5, u_lay RX10 TX10 6, u_lay RX10 TX10 7, u_lay RX10 TX10 8, u_lay RX10 TX10 9, u_lay RX10 TX10 10, u_lay RX10 TX10 11, u_lay RX10 TX10 12, u_lay RX10 TX10 13, u_lay RX10 TX10 14, u_lay RX10 TX10 15, u_lay RX10 TX10 16, u_lay RX10 TX10 17, u_lay RX10 TX10 18, u_lay RX10 TX10 19, u_lay RX10 TX10 20, u_lay RX10 TX10 21, u_lay RX10 TX10 22, u_lay RX10 TX10 23, u_lay RX10 TX10 24, u_lay RX10 TX10 25, u_lay RX10 TX10 26, u_lay RX10 TX10 27, u_lay RX10 TX10 28] : List Cond), w ∈ gTs
  exact List.forall_mem_cons.mpr ⟨k4_126, List.forall_mem_cons.mpr ⟨k4_128, List.forall_mem_cons.mpr ⟨k4_130, List.forall_mem_cons.mpr ⟨k4_132, List.forall_mem_cons.mpr ⟨k4_134, List.forall_mem_cons.mpr ⟨k4_136, List.forall_mem_cons.mpr ⟨k4_138, List.forall_mem_cons.mpr ⟨k4_140, List.forall_mem_cons.mpr ⟨k4_142, List.forall_mem_cons.mpr ⟨k4_144, List.forall_mem_cons.mpr ⟨k4_146, List.forall_mem_cons.mpr ⟨k4_148, List.forall_mem_cons.mpr ⟨k4_150, List.forall_mem_cons.mpr ⟨k4_152, List.forall_mem_cons.mpr ⟨k4_154, List.forall_mem_cons.mpr ⟨k4_156, List.forall_mem_cons.mpr ⟨k4_158, List.forall_mem_cons.mpr ⟨k4_160, List.forall_mem_cons.mpr ⟨k4_162, List.forall_mem_cons.mpr ⟨k4_164, List.forall_mem_cons.mpr ⟨k4_166, List.forall_mem_cons.mpr ⟨k4_168, List.forall_mem_cons.mpr ⟨k4_170, List.forall_mem_cons.mpr ⟨k4_172, List.forall_mem_cons.mpr ⟨k4_174, List.forall_mem_cons.mpr ⟨k4_176, List.forall_mem_cons.mpr ⟨k4_178, List.forall_mem_cons.mpr ⟨k4_180, List.forall_mem_cons.mpr ⟨k4_182, fun _ h => absurd h List.not_mem_nil⟩⟩⟩⟩⟩⟩⟩⟩⟩⟩⟩⟩⟩⟩⟩⟩⟩⟩⟩⟩⟩⟩⟩⟩⟩⟩⟩⟩⟩
theorem gModel_one {a b : Nat} (h : gIs 20 a) (h2 : gIs 20 b) : a = b := by
  have key : ∀ a, a < 130 → (gDesc.getD a (0, 0)).1 = 20 → a = 108 := by decide +kernel
  rw [key a h.1 h.2, key b h2.1 h2.2]
theorem gShpK_L {ad : Nat → Nat} {ca : Nat → ClassId} {m : Nat → Int32} {L L' : Int64} {j n k : Nat} (hk : k = 0 ∨ k = 1 ∨ k = 2 ∨ k = 3 ∨ k = 10 ∨ k = 11 ∨ k = 12 ∨ k = 13 ∨ k = 14 ∨ k = 15 ∨ k = 16 ∨ k = 17 ∨ k = 18 ∨ k = 19) : gShpK ad ca m L j n k = gShpK ad ca m L' j n k := by
  rcases hk with rfl | rfl | rfl | rfl | rfl | rfl | rfl | rfl | rfl | rfl | rfl | rfl | rfl | rfl <;> rfl
theorem gDesc_kinds : ∀ a, a < 130 → (gDesc.getD a (0, 0)).1 = 20 ∨ ((gDesc.getD a (0, 0)).1 = 0 ∨ (gDesc.getD a (0, 0)).1 = 1 ∨ (gDesc.getD a (0, 0)).1 = 2 ∨ (gDesc.getD a (0, 0)).1 = 3 ∨ (gDesc.getD a (0, 0)).1 = 10 ∨ (gDesc.getD a (0, 0)).1 = 11 ∨ (gDesc.getD a (0, 0)).1 = 12 ∨ (gDesc.getD a (0, 0)).1 = 13 ∨ (gDesc.getD a (0, 0)).1 = 14 ∨ (gDesc.getD a (0, 0)).1 = 15 ∨ (gDesc.getD a (0, 0)).1 = 16 ∨ (gDesc.getD a (0, 0)).1 = 17 ∨ (gDesc.getD a (0, 0)).1 = 18 ∨ (gDesc.getD a (0, 0)).1 = 19) := by decide +kernel
theorem gShp_L {ad : Nat → Nat} {ca : Nat → ClassId} {m : Nat → Int32} {L : Int64} (a : Nat) (h : a < 130) (hn : ¬ gIs 20 a) (v : Int64) : gShp ad ca a m v = gShp ad ca a m L := by
  rcases gDesc_kinds a h with h1 | h1
  · exact absurd ⟨h, h1⟩ hn
  · exact gShpK_L h1
/-! ===== the judgement ===== -/
abbrev Gc : Type := Program × Launch × Env × Room × State × MethodId × Array Value × List Frame × Method × Code × (State → Prop) × (Nat → Prop) × Heap × va_G × (Nat → ClassId) × Nat × Nat
def G (X : Gc) (ad : Nat → Nat) (pc nl : Nat) (lv : List (Nat × Value)) (st : List Value) (M : Mem) : Prop := match X with
  | (p, l, e, R, s, m, args, below, meth, c, Q, A, H0, dd, ca, kc, ks) => ∀ (H : Heap) (locs : List Loc) (ls : Array Slot), gP ad dd ca M H → va_S A H0 H locs → lv_has ls nl lv → W p l e R s m args below meth c H locs kc ks Q (F0 m pc ls st)
def Gk (X : Gc) (ad : Nat → Nat) (cc : ByteArray) (own : String) (nl d : Nat) : Prop := match X with
  | (p, _, _, R, s, m, args, _, _, c, _, A, _, dd, ca, kc, ks) => p.tables.exec = Jvm.exec ∧ c.code = cc ∧ c.maxLocals = nl ∧ s.vm.findClass own = some m.cls ∧ (∀ w ∈ gTs, w.before args s = true) ∧ va_K dd vwCl (gT ca) s ∧ gN s ∧ gInj ad ∧ (∀ j, j < 130 → A (ad j)) ∧ d ≤ R.frames ∧ 40 * d ≤ R.locals ∧ kc ≤ R.cells ∧ ks ≤ R.slots
def Gr (X : Gc) (ad : Nat → Nat) (rt : Option FieldType) (v : Option Value) (M : Mem) : Prop := match X with
  | (_, _, _, _, s, _, args, below, meth, _, Q, A, H0, dd, ca, kc, ks) => meth.sig.returnType = rt ∧ meth.locks = false ∧ kc = 0 ∧ ks = 0 ∧ Q = MQ below (gQ ad dd ca v M) args s 0 0 (gA ad) ∧ A = gA ad ∧ H0 = s.heap
def Ct (y : MethodName) (cc : ByteArray) (maxL : Nat) (rt : Option FieldType) (d : Nat) (as : (Nat → Nat) → List Value) (M : Mem) (v : Option Value) (M' : Mem) : Prop := ∀ (l : Launch) (ad : Nat → Nat) (dd : va_G) (ca : Nat → ClassId), Met l y (Cond.code y cc maxL rt :: gTs) (gRm d) (va_Pc (as ad) (Wd ad dd ca M)) (gQ ad dd ca v M') 0 0 (gA ad)
section GR
variable {X : Gc} {ad : Nat → Nat} {cc : ByteArray} {own : String} {nl d pc : Nat} {lv lv' : List (Nat × Value)} {st : List Value} {M : Mem}
theorem G.sub (ks : List Nat) (hl : lv_pick lv ks = lv') (kk : G X ad pc nl lv' st M) : G X ad pc nl lv st M := by
  obtain ⟨p, l, e, R, s, m, args, below, meth, c, Q, A, H0, dd, ca, kc, ks'⟩ := X
  exact fun H locs ls hP hS h => kk H locs ls hP hS (lv_sub h ks hl)
theorem G.iconst (C : Gk X ad cc own nl d) {n : Int} {v : Int32} (hdg : decode cc pc = .ok (.iconst n, 1)) (hv : Int32.ofInt n = v) (kk : G X ad (pc + 1) nl lv (.int v :: st) M) : G X ad pc nl lv (st) M := by
  obtain ⟨p, l, e, R, s, m, args, below, meth, c, Q, A, H0, dd, ca, kc, ks⟩ := X
  obtain ⟨hx, hb, hml, hown, hts, hK, hN, hI, hA, hfr, hlo, hkc, hks⟩ := C
  intro H locs ls hP hS hl0
  exact lv_iconst hx hb hdg hv (kk H locs ls hP hS hl0)
theorem G.bipush (C : Gk X ad cc own nl d) {n : Int} {v : Int32} (hdg : decode cc pc = .ok (.bipush n, 2)) (hv : (Int8.ofInt n).toInt32 = v) (kk : G X ad (pc + 2) nl lv (.int v :: st) M) : G X ad pc nl lv (st) M := by
  obtain ⟨p, l, e, R, s, m, args, below, meth, c, Q, A, H0, dd, ca, kc, ks⟩ := X
  obtain ⟨hx, hb, hml, hown, hts, hK, hN, hI, hA, hfr, hlo, hkc, hks⟩ := C
  intro H locs ls hP hS hl0
  exact lv_bipush hx hb hdg hv (kk H locs ls hP hS hl0)
theorem G.sipush (C : Gk X ad cc own nl d) {n : Int} {v : Int32} (hdg : decode cc pc = .ok (.sipush n, 3)) (hv : (Int16.ofInt n).toInt32 = v) (kk : G X ad (pc + 3) nl lv (.int v :: st) M) : G X ad pc nl lv (st) M := by
  obtain ⟨p, l, e, R, s, m, args, below, meth, c, Q, A, H0, dd, ca, kc, ks⟩ := X
  obtain ⟨hx, hb, hml, hown, hts, hK, hN, hI, hA, hfr, hlo, hkc, hks⟩ := C
  intro H locs ls hP hS hl0
  exact lv_sipush hx hb hdg hv (kk H locs ls hP hS hl0)
theorem G.ldc2 (C : Gk X ad cc own nl d) {index : Nat} {v : Int64} (hc : Cond.constantLong own index v ∈ gTs) (hdg : decode cc pc = .ok (.ldc2_w index, 3)) (kk : G X ad (pc + 3) nl lv (.long v :: st) M) : G X ad pc nl lv (st) M := by
  obtain ⟨p, l, e, R, s, m, args, below, meth, c, Q, A, H0, dd, ca, kc, ks⟩ := X
  obtain ⟨hx, hb, hml, hown, hts, hK, hN, hI, hA, hfr, hlo, hkc, hks⟩ := C
  intro H locs ls hP hS hl0
  exact lv_ldc2 hx hb hown (hts _ hc) hdg (kk H locs ls hP hS hl0)
theorem G.iload_n (C : Gk X ad cc own nl d) {k : Fin 4} {i pl : Nat} {x : Int32} (hdg : decode cc pc = .ok (.iload_n k, 1)) (hi : (k : Nat) = i) (hl : lv[pl]? = some (i, .int x)) (kk : G X ad (pc + 1) nl lv (.int x :: st) M) : G X ad pc nl lv (st) M := by
  obtain ⟨p, l, e, R, s, m, args, below, meth, c, Q, A, H0, dd, ca, kc, ks⟩ := X
  obtain ⟨hx, hb, hml, hown, hts, hK, hN, hI, hA, hfr, hlo, hkc, hks⟩ := C
  intro H locs ls hP hS hl0
  exact lv_iload_n hx hb hdg hi (lv_at hl0 pl hl) (kk H locs ls hP hS hl0)
theorem G.iload (C : Gk X ad cc own nl d) {i pl : Nat} {x : Int32} (hdg : decode cc pc = .ok (.iload i, 2)) (hl : lv[pl]? = some (i, .int x)) (kk : G X ad (pc + 2) nl lv (.int x :: st) M) : G X ad pc nl lv (st) M := by
  obtain ⟨p, l, e, R, s, m, args, below, meth, c, Q, A, H0, dd, ca, kc, ks⟩ := X
  obtain ⟨hx, hb, hml, hown, hts, hK, hN, hI, hA, hfr, hlo, hkc, hks⟩ := C
  intro H locs ls hP hS hl0
  exact lv_iload hx hb hdg (lv_at hl0 pl hl) (kk H locs ls hP hS hl0)
theorem G.istore_n (C : Gk X ad cc own nl d) {k : Fin 4} {i : Nat} {x : Int32} (hdg : decode cc pc = .ok (.istore_n k, 1)) (hi : (k : Nat) = i) (hn : i < nl) (hl : (i, Value.int x) :: lv.filter (fun q => !(q.1 == i) && !(q.1 + 1 == i && q.2.category == 2)) = lv') (kk : G X ad (pc + 1) nl lv' st M) : G X ad pc nl lv (.int x :: st) M := by
  obtain ⟨p, l, e, R, s, m, args, below, meth, c, Q, A, H0, dd, ca, kc, ks⟩ := X
  obtain ⟨hx, hb, hml, hown, hts, hK, hN, hI, hA, hfr, hlo, hkc, hks⟩ := C
  intro H locs ls hP hS hl0
  exact lv_istore_n hx hb hdg hi hl0 hn hl (fun ls' h' => kk H locs ls' hP hS h')
theorem G.istore (C : Gk X ad cc own nl d) {i : Nat} {x : Int32} (hdg : decode cc pc = .ok (.istore i, 2)) (hn : i < nl) (hl : (i, Value.int x) :: lv.filter (fun q => !(q.1 == i) && !(q.1 + 1 == i && q.2.category == 2)) = lv') (kk : G X ad (pc + 2) nl lv' st M) : G X ad pc nl lv (.int x :: st) M := by
  obtain ⟨p, l, e, R, s, m, args, below, meth, c, Q, A, H0, dd, ca, kc, ks⟩ := X
  obtain ⟨hx, hb, hml, hown, hts, hK, hN, hI, hA, hfr, hlo, hkc, hks⟩ := C
  intro H locs ls hP hS hl0
  exact lv_istore hx hb hdg hl0 hn hl (fun ls' h' => kk H locs ls' hP hS h')
theorem G.aload_n (C : Gk X ad cc own nl d) {k : Fin 4} {i pl : Nat} {x : Nat} (hdg : decode cc pc = .ok (.aload_n k, 1)) (hi : (k : Nat) = i) (hl : lv[pl]? = some (i, .ref x)) (kk : G X ad (pc + 1) nl lv (.ref x :: st) M) : G X ad pc nl lv (st) M := by
  obtain ⟨p, l, e, R, s, m, args, below, meth, c, Q, A, H0, dd, ca, kc, ks⟩ := X
  obtain ⟨hx, hb, hml, hown, hts, hK, hN, hI, hA, hfr, hlo, hkc, hks⟩ := C
  intro H locs ls hP hS hl0
  exact lv_aload_n hx hb hdg hi (lv_at hl0 pl hl) (kk H locs ls hP hS hl0)
theorem G.aload (C : Gk X ad cc own nl d) {i pl : Nat} {x : Nat} (hdg : decode cc pc = .ok (.aload i, 2)) (hl : lv[pl]? = some (i, .ref x)) (kk : G X ad (pc + 2) nl lv (.ref x :: st) M) : G X ad pc nl lv (st) M := by
  obtain ⟨p, l, e, R, s, m, args, below, meth, c, Q, A, H0, dd, ca, kc, ks⟩ := X
  obtain ⟨hx, hb, hml, hown, hts, hK, hN, hI, hA, hfr, hlo, hkc, hks⟩ := C
  intro H locs ls hP hS hl0
  exact lv_aload hx hb hdg (lv_at hl0 pl hl) (kk H locs ls hP hS hl0)
theorem G.astore_n (C : Gk X ad cc own nl d) {k : Fin 4} {i : Nat} {x : Nat} (hdg : decode cc pc = .ok (.astore_n k, 1)) (hi : (k : Nat) = i) (hn : i < nl) (hl : (i, Value.ref x) :: lv.filter (fun q => !(q.1 == i) && !(q.1 + 1 == i && q.2.category == 2)) = lv') (kk : G X ad (pc + 1) nl lv' st M) : G X ad pc nl lv (.ref x :: st) M := by
  obtain ⟨p, l, e, R, s, m, args, below, meth, c, Q, A, H0, dd, ca, kc, ks⟩ := X
  obtain ⟨hx, hb, hml, hown, hts, hK, hN, hI, hA, hfr, hlo, hkc, hks⟩ := C
  intro H locs ls hP hS hl0
  exact lv_astore_n hx hb hdg hi hl0 hn hl (fun ls' h' => kk H locs ls' hP hS h')
theorem G.astore (C : Gk X ad cc own nl d) {i : Nat} {x : Nat} (hdg : decode cc pc = .ok (.astore i, 2)) (hn : i < nl) (hl : (i, Value.ref x) :: lv.filter (fun q => !(q.1 == i) && !(q.1 + 1 == i && q.2.category == 2)) = lv') (kk : G X ad (pc + 2) nl lv' st M) : G X ad pc nl lv (.ref x :: st) M := by
  obtain ⟨p, l, e, R, s, m, args, below, meth, c, Q, A, H0, dd, ca, kc, ks⟩ := X
  obtain ⟨hx, hb, hml, hown, hts, hK, hN, hI, hA, hfr, hlo, hkc, hks⟩ := C
  intro H locs ls hP hS hl0
  exact lv_astore hx hb hdg hl0 hn hl (fun ls' h' => kk H locs ls' hP hS h')
theorem G.lload_n (C : Gk X ad cc own nl d) {k : Fin 4} {i pl : Nat} {x : Int64} (hdg : decode cc pc = .ok (.lload_n k, 1)) (hi : (k : Nat) = i) (hl : lv[pl]? = some (i, .long x)) (kk : G X ad (pc + 1) nl lv (.long x :: st) M) : G X ad pc nl lv (st) M := by
  obtain ⟨p, l, e, R, s, m, args, below, meth, c, Q, A, H0, dd, ca, kc, ks⟩ := X
  obtain ⟨hx, hb, hml, hown, hts, hK, hN, hI, hA, hfr, hlo, hkc, hks⟩ := C
  intro H locs ls hP hS hl0
  exact lv_lload_n hx hb hdg hi (lv_at hl0 pl hl) (kk H locs ls hP hS hl0)
theorem G.lload (C : Gk X ad cc own nl d) {i pl : Nat} {x : Int64} (hdg : decode cc pc = .ok (.lload i, 2)) (hl : lv[pl]? = some (i, .long x)) (kk : G X ad (pc + 2) nl lv (.long x :: st) M) : G X ad pc nl lv (st) M := by
  obtain ⟨p, l, e, R, s, m, args, below, meth, c, Q, A, H0, dd, ca, kc, ks⟩ := X
  obtain ⟨hx, hb, hml, hown, hts, hK, hN, hI, hA, hfr, hlo, hkc, hks⟩ := C
  intro H locs ls hP hS hl0
  exact lv_lload hx hb hdg (lv_at hl0 pl hl) (kk H locs ls hP hS hl0)
theorem G.lstore_n (C : Gk X ad cc own nl d) {k : Fin 4} {i : Nat} {x : Int64} (hdg : decode cc pc = .ok (.lstore_n k, 1)) (hi : (k : Nat) = i) (hn : i + 1 < nl) (hl : (i, Value.long x) :: lv.filter (fun q => !(q.1 == i) && (!(q.1 == i + 1) && !(q.1 + 1 == i && q.2.category == 2))) = lv') (kk : G X ad (pc + 1) nl lv' st M) : G X ad pc nl lv (.long x :: st) M := by
  obtain ⟨p, l, e, R, s, m, args, below, meth, c, Q, A, H0, dd, ca, kc, ks⟩ := X
  obtain ⟨hx, hb, hml, hown, hts, hK, hN, hI, hA, hfr, hlo, hkc, hks⟩ := C
  intro H locs ls hP hS hl0
  exact lv_lstore_n hx hb hdg hi hl0 hn hl (fun ls' h' => kk H locs ls' hP hS h')
theorem G.lstore (C : Gk X ad cc own nl d) {i : Nat} {x : Int64} (hdg : decode cc pc = .ok (.lstore i, 2)) (hn : i + 1 < nl) (hl : (i, Value.long x) :: lv.filter (fun q => !(q.1 == i) && (!(q.1 == i + 1) && !(q.1 + 1 == i && q.2.category == 2))) = lv') (kk : G X ad (pc + 2) nl lv' st M) : G X ad pc nl lv (.long x :: st) M := by
  obtain ⟨p, l, e, R, s, m, args, below, meth, c, Q, A, H0, dd, ca, kc, ks⟩ := X
  obtain ⟨hx, hb, hml, hown, hts, hK, hN, hI, hA, hfr, hlo, hkc, hks⟩ := C
  intro H locs ls hP hS hl0
  exact lv_lstore hx hb hdg hl0 hn hl (fun ls' h' => kk H locs ls' hP hS h')
theorem G.iinc (C : Gk X ad cc own nl d) {i pl : Nat} {n : Int} {x v : Int32} (hdg : decode cc pc = .ok (.iinc i n, 3)) (hk : lv[pl]? = some (i, .int x)) (hv : x + Int32.ofInt n = v) (hn : i < nl) (hl : (i, Value.int v) :: lv.filter (fun q => !(q.1 == i) && !(q.1 + 1 == i && q.2.category == 2)) = lv') (kk : G X ad (pc + 3) nl lv' st M) : G X ad pc nl lv st M := by
  obtain ⟨p, l, e, R, s, m, args, below, meth, c, Q, A, H0, dd, ca, kc, ks⟩ := X
  obtain ⟨hx, hb, hml, hown, hts, hK, hN, hI, hA, hfr, hlo, hkc, hks⟩ := C
  intro H locs ls hP hS hl0
  exact lv_iinc hx hb hdg hl0 hk hv hn hl (fun ls' h' => kk H locs ls' hP hS h')
theorem G.iadd (C : Gk X ad cc own nl d) {x y : Int32} (hdg : decode cc pc = .ok (.iadd, 1)) (kk : G X ad (pc + 1) nl lv (.int (x + y) :: st) M) : G X ad pc nl lv (.int y :: .int x :: st) M := by
  obtain ⟨p, l, e, R, s, m, args, below, meth, c, Q, A, H0, dd, ca, kc, ks⟩ := X
  obtain ⟨hx, hb, hml, hown, hts, hK, hN, hI, hA, hfr, hlo, hkc, hks⟩ := C
  intro H locs ls hP hS hl0
  exact lv_iadd hx hb hdg (kk H locs ls hP hS hl0)
theorem G.isub (C : Gk X ad cc own nl d) {x y : Int32} (hdg : decode cc pc = .ok (.isub, 1)) (kk : G X ad (pc + 1) nl lv (.int (x - y) :: st) M) : G X ad pc nl lv (.int y :: .int x :: st) M := by
  obtain ⟨p, l, e, R, s, m, args, below, meth, c, Q, A, H0, dd, ca, kc, ks⟩ := X
  obtain ⟨hx, hb, hml, hown, hts, hK, hN, hI, hA, hfr, hlo, hkc, hks⟩ := C
  intro H locs ls hP hS hl0
  exact lv_isub hx hb hdg (kk H locs ls hP hS hl0)
theorem G.imul (C : Gk X ad cc own nl d) {x y : Int32} (hdg : decode cc pc = .ok (.imul, 1)) (kk : G X ad (pc + 1) nl lv (.int (x * y) :: st) M) : G X ad pc nl lv (.int y :: .int x :: st) M := by
  obtain ⟨p, l, e, R, s, m, args, below, meth, c, Q, A, H0, dd, ca, kc, ks⟩ := X
  obtain ⟨hx, hb, hml, hown, hts, hK, hN, hI, hA, hfr, hlo, hkc, hks⟩ := C
  intro H locs ls hP hS hl0
  exact lv_imul hx hb hdg (kk H locs ls hP hS hl0)
theorem G.iand (C : Gk X ad cc own nl d) {x y : Int32} (hdg : decode cc pc = .ok (.iand, 1)) (kk : G X ad (pc + 1) nl lv (.int (x &&& y) :: st) M) : G X ad pc nl lv (.int y :: .int x :: st) M := by
  obtain ⟨p, l, e, R, s, m, args, below, meth, c, Q, A, H0, dd, ca, kc, ks⟩ := X
  obtain ⟨hx, hb, hml, hown, hts, hK, hN, hI, hA, hfr, hlo, hkc, hks⟩ := C
  intro H locs ls hP hS hl0
  exact lv_iand hx hb hdg (kk H locs ls hP hS hl0)
theorem G.ior (C : Gk X ad cc own nl d) {x y : Int32} (hdg : decode cc pc = .ok (.ior, 1)) (kk : G X ad (pc + 1) nl lv (.int (x ||| y) :: st) M) : G X ad pc nl lv (.int y :: .int x :: st) M := by
  obtain ⟨p, l, e, R, s, m, args, below, meth, c, Q, A, H0, dd, ca, kc, ks⟩ := X
  obtain ⟨hx, hb, hml, hown, hts, hK, hN, hI, hA, hfr, hlo, hkc, hks⟩ := C
  intro H locs ls hP hS hl0
  exact lv_ior hx hb hdg (kk H locs ls hP hS hl0)
theorem G.ixor (C : Gk X ad cc own nl d) {x y : Int32} (hdg : decode cc pc = .ok (.ixor, 1)) (kk : G X ad (pc + 1) nl lv (.int (x ^^^ y) :: st) M) : G X ad pc nl lv (.int y :: .int x :: st) M := by
  obtain ⟨p, l, e, R, s, m, args, below, meth, c, Q, A, H0, dd, ca, kc, ks⟩ := X
  obtain ⟨hx, hb, hml, hown, hts, hK, hN, hI, hA, hfr, hlo, hkc, hks⟩ := C
  intro H locs ls hP hS hl0
  exact lv_ixor hx hb hdg (kk H locs ls hP hS hl0)
theorem G.ishr (C : Gk X ad cc own nl d) {x y : Int32} (hdg : decode cc pc = .ok (.ishr, 1)) (kk : G X ad (pc + 1) nl lv (.int (x >>> (y &&& 31)) :: st) M) : G X ad pc nl lv (.int y :: .int x :: st) M := by
  obtain ⟨p, l, e, R, s, m, args, below, meth, c, Q, A, H0, dd, ca, kc, ks⟩ := X
  obtain ⟨hx, hb, hml, hown, hts, hK, hN, hI, hA, hfr, hlo, hkc, hks⟩ := C
  intro H locs ls hP hS hl0
  exact lv_ishr hx hb hdg (kk H locs ls hP hS hl0)
theorem G.iushr (C : Gk X ad cc own nl d) {x y : Int32} (hdg : decode cc pc = .ok (.iushr, 1)) (kk : G X ad (pc + 1) nl lv (.int ((x.toUInt32 >>> (y.toUInt32 &&& Int32.toUInt32 31)).toInt32) :: st) M) : G X ad pc nl lv (.int y :: .int x :: st) M := by
  obtain ⟨p, l, e, R, s, m, args, below, meth, c, Q, A, H0, dd, ca, kc, ks⟩ := X
  obtain ⟨hx, hb, hml, hown, hts, hK, hN, hI, hA, hfr, hlo, hkc, hks⟩ := C
  intro H locs ls hP hS hl0
  exact lv_iushr hx hb hdg rfl (kk H locs ls hP hS hl0)
theorem G.ineg (C : Gk X ad cc own nl d) {x : Int32} (hdg : decode cc pc = .ok (.ineg, 1)) (kk : G X ad (pc + 1) nl lv (.int (-x) :: st) M) : G X ad pc nl lv (.int x :: st) M := by
  obtain ⟨p, l, e, R, s, m, args, below, meth, c, Q, A, H0, dd, ca, kc, ks⟩ := X
  obtain ⟨hx, hb, hml, hown, hts, hK, hN, hI, hA, hfr, hlo, hkc, hks⟩ := C
  intro H locs ls hP hS hl0
  exact lv_ineg hx hb hdg (kk H locs ls hP hS hl0)
theorem G.idiv (C : Gk X ad cc own nl d) {x y : Int32} (hne : ¬ y = 0) (hdg : decode cc pc = .ok (.idiv, 1)) (kk : G X ad (pc + 1) nl lv (.int (x / y) :: st) M) : G X ad pc nl lv (.int y :: .int x :: st) M := by
  obtain ⟨p, l, e, R, s, m, args, below, meth, c, Q, A, H0, dd, ca, kc, ks⟩ := X
  obtain ⟨hx, hb, hml, hown, hts, hK, hN, hI, hA, hfr, hlo, hkc, hks⟩ := C
  intro H locs ls hP hS hl0
  exact lv_idiv hx hb hdg hne (kk H locs ls hP hS hl0)
theorem G.irem (C : Gk X ad cc own nl d) {x y : Int32} (hne : ¬ y = 0) (hdg : decode cc pc = .ok (.irem, 1)) (kk : G X ad (pc + 1) nl lv (.int (x % y) :: st) M) : G X ad pc nl lv (.int y :: .int x :: st) M := by
  obtain ⟨p, l, e, R, s, m, args, below, meth, c, Q, A, H0, dd, ca, kc, ks⟩ := X
  obtain ⟨hx, hb, hml, hown, hts, hK, hN, hI, hA, hfr, hlo, hkc, hks⟩ := C
  intro H locs ls hP hS hl0
  exact lv_irem hx hb hdg hne (by rw [irem_eq_mod]; exact kk H locs ls hP hS hl0)
theorem G.ladd (C : Gk X ad cc own nl d) {x y : Int64} (hdg : decode cc pc = .ok (.ladd, 1)) (kk : G X ad (pc + 1) nl lv (.long (x + y) :: st) M) : G X ad pc nl lv (.long y :: .long x :: st) M := by
  obtain ⟨p, l, e, R, s, m, args, below, meth, c, Q, A, H0, dd, ca, kc, ks⟩ := X
  obtain ⟨hx, hb, hml, hown, hts, hK, hN, hI, hA, hfr, hlo, hkc, hks⟩ := C
  intro H locs ls hP hS hl0
  exact lv_ladd hx hb hdg (kk H locs ls hP hS hl0)
theorem G.lmul (C : Gk X ad cc own nl d) {x y : Int64} (hdg : decode cc pc = .ok (.lmul, 1)) (kk : G X ad (pc + 1) nl lv (.long (x * y) :: st) M) : G X ad pc nl lv (.long y :: .long x :: st) M := by
  obtain ⟨p, l, e, R, s, m, args, below, meth, c, Q, A, H0, dd, ca, kc, ks⟩ := X
  obtain ⟨hx, hb, hml, hown, hts, hK, hN, hI, hA, hfr, hlo, hkc, hks⟩ := C
  intro H locs ls hP hS hl0
  exact lv_lmul hx hb hdg (kk H locs ls hP hS hl0)
theorem G.land (C : Gk X ad cc own nl d) {x y : Int64} (hdg : decode cc pc = .ok (.land, 1)) (kk : G X ad (pc + 1) nl lv (.long (x &&& y) :: st) M) : G X ad pc nl lv (.long y :: .long x :: st) M := by
  obtain ⟨p, l, e, R, s, m, args, below, meth, c, Q, A, H0, dd, ca, kc, ks⟩ := X
  obtain ⟨hx, hb, hml, hown, hts, hK, hN, hI, hA, hfr, hlo, hkc, hks⟩ := C
  intro H locs ls hP hS hl0
  exact lv_land hx hb hdg (kk H locs ls hP hS hl0)
theorem G.lor (C : Gk X ad cc own nl d) {x y : Int64} (hdg : decode cc pc = .ok (.lor, 1)) (kk : G X ad (pc + 1) nl lv (.long (x ||| y) :: st) M) : G X ad pc nl lv (.long y :: .long x :: st) M := by
  obtain ⟨p, l, e, R, s, m, args, below, meth, c, Q, A, H0, dd, ca, kc, ks⟩ := X
  obtain ⟨hx, hb, hml, hown, hts, hK, hN, hI, hA, hfr, hlo, hkc, hks⟩ := C
  intro H locs ls hP hS hl0
  exact lv_lor hx hb hdg (kk H locs ls hP hS hl0)
theorem G.lushr (C : Gk X ad cc own nl d) {x : Int64} {y : Int32} (hdg : decode cc pc = .ok (.lushr, 1)) (kk : G X ad (pc + 1) nl lv (.long ((x.toUInt64 >>> (y.toInt64.toUInt64 &&& Int64.toUInt64 63)).toInt64) :: st) M) : G X ad pc nl lv (.int y :: .long x :: st) M := by
  obtain ⟨p, l, e, R, s, m, args, below, meth, c, Q, A, H0, dd, ca, kc, ks⟩ := X
  obtain ⟨hx, hb, hml, hown, hts, hK, hN, hI, hA, hfr, hlo, hkc, hks⟩ := C
  intro H locs ls hP hS hl0
  exact lv_lushr hx hb hdg rfl (kk H locs ls hP hS hl0)
theorem G.lshr (C : Gk X ad cc own nl d) {x : Int64} {y : Int32} (hdg : decode cc pc = .ok (.lshr, 1)) (kk : G X ad (pc + 1) nl lv (.long (x >>> (y.toInt64 &&& 63)) :: st) M) : G X ad pc nl lv (.int y :: .long x :: st) M := by
  obtain ⟨p, l, e, R, s, m, args, below, meth, c, Q, A, H0, dd, ca, kc, ks⟩ := X
  obtain ⟨hx, hb, hml, hown, hts, hK, hN, hI, hA, hfr, hlo, hkc, hks⟩ := C
  intro H locs ls hP hS hl0
  exact lv_lshr hx hb hdg rfl (kk H locs ls hP hS hl0)
theorem G.lshl (C : Gk X ad cc own nl d) {x : Int64} {y : Int32} (hdg : decode cc pc = .ok (.lshl, 1)) (kk : G X ad (pc + 1) nl lv (.long (x <<< (y.toInt64 &&& 63)) :: st) M) : G X ad pc nl lv (.int y :: .long x :: st) M := by
  obtain ⟨p, l, e, R, s, m, args, below, meth, c, Q, A, H0, dd, ca, kc, ks⟩ := X
  obtain ⟨hx, hb, hml, hown, hts, hK, hN, hI, hA, hfr, hlo, hkc, hks⟩ := C
  intro H locs ls hP hS hl0
  exact lv_lshl hx hb hdg rfl (kk H locs ls hP hS hl0)
theorem G.i2l (C : Gk X ad cc own nl d) {x : Int32} (hdg : decode cc pc = .ok (.i2l, 1)) (kk : G X ad (pc + 1) nl lv (.long x.toInt64 :: st) M) : G X ad pc nl lv (.int x :: st) M := by
  obtain ⟨p, l, e, R, s, m, args, below, meth, c, Q, A, H0, dd, ca, kc, ks⟩ := X
  obtain ⟨hx, hb, hml, hown, hts, hK, hN, hI, hA, hfr, hlo, hkc, hks⟩ := C
  intro H locs ls hP hS hl0
  exact lv_i2l hx hb hdg rfl (kk H locs ls hP hS hl0)
theorem G.l2i (C : Gk X ad cc own nl d) {x : Int64} (hdg : decode cc pc = .ok (.l2i, 1)) (kk : G X ad (pc + 1) nl lv (.int x.toInt32 :: st) M) : G X ad pc nl lv (.long x :: st) M := by
  obtain ⟨p, l, e, R, s, m, args, below, meth, c, Q, A, H0, dd, ca, kc, ks⟩ := X
  obtain ⟨hx, hb, hml, hown, hts, hK, hN, hI, hA, hfr, hlo, hkc, hks⟩ := C
  intro H locs ls hP hS hl0
  exact lv_l2i hx hb hdg rfl (kk H locs ls hP hS hl0)
theorem G.lcmp (C : Gk X ad cc own nl d) {x y : Int64} (hdg : decode cc pc = .ok (.lcmp, 1)) (kk : G X ad (pc + 1) nl lv (.int (lg_cmp x y) :: st) M) : G X ad pc nl lv (.long y :: .long x :: st) M := by
  obtain ⟨p, l, e, R, s, m, args, below, meth, c, Q, A, H0, dd, ca, kc, ks⟩ := X
  obtain ⟨hx, hb, hml, hown, hts, hK, hN, hI, hA, hfr, hlo, hkc, hks⟩ := C
  intro H locs ls hP hS hl0
  exact W.lcmp hx hb hdg (kk H locs ls hP hS hl0)
theorem G.dup (C : Gk X ad cc own nl d) {va : Value} (hdg : decode cc pc = .ok (.dup, 1)) (hva : va.category = 1) (kk : G X ad (pc + 1) nl lv (va :: va :: st) M) : G X ad pc nl lv (va :: st) M := by
  obtain ⟨p, l, e, R, s, m, args, below, meth, c, Q, A, H0, dd, ca, kc, ks⟩ := X
  obtain ⟨hx, hb, hml, hown, hts, hK, hN, hI, hA, hfr, hlo, hkc, hks⟩ := C
  intro H locs ls hP hS hl0
  exact lv_dup hx hb hdg hva (kk H locs ls hP hS hl0)
theorem G.pop (C : Gk X ad cc own nl d) {va : Value} (hdg : decode cc pc = .ok (.pop, 1)) (hva : va.category = 1) (kk : G X ad (pc + 1) nl lv (st) M) : G X ad pc nl lv (va :: st) M := by
  obtain ⟨p, l, e, R, s, m, args, below, meth, c, Q, A, H0, dd, ca, kc, ks⟩ := X
  obtain ⟨hx, hb, hml, hown, hts, hK, hN, hI, hA, hfr, hlo, hkc, hks⟩ := C
  intro H locs ls hP hS hl0
  exact lv_pop hx hb hdg hva (kk H locs ls hP hS hl0)
theorem G.dup2 (C : Gk X ad cc own nl d) {va vb : Value} (hdg : decode cc pc = .ok (.dup2, 1)) (hva : va.category = 1) (hvb : vb.category = 1) (kk : G X ad (pc + 1) nl lv (va :: vb :: va :: vb :: st) M) : G X ad pc nl lv (va :: vb :: st) M := by
  obtain ⟨p, l, e, R, s, m, args, below, meth, c, Q, A, H0, dd, ca, kc, ks⟩ := X
  obtain ⟨hx, hb, hml, hown, hts, hK, hN, hI, hA, hfr, hlo, hkc, hks⟩ := C
  intro H locs ls hP hS hl0
  exact lv_dup2_11 hx hb hdg hva hvb (kk H locs ls hP hS hl0)
theorem G.icmp_eq (C : Gk X ad cc own nl d) {x y : Int32} {off : Int} {tgt : Nat} (hdg : decode cc pc = .ok (.if_icmp .eq off, 3)) (ht : (pc : Int) + off = (tgt : Int)) (kt : x = y → G X ad tgt nl lv st M) (kf : ¬ x = y → G X ad (pc + 3) nl lv st M) : G X ad pc nl lv (.int y :: .int x :: st) M := by
  obtain ⟨p, l, e, R, s, m, args, below, meth, c, Q, A, H0, dd, ca, kc, ks⟩ := X
  obtain ⟨hx, hb, hml, hown, hts, hK, hN, hI, hA, hfr, hlo, hkc, hks⟩ := C
  intro H locs ls hP hS hl0
  exact lv_icmp_eq hx hb hdg ht (fun h => kt h H locs ls hP hS hl0) (fun h => kf h H locs ls hP hS hl0)
theorem G.icmp_ne (C : Gk X ad cc own nl d) {x y : Int32} {off : Int} {tgt : Nat} (hdg : decode cc pc = .ok (.if_icmp .ne off, 3)) (ht : (pc : Int) + off = (tgt : Int)) (kt : ¬ x = y → G X ad tgt nl lv st M) (kf : x = y → G X ad (pc + 3) nl lv st M) : G X ad pc nl lv (.int y :: .int x :: st) M := by
  obtain ⟨p, l, e, R, s, m, args, below, meth, c, Q, A, H0, dd, ca, kc, ks⟩ := X
  obtain ⟨hx, hb, hml, hown, hts, hK, hN, hI, hA, hfr, hlo, hkc, hks⟩ := C
  intro H locs ls hP hS hl0
  exact lv_icmp_ne hx hb hdg ht (fun h => kt h H locs ls hP hS hl0) (fun h => kf h H locs ls hP hS hl0)
theorem G.icmp_lt (C : Gk X ad cc own nl d) {x y : Int32} {off : Int} {tgt : Nat} (hdg : decode cc pc = .ok (.if_icmp .lt off, 3)) (ht : (pc : Int) + off = (tgt : Int)) (kt : x < y → G X ad tgt nl lv st M) (kf : ¬ x < y → G X ad (pc + 3) nl lv st M) : G X ad pc nl lv (.int y :: .int x :: st) M := by
  obtain ⟨p, l, e, R, s, m, args, below, meth, c, Q, A, H0, dd, ca, kc, ks⟩ := X
  obtain ⟨hx, hb, hml, hown, hts, hK, hN, hI, hA, hfr, hlo, hkc, hks⟩ := C
  intro H locs ls hP hS hl0
  exact lv_icmp_lt hx hb hdg ht (fun h => kt h H locs ls hP hS hl0) (fun h => kf h H locs ls hP hS hl0)
theorem G.icmp_ge (C : Gk X ad cc own nl d) {x y : Int32} {off : Int} {tgt : Nat} (hdg : decode cc pc = .ok (.if_icmp .ge off, 3)) (ht : (pc : Int) + off = (tgt : Int)) (kt : y ≤ x → G X ad tgt nl lv st M) (kf : ¬ y ≤ x → G X ad (pc + 3) nl lv st M) : G X ad pc nl lv (.int y :: .int x :: st) M := by
  obtain ⟨p, l, e, R, s, m, args, below, meth, c, Q, A, H0, dd, ca, kc, ks⟩ := X
  obtain ⟨hx, hb, hml, hown, hts, hK, hN, hI, hA, hfr, hlo, hkc, hks⟩ := C
  intro H locs ls hP hS hl0
  exact lv_icmp_ge hx hb hdg ht (fun h => kt h H locs ls hP hS hl0) (fun h => kf h H locs ls hP hS hl0)
theorem G.icmp_gt (C : Gk X ad cc own nl d) {x y : Int32} {off : Int} {tgt : Nat} (hdg : decode cc pc = .ok (.if_icmp .gt off, 3)) (ht : (pc : Int) + off = (tgt : Int)) (kt : y < x → G X ad tgt nl lv st M) (kf : ¬ y < x → G X ad (pc + 3) nl lv st M) : G X ad pc nl lv (.int y :: .int x :: st) M := by
  obtain ⟨p, l, e, R, s, m, args, below, meth, c, Q, A, H0, dd, ca, kc, ks⟩ := X
  obtain ⟨hx, hb, hml, hown, hts, hK, hN, hI, hA, hfr, hlo, hkc, hks⟩ := C
  intro H locs ls hP hS hl0
  exact lv_icmp_gt hx hb hdg ht (fun h => kt h H locs ls hP hS hl0) (fun h => kf h H locs ls hP hS hl0)
theorem G.icmp_le (C : Gk X ad cc own nl d) {x y : Int32} {off : Int} {tgt : Nat} (hdg : decode cc pc = .ok (.if_icmp .le off, 3)) (ht : (pc : Int) + off = (tgt : Int)) (kt : x ≤ y → G X ad tgt nl lv st M) (kf : ¬ x ≤ y → G X ad (pc + 3) nl lv st M) : G X ad pc nl lv (.int y :: .int x :: st) M := by
  obtain ⟨p, l, e, R, s, m, args, below, meth, c, Q, A, H0, dd, ca, kc, ks⟩ := X
  obtain ⟨hx, hb, hml, hown, hts, hK, hN, hI, hA, hfr, hlo, hkc, hks⟩ := C
  intro H locs ls hP hS hl0
  exact lv_icmp_le hx hb hdg ht (fun h => kt h H locs ls hP hS hl0) (fun h => kf h H locs ls hP hS hl0)
theorem G.if_eq (C : Gk X ad cc own nl d) {x : Int32} {off : Int} {tgt : Nat} (hdg : decode cc pc = .ok (.ifCond .eq off, 3)) (ht : (pc : Int) + off = (tgt : Int)) (kt : x = 0 → G X ad tgt nl lv st M) (kf : ¬ x = 0 → G X ad (pc + 3) nl lv st M) : G X ad pc nl lv (.int x :: st) M := by
  obtain ⟨p, l, e, R, s, m, args, below, meth, c, Q, A, H0, dd, ca, kc, ks⟩ := X
  obtain ⟨hx, hb, hml, hown, hts, hK, hN, hI, hA, hfr, hlo, hkc, hks⟩ := C
  intro H locs ls hP hS hl0
  exact lv_if_eq hx hb hdg ht (fun h => kt h H locs ls hP hS hl0) (fun h => kf h H locs ls hP hS hl0)
theorem G.if_ne (C : Gk X ad cc own nl d) {x : Int32} {off : Int} {tgt : Nat} (hdg : decode cc pc = .ok (.ifCond .ne off, 3)) (ht : (pc : Int) + off = (tgt : Int)) (kt : ¬ x = 0 → G X ad tgt nl lv st M) (kf : x = 0 → G X ad (pc + 3) nl lv st M) : G X ad pc nl lv (.int x :: st) M := by
  obtain ⟨p, l, e, R, s, m, args, below, meth, c, Q, A, H0, dd, ca, kc, ks⟩ := X
  obtain ⟨hx, hb, hml, hown, hts, hK, hN, hI, hA, hfr, hlo, hkc, hks⟩ := C
  intro H locs ls hP hS hl0
  exact lv_if_ne hx hb hdg ht (fun h => kt h H locs ls hP hS hl0) (fun h => kf h H locs ls hP hS hl0)
theorem G.if_lt (C : Gk X ad cc own nl d) {x : Int32} {off : Int} {tgt : Nat} (hdg : decode cc pc = .ok (.ifCond .lt off, 3)) (ht : (pc : Int) + off = (tgt : Int)) (kt : x < 0 → G X ad tgt nl lv st M) (kf : ¬ x < 0 → G X ad (pc + 3) nl lv st M) : G X ad pc nl lv (.int x :: st) M := by
  obtain ⟨p, l, e, R, s, m, args, below, meth, c, Q, A, H0, dd, ca, kc, ks⟩ := X
  obtain ⟨hx, hb, hml, hown, hts, hK, hN, hI, hA, hfr, hlo, hkc, hks⟩ := C
  intro H locs ls hP hS hl0
  exact lv_if_lt hx hb hdg ht (fun h => kt h H locs ls hP hS hl0) (fun h => kf h H locs ls hP hS hl0)
theorem G.if_ge (C : Gk X ad cc own nl d) {x : Int32} {off : Int} {tgt : Nat} (hdg : decode cc pc = .ok (.ifCond .ge off, 3)) (ht : (pc : Int) + off = (tgt : Int)) (kt : 0 ≤ x → G X ad tgt nl lv st M) (kf : ¬ 0 ≤ x → G X ad (pc + 3) nl lv st M) : G X ad pc nl lv (.int x :: st) M := by
  obtain ⟨p, l, e, R, s, m, args, below, meth, c, Q, A, H0, dd, ca, kc, ks⟩ := X
  obtain ⟨hx, hb, hml, hown, hts, hK, hN, hI, hA, hfr, hlo, hkc, hks⟩ := C
  intro H locs ls hP hS hl0
  exact lv_if_ge hx hb hdg ht (fun h => kt h H locs ls hP hS hl0) (fun h => kf h H locs ls hP hS hl0)
theorem G.if_gt (C : Gk X ad cc own nl d) {x : Int32} {off : Int} {tgt : Nat} (hdg : decode cc pc = .ok (.ifCond .gt off, 3)) (ht : (pc : Int) + off = (tgt : Int)) (kt : 0 < x → G X ad tgt nl lv st M) (kf : ¬ 0 < x → G X ad (pc + 3) nl lv st M) : G X ad pc nl lv (.int x :: st) M := by
  obtain ⟨p, l, e, R, s, m, args, below, meth, c, Q, A, H0, dd, ca, kc, ks⟩ := X
  obtain ⟨hx, hb, hml, hown, hts, hK, hN, hI, hA, hfr, hlo, hkc, hks⟩ := C
  intro H locs ls hP hS hl0
  exact lv_if_gt hx hb hdg ht (fun h => kt h H locs ls hP hS hl0) (fun h => kf h H locs ls hP hS hl0)
theorem G.if_le (C : Gk X ad cc own nl d) {x : Int32} {off : Int} {tgt : Nat} (hdg : decode cc pc = .ok (.ifCond .le off, 3)) (ht : (pc : Int) + off = (tgt : Int)) (kt : x ≤ 0 → G X ad tgt nl lv st M) (kf : ¬ x ≤ 0 → G X ad (pc + 3) nl lv st M) : G X ad pc nl lv (.int x :: st) M := by
  obtain ⟨p, l, e, R, s, m, args, below, meth, c, Q, A, H0, dd, ca, kc, ks⟩ := X
  obtain ⟨hx, hb, hml, hown, hts, hK, hN, hI, hA, hfr, hlo, hkc, hks⟩ := C
  intro H locs ls hP hS hl0
  exact lv_if_le hx hb hdg ht (fun h => kt h H locs ls hP hS hl0) (fun h => kf h H locs ls hP hS hl0)
theorem G.goto (C : Gk X ad cc own nl d) {off : Int} {tgt : Nat} (hdg : decode cc pc = .ok (.goto off, 3)) (ht : (pc : Int) + off = (tgt : Int)) (kk : G X ad tgt nl lv st M) : G X ad pc nl lv st M := by
  obtain ⟨p, l, e, R, s, m, args, below, meth, c, Q, A, H0, dd, ca, kc, ks⟩ := X
  obtain ⟨hx, hb, hml, hown, hts, hK, hN, hI, hA, hfr, hlo, hkc, hks⟩ := C
  intro H locs ls hP hS hl0
  exact lv_goto hx hb hdg ht (kk H locs ls hP hS hl0)
theorem G.tableIn (C : Gk X ad cc own nl d) {dflt lo hi : Int} {offs : Array Int} {len : Nat} {x : Int32} {off : Int} {tgt : Nat} (hdg : decode cc pc = .ok (.tableswitch dflt lo hi offs, len)) (h1 : ¬ x.toInt < lo) (h2 : ¬ hi < x.toInt) (ho : offs[(x.toInt - lo).toNat]? = some off) (ht : (pc : Int) + off = (tgt : Int)) (kk : G X ad tgt nl lv st M) : G X ad pc nl lv (.int x :: st) M := by
  obtain ⟨p, l, e, R, s, m, args, below, meth, c, Q, A, H0, dd, ca, kc, ks⟩ := X
  obtain ⟨hx, hb, hml, hown, hts, hK, hN, hI, hA, hfr, hlo, hkc, hks⟩ := C
  intro H locs ls hP hS hl0
  exact lv_tableIn hx hb hdg h1 h2 ho ht (kk H locs ls hP hS hl0)
theorem G.tableOut (C : Gk X ad cc own nl d) {dflt lo hi : Int} {offs : Array Int} {len : Nat} {x : Int32} {tgt : Nat} (hdg : decode cc pc = .ok (.tableswitch dflt lo hi offs, len)) (h : x.toInt < lo ∨ hi < x.toInt) (ht : (pc : Int) + dflt = (tgt : Int)) (kk : G X ad tgt nl lv st M) : G X ad pc nl lv (.int x :: st) M := by
  obtain ⟨p, l, e, R, s, m, args, below, meth, c, Q, A, H0, dd, ca, kc, ks⟩ := X
  obtain ⟨hx, hb, hml, hown, hts, hK, hN, hI, hA, hfr, hlo, hkc, hks⟩ := C
  intro H locs ls hP hS hl0
  exact lv_tableOut hx hb hdg h ht (kk H locs ls hP hS hl0)
theorem G.iald (C : Gk X ad cc own nl d) {n q : Nat} {v : Int32} (ha : gArr n q) {i : Int32} (hin : vp_in i n) (hv : M.1 q i.toNatClampNeg = v) (hdg : decode cc pc = .ok (.iaload, 1)) (kk : G X ad (pc + 1) nl lv (.int v :: st) M) : G X ad pc nl lv (.int i :: .ref (ad q) :: st) M := by
  obtain ⟨p, l, e, R, s, m, args, below, meth, c, Q, A, H0, dd, ca, kc, ks⟩ := X
  obtain ⟨hx, hb, hml, hown, hts, hK, hN, hI, hA, hfr, hlo, hkc, hks⟩ := C
  intro H locs ls hP hS hl0
  exact va_iald hx hb hK hP q 0 (by rw [gW_at ha.1, gShp_arr ha]) rfl hin hdg (hv ▸ (kk H locs ls hP hS hl0))
theorem G.zald (C : Gk X ad cc own nl d) {n q : Nat} {v : Int32} (ha : gArrZ n q) {i : Int32} (hin : vp_in i n) (hv : M.1 q i.toNatClampNeg = v) (hdg : decode cc pc = .ok (.baload, 1)) (kk : G X ad (pc + 1) nl lv (.int v :: st) M) : G X ad pc nl lv (.int i :: .ref (ad q) :: st) M := by
  obtain ⟨p, l, e, R, s, m, args, below, meth, c, Q, A, H0, dd, ca, kc, ks⟩ := X
  obtain ⟨hx, hb, hml, hown, hts, hK, hN, hI, hA, hfr, hlo, hkc, hks⟩ := C
  intro H locs ls hP hS hl0
  exact va_zald hx hb hK hP q 1 (by rw [gW_at ha.1, gShp_arrZ ha]) rfl hin hdg (hv ▸ (kk H locs ls hP hS hl0))
theorem gP_mset {ad : Nat → Nat} {dd : va_G} {ca : Nat → ClassId} {M : Mem} {H : Heap} {q i : Nat} {v : Int32} {e : va_E} (hq : q < 130) (he : e = gShp ad ca q (upd (M.1 q) i v) M.2) (h : va_P dd vwCl ((gW ad ca M).set q (ad q, e)) H) : gP ad dd ca (mset M q i v) H := by
  rw [gW_set (M' := mset M q i v) hq (by rw [he, mset_same]; rfl) (fun a _ ha => by rw [mset_ne ha]; rfl)] at h
  exact h
theorem gP_mcpy {ad : Nat → Nat} {dd : va_G} {ca : Nat → ClassId} {M : Mem} {H : Heap} {q0 q sp dp n : Nat} {e : va_E} (hq : q < 130) (he : e = gShp ad ca q (va_cpy (M.1 q0) (M.1 q) sp dp n) M.2) (h : va_P dd vwCl ((gW ad ca M).set q (ad q, e)) H) : gP ad dd ca (mcpy M q0 q sp dp n) H := by
  rw [gW_set (M' := mcpy M q0 q sp dp n) hq (by rw [he, mcpy_same]; rfl) (fun a _ ha => by rw [mcpy_ne ha]; rfl)] at h
  exact h
theorem gDesc_model : ∀ a, a < 130 → a ≠ 108 → (gDesc.getD a (0, 0)).1 < 20 := by decide +kernel
theorem G.iast (C : Gk X ad cc own nl d) {n q : Nat} (ha : gArr n q) {i x : Int32} {M1 : Mem} (hin : vp_in i n) (hM : mset M q i.toNatClampNeg x = M1) (hdg : decode cc pc = .ok (.iastore, 1)) (kk : G X ad (pc + 1) nl lv st M1) : G X ad pc nl lv (.int x :: .int i :: .ref (ad q) :: st) M := by
  subst hM
  obtain ⟨p, l, e, R, s, m, args, below, meth, c, Q, A, H0, dd, ca, kc, ks⟩ := X
  obtain ⟨hx, hb, hml, hown, hts, hK, hN, hI, hA, hfr, hlo, hkc, hks⟩ := C
  intro H locs ls hP hS hl0
  exact va_iast hx hb hK hP (gW_D hI hA) hS q 0 (by rw [gW_at ha.1, gShp_arr ha]) rfl hin hdg (fun H1 locs1 h1 _ h3 => kk H1 locs1 ls (gP_mset ha.1 (by rw [gShp_arr ha]) h1) h3 hl0)
theorem G.zast (C : Gk X ad cc own nl d) {n q : Nat} (ha : gArrZ n q) {i x : Int32} {M1 : Mem} (hin : vp_in i n) (hM : mset M q i.toNatClampNeg (vp_nar .boolean x) = M1) (hdg : decode cc pc = .ok (.bastore, 1)) (kk : G X ad (pc + 1) nl lv st M1) : G X ad pc nl lv (.int x :: .int i :: .ref (ad q) :: st) M := by
  subst hM
  obtain ⟨p, l, e, R, s, m, args, below, meth, c, Q, A, H0, dd, ca, kc, ks⟩ := X
  obtain ⟨hx, hb, hml, hown, hts, hK, hN, hI, hA, hfr, hlo, hkc, hks⟩ := C
  intro H locs ls hP hS hl0
  exact va_zast hx hb hK hP (gW_D hI hA) hS q 1 (by rw [gW_at ha.1, gShp_arrZ ha]) rfl hin hdg (fun H1 locs1 h1 _ h3 => kk H1 locs1 ls (gP_mset ha.1 (by rw [gShp_arrZ ha]) h1) h3 hl0)
theorem G.alen (C : Gk X ad cc own nl d) {n q : Nat} (ha : gArr n q) {v : Int32} (hv : Int32.ofNat n = v) (hdg : decode cc pc = .ok (.arraylength, 1)) (kk : G X ad (pc + 1) nl lv (.int v :: st) M) : G X ad pc nl lv (.ref (ad q) :: st) M := by
  obtain ⟨p, l, e, R, s, m, args, below, meth, c, Q, A, H0, dd, ca, kc, ks⟩ := X
  obtain ⟨hx, hb, hml, hown, hts, hK, hN, hI, hA, hfr, hlo, hkc, hks⟩ := C
  intro H locs ls hP hS hl0
  exact va_alen hx hb hK hP q 0 (by rw [gW_at ha.1, gShp_arr ha]) rfl hv hdg (kk H locs ls hP hS hl0)
theorem G.aldS (C : Gk X ad cc own nl d) {i : Int32} (hin : vp_in i 5) (hdg : decode cc pc = .ok (.aaload, 1)) (kk : G X ad (pc + 1) nl lv (.ref (ad (76 + 4 * i.toNatClampNeg)) :: st) M) : G X ad pc nl lv (.int i :: .ref (ad 75) :: st) M := by
  obtain ⟨p, l, e, R, s, m, args, below, meth, c, Q, A, H0, dd, ca, kc, ks⟩ := X
  obtain ⟨hx, hb, hml, hown, hts, hK, hN, hI, hA, hfr, hlo, hkc, hks⟩ := C
  intro H locs ls hP hS hl0
  exact va_aldq hx hb hK hP 75 3 (n := 5) (f := fun i => some (ad (76 + 4 * i))) (by rw [gW_at (by decide)]; rfl) rfl hin hdg (kk H locs ls hP hS hl0)
theorem G.aldK (C : Gk X ad cc own nl d) {i : Int32} (hin : vp_in i 2) (hdg : decode cc pc = .ok (.aaload, 1)) (kk : G X ad (pc + 1) nl lv (.ref (ad (26 + 21 * i.toNatClampNeg)) :: st) M) : G X ad pc nl lv (.int i :: .ref (ad 1) :: st) M := by
  obtain ⟨p, l, e, R, s, m, args, below, meth, c, Q, A, H0, dd, ca, kc, ks⟩ := X
  obtain ⟨hx, hb, hml, hown, hts, hK, hN, hI, hA, hfr, hlo, hkc, hks⟩ := C
  intro H locs ls hP hS hl0
  exact va_aldq hx hb hK hP 1 2 (n := 2) (f := fun i => some (ad (26 + 21 * i))) (by rw [gW_at (by decide)]; rfl) rfl hin hdg (kk H locs ls hP hS hl0)
theorem G.alenS (C : Gk X ad cc own nl d) {v : Int32} (hv : Int32.ofNat 5 = v) (hdg : decode cc pc = .ok (.arraylength, 1)) (kk : G X ad (pc + 1) nl lv (.int v :: st) M) : G X ad pc nl lv (.ref (ad 75) :: st) M := by
  obtain ⟨p, l, e, R, s, m, args, below, meth, c, Q, A, H0, dd, ca, kc, ks⟩ := X
  obtain ⟨hx, hb, hml, hown, hts, hK, hN, hI, hA, hfr, hlo, hkc, hks⟩ := C
  intro H locs ls hP hS hl0
  exact va_alen hx hb hK hP 75 3 (x := (5, .inr (.inr (.inr (.inr fun i => some (ad (76 + 4 * i))))))) (by rw [gW_at (by decide)]; rfl) rfl hv hdg (kk H locs ls hP hS hl0)
theorem G.get (C : Gk X ad cc own nl d) {T : u_T} {N ci q k index : Nat} {Cn : String} {fs : List Value} {v : Value} (hq : q < 130) (hs : ∀ ca, gShp ad ca q (M.1 q) M.2 = .inr (ci, fs)) (hc : vwCl[ci]? = some (Cn, T, N)) (hin : ∀ w ∈ u_ws Cn T N, w ∈ gTs) (hk : k < N) (hl : Cond.fieldLink own index (T k).1 (T k).2.1 (T k).2.2.1 ∈ gTs) (hv : fs[k]? = some v) (hdg : decode cc pc = .ok (.getfield index, 3)) (kk : G X ad (pc + 3) nl lv (v :: st) M) : G X ad pc nl lv (.ref (ad q) :: st) M := by
  obtain ⟨p, l, e, R, s, m, args, below, meth, c, Q, A, H0, dd, ca, kc, ks⟩ := X
  obtain ⟨hx, hb, hml, hown, hts, hK, hN, hI, hA, hfr, hlo, hkc, hks⟩ := C
  intro H locs ls hP hS hl0
  exact va_get hx hb hts hin hown hK hP q (by rw [gW_at hq, hs]) hc k hk (hts _ hl) (fun _ h => h) hv hdg (kk H locs ls hP hS hl0)
theorem G.put (C : Gk X ad cc own nl d) {T : u_T} {N ci q k index : Nat} {Cn : String} {fs : List Value} {v : Value} {M' : Mem} {ty : FieldType} (ty0 : Nat → FieldType) (hty : ∀ k, k < N → parseFieldDescriptor (T k).2.2.1 = some (ty0 k)) (hnm : ∀ a, a < N → ∀ b, b < N → a ≠ b → (T a).2.1 ≠ (T b).2.1) (hq : q < 130) (hs : ∀ ca, gShp ad ca q (M.1 q) M.2 = .inr (ci, fs)) (hc : vwCl[ci]? = some (Cn, T, N)) (hin : ∀ w ∈ u_ws Cn T N, w ∈ gTs) (hk : k < N) (hl : Cond.fieldLink own index (T k).1 (T k).2.1 (T k).2.2.1 ∈ gTs) (hfin : (T k).2.2.2 = false) (hd : parseFieldDescriptor (T k).2.2.1 = some ty) (hn : narrow ty v = v) (hfit : fits ty v = true) (hlen : k < fs.length) (hM : ∀ ca dd H1, va_P dd vwCl ((gW ad ca M).set q (ad q, .inr (ci, fs.set k v))) H1 → gP ad dd ca M' H1) (hdg : decode cc pc = .ok (.putfield index, 3)) (kk : G X ad (pc + 3) nl lv st M') : G X ad pc nl lv (v :: .ref (ad q) :: st) M := by
  obtain ⟨p, l, e, R, s, m, args, below, meth, c, Q, A, H0, dd, ca, kc, ks⟩ := X
  obtain ⟨hx, hb, hml, hown, hts, hK, hN, hI, hA, hfr, hlo, hkc, hks⟩ := C
  intro H locs ls hP hS hl0
  exact va_put hx hb hts hin ty0 hty hnm hown hK hP (gW_D hI hA) hS q (by rw [gW_at hq, hs]) hc k hk (hts _ hl) (fun _ h => h) hfin hd hn hfit hlen hdg (fun H1 locs1 h1 _ h3 => kk H1 locs1 ls (hM ca dd H1 h1) h3 hl0)
theorem inG0 : ∀ w ∈ u_ws RX0 TX0 2, w ∈ gTs := by
  intro w hw
  exact (gLay0 w hw)
theorem gf0_0 (C : Gk X ad cc own nl d) {q index : Nat} (hq : gIs 10 q) (hl : Cond.fieldLink own index "NineTongues$End" "parts" "[I" ∈ gTs) (hdg : decode cc pc = .ok (.getfield index, 3)) (kk : G X ad (pc + 3) nl lv (.ref (ad (q + 1)) :: st) M) : G X ad pc nl lv (.ref (ad q) :: st) M :=
  G.get C (T := TX0) (k := 0) hq.1 (fun _ => gShp_10 hq) (ci := 0) rfl inG0 (by decide) hl rfl hdg kk
theorem gf0_1 (C : Gk X ad cc own nl d) {q index : Nat} (hq : gIs 10 q) (hl : Cond.fieldLink own index "NineTongues$End" "forms" "[I" ∈ gTs) (hdg : decode cc pc = .ok (.getfield index, 3)) (kk : G X ad (pc + 3) nl lv (.ref (ad (q + 2)) :: st) M) : G X ad pc nl lv (.ref (ad q) :: st) M :=
  G.get C (T := TX0) (k := 1) hq.1 (fun _ => gShp_10 hq) (ci := 0) rfl inG0 (by decide) hl rfl hdg kk
theorem inG1 : ∀ w ∈ u_ws RX1 TX1 10, w ∈ gTs := by
  intro w hw
  exact (gLay1 w hw)
theorem gf1_0 (C : Gk X ad cc own nl d) {q index : Nat} (hq : gIs 11 q) (hl : Cond.fieldLink own index "NineTongues$Lexicon" "tongues" "I" ∈ gTs) (hdg : decode cc pc = .ok (.getfield index, 3)) (kk : G X ad (pc + 3) nl lv (.int (M.1 q 0) :: st) M) : G X ad pc nl lv (.ref (ad q) :: st) M :=
  G.get C (T := TX1) (k := 0) hq.1 (fun _ => gShp_11 hq) (ci := 1) rfl inG1 (by decide) hl rfl hdg kk
theorem gp1_0 (C : Gk X ad cc own nl d) {q index : Nat} {v : Int32} (hq : gIs 11 q) (hl : Cond.fieldLink own index "NineTongues$Lexicon" "tongues" "I" ∈ gTs) {M1 : Mem} (hM : mset M q 0 v = M1) (hdg : decode cc pc = .ok (.putfield index, 3)) (kk : G X ad (pc + 3) nl lv st M1) : G X ad pc nl lv (.int v :: .ref (ad q) :: st) M := by
  subst hM
  exact G.put C (T := TX1) (k := 0) (ty := .int) tyX1 tyX1_ok nmX1 hq.1 (fun _ => gShp_11 hq) (ci := 1) rfl inG1 (by decide) hl rfl (tyX1_ok 0 (by decide)) rfl rfl (by simp) (fun ca dd H1 h => gP_mset hq.1 (by rw [gShp_11 hq]; rfl) h) hdg kk
theorem gf1_1 (C : Gk X ad cc own nl d) {q index : Nat} (hq : gIs 11 q) (hl : Cond.fieldLink own index "NineTongues$Lexicon" "lost" "I" ∈ gTs) (hdg : decode cc pc = .ok (.getfield index, 3)) (kk : G X ad (pc + 3) nl lv (.int (M.1 q 1) :: st) M) : G X ad pc nl lv (.ref (ad q) :: st) M :=
  G.get C (T := TX1) (k := 1) hq.1 (fun _ => gShp_11 hq) (ci := 1) rfl inG1 (by decide) hl rfl hdg kk
theorem gp1_1 (C : Gk X ad cc own nl d) {q index : Nat} {v : Int32} (hq : gIs 11 q) (hl : Cond.fieldLink own index "NineTongues$Lexicon" "lost" "I" ∈ gTs) {M1 : Mem} (hM : mset M q 1 v = M1) (hdg : decode cc pc = .ok (.putfield index, 3)) (kk : G X ad (pc + 3) nl lv st M1) : G X ad pc nl lv (.int v :: .ref (ad q) :: st) M := by
  subst hM
  exact G.put C (T := TX1) (k := 1) (ty := .int) tyX1 tyX1_ok nmX1 hq.1 (fun _ => gShp_11 hq) (ci := 1) rfl inG1 (by decide) hl rfl (tyX1_ok 1 (by decide)) rfl rfl (by simp) (fun ca dd H1 h => gP_mset hq.1 (by rw [gShp_11 hq]; rfl) h) hdg kk
theorem gf1_2 (C : Gk X ad cc own nl d) {q index : Nat} (hq : gIs 11 q) (hl : Cond.fieldLink own index "NineTongues$Lexicon" "added" "I" ∈ gTs) (hdg : decode cc pc = .ok (.getfield index, 3)) (kk : G X ad (pc + 3) nl lv (.int (M.1 q 2) :: st) M) : G X ad pc nl lv (.ref (ad q) :: st) M :=
  G.get C (T := TX1) (k := 2) hq.1 (fun _ => gShp_11 hq) (ci := 1) rfl inG1 (by decide) hl rfl hdg kk
theorem gp1_2 (C : Gk X ad cc own nl d) {q index : Nat} {v : Int32} (hq : gIs 11 q) (hl : Cond.fieldLink own index "NineTongues$Lexicon" "added" "I" ∈ gTs) {M1 : Mem} (hM : mset M q 2 v = M1) (hdg : decode cc pc = .ok (.putfield index, 3)) (kk : G X ad (pc + 3) nl lv st M1) : G X ad pc nl lv (.int v :: .ref (ad q) :: st) M := by
  subst hM
  exact G.put C (T := TX1) (k := 2) (ty := .int) tyX1 tyX1_ok nmX1 hq.1 (fun _ => gShp_11 hq) (ci := 1) rfl inG1 (by decide) hl rfl (tyX1_ok 2 (by decide)) rfl rfl (by simp) (fun ca dd H1 h => gP_mset hq.1 (by rw [gShp_11 hq]; rfl) h) hdg kk
theorem gf1_3 (C : Gk X ad cc own nl d) {q index : Nat} (hq : gIs 11 q) (hl : Cond.fieldLink own index "NineTongues$Lexicon" "must" "[I" ∈ gTs) (hdg : decode cc pc = .ok (.getfield index, 3)) (kk : G X ad (pc + 3) nl lv (.ref (ad (q + 1)) :: st) M) : G X ad pc nl lv (.ref (ad q) :: st) M :=
  G.get C (T := TX1) (k := 3) hq.1 (fun _ => gShp_11 hq) (ci := 1) rfl inG1 (by decide) hl rfl hdg kk
theorem gf1_4 (C : Gk X ad cc own nl d) {q index : Nat} (hq : gIs 11 q) (hl : Cond.fieldLink own index "NineTongues$Lexicon" "can" "[I" ∈ gTs) (hdg : decode cc pc = .ok (.getfield index, 3)) (kk : G X ad (pc + 3) nl lv (.ref (ad (q + 2)) :: st) M) : G X ad pc nl lv (.ref (ad q) :: st) M :=
  G.get C (T := TX1) (k := 4) hq.1 (fun _ => gShp_11 hq) (ci := 1) rfl inG1 (by decide) hl rfl hdg kk
theorem gf1_5 (C : Gk X ad cc own nl d) {q index : Nat} (hq : gIs 11 q) (hl : Cond.fieldLink own index "NineTongues$Lexicon" "leans" "[I" ∈ gTs) (hdg : decode cc pc = .ok (.getfield index, 3)) (kk : G X ad (pc + 3) nl lv (.ref (ad (q + 3)) :: st) M) : G X ad pc nl lv (.ref (ad q) :: st) M :=
  G.get C (T := TX1) (k := 5) hq.1 (fun _ => gShp_11 hq) (ci := 1) rfl inG1 (by decide) hl rfl hdg kk
theorem gf1_6 (C : Gk X ad cc own nl d) {q index : Nat} (hq : gIs 11 q) (hl : Cond.fieldLink own index "NineTongues$Lexicon" "words" "[I" ∈ gTs) (hdg : decode cc pc = .ok (.getfield index, 3)) (kk : G X ad (pc + 3) nl lv (.ref (ad (q + 4)) :: st) M) : G X ad pc nl lv (.ref (ad q) :: st) M :=
  G.get C (T := TX1) (k := 6) hq.1 (fun _ => gShp_11 hq) (ci := 1) rfl inG1 (by decide) hl rfl hdg kk
theorem gf1_7 (C : Gk X ad cc own nl d) {q index : Nat} (hq : gIs 11 q) (hl : Cond.fieldLink own index "NineTongues$Lexicon" "parts" "[I" ∈ gTs) (hdg : decode cc pc = .ok (.getfield index, 3)) (kk : G X ad (pc + 3) nl lv (.ref (ad (q + 5)) :: st) M) : G X ad pc nl lv (.ref (ad q) :: st) M :=
  G.get C (T := TX1) (k := 7) hq.1 (fun _ => gShp_11 hq) (ci := 1) rfl inG1 (by decide) hl rfl hdg kk
theorem gf1_8 (C : Gk X ad cc own nl d) {q index : Nat} (hq : gIs 11 q) (hl : Cond.fieldLink own index "NineTongues$Lexicon" "sounds" "[I" ∈ gTs) (hdg : decode cc pc = .ok (.getfield index, 3)) (kk : G X ad (pc + 3) nl lv (.ref (ad (q + 6)) :: st) M) : G X ad pc nl lv (.ref (ad q) :: st) M :=
  G.get C (T := TX1) (k := 8) hq.1 (fun _ => gShp_11 hq) (ci := 1) rfl inG1 (by decide) hl rfl hdg kk
theorem gf1_9 (C : Gk X ad cc own nl d) {q index : Nat} (hq : gIs 11 q) (hl : Cond.fieldLink own index "NineTongues$Lexicon" "usual" "[I" ∈ gTs) (hdg : decode cc pc = .ok (.getfield index, 3)) (kk : G X ad (pc + 3) nl lv (.ref (ad (q + 7)) :: st) M) : G X ad pc nl lv (.ref (ad q) :: st) M :=
  G.get C (T := TX1) (k := 9) hq.1 (fun _ => gShp_11 hq) (ci := 1) rfl inG1 (by decide) hl rfl hdg kk
theorem inG2 : ∀ w ∈ u_ws RX2 TX2 3, w ∈ gTs := by
  intro w hw
  exact (gLay2 w hw)
theorem gf2_0 (C : Gk X ad cc own nl d) {q index : Nat} (hq : gIs 12 q) (hl : Cond.fieldLink own index "NineTongues$Pairs" "size" "I" ∈ gTs) (hdg : decode cc pc = .ok (.getfield index, 3)) (kk : G X ad (pc + 3) nl lv (.int (M.1 q 0) :: st) M) : G X ad pc nl lv (.ref (ad q) :: st) M :=
  G.get C (T := TX2) (k := 0) hq.1 (fun _ => gShp_12 hq) (ci := 2) rfl inG2 (by decide) hl rfl hdg kk
theorem gp2_0 (C : Gk X ad cc own nl d) {q index : Nat} {v : Int32} (hq : gIs 12 q) (hl : Cond.fieldLink own index "NineTongues$Pairs" "size" "I" ∈ gTs) {M1 : Mem} (hM : mset M q 0 v = M1) (hdg : decode cc pc = .ok (.putfield index, 3)) (kk : G X ad (pc + 3) nl lv st M1) : G X ad pc nl lv (.int v :: .ref (ad q) :: st) M := by
  subst hM
  exact G.put C (T := TX2) (k := 0) (ty := .int) tyX2 tyX2_ok nmX2 hq.1 (fun _ => gShp_12 hq) (ci := 2) rfl inG2 (by decide) hl rfl (tyX2_ok 0 (by decide)) rfl rfl (by simp) (fun ca dd H1 h => gP_mset hq.1 (by rw [gShp_12 hq]; rfl) h) hdg kk
theorem gf2_1 (C : Gk X ad cc own nl d) {q index : Nat} (hq : gIs 12 q) (hl : Cond.fieldLink own index "NineTongues$Pairs" "from" "[I" ∈ gTs) (hdg : decode cc pc = .ok (.getfield index, 3)) (kk : G X ad (pc + 3) nl lv (.ref (ad (q + 1)) :: st) M) : G X ad pc nl lv (.ref (ad q) :: st) M :=
  G.get C (T := TX2) (k := 1) hq.1 (fun _ => gShp_12 hq) (ci := 2) rfl inG2 (by decide) hl rfl hdg kk
theorem gf2_2 (C : Gk X ad cc own nl d) {q index : Nat} (hq : gIs 12 q) (hl : Cond.fieldLink own index "NineTongues$Pairs" "to" "[I" ∈ gTs) (hdg : decode cc pc = .ok (.getfield index, 3)) (kk : G X ad (pc + 3) nl lv (.ref (ad (q + 2)) :: st) M) : G X ad pc nl lv (.ref (ad q) :: st) M :=
  G.get C (T := TX2) (k := 2) hq.1 (fun _ => gShp_12 hq) (ci := 2) rfl inG2 (by decide) hl rfl hdg kk
theorem inG3 : ∀ w ∈ u_ws RX3 TX3 2, w ∈ gTs := by
  intro w hw
  exact (gLay3 w hw)
theorem gf3_0 (C : Gk X ad cc own nl d) {q index : Nat} (hq : gIs 13 q) (hl : Cond.fieldLink own index "NineTongues$Path" "size" "I" ∈ gTs) (hdg : decode cc pc = .ok (.getfield index, 3)) (kk : G X ad (pc + 3) nl lv (.int (M.1 q 0) :: st) M) : G X ad pc nl lv (.ref (ad q) :: st) M :=
  G.get C (T := TX3) (k := 0) hq.1 (fun _ => gShp_13 hq) (ci := 3) rfl inG3 (by decide) hl rfl hdg kk
theorem gp3_0 (C : Gk X ad cc own nl d) {q index : Nat} {v : Int32} (hq : gIs 13 q) (hl : Cond.fieldLink own index "NineTongues$Path" "size" "I" ∈ gTs) {M1 : Mem} (hM : mset M q 0 v = M1) (hdg : decode cc pc = .ok (.putfield index, 3)) (kk : G X ad (pc + 3) nl lv st M1) : G X ad pc nl lv (.int v :: .ref (ad q) :: st) M := by
  subst hM
  exact G.put C (T := TX3) (k := 0) (ty := .int) tyX3 tyX3_ok nmX3 hq.1 (fun _ => gShp_13 hq) (ci := 3) rfl inG3 (by decide) hl rfl (tyX3_ok 0 (by decide)) rfl rfl (by simp) (fun ca dd H1 h => gP_mset hq.1 (by rw [gShp_13 hq]; rfl) h) hdg kk
theorem gf3_1 (C : Gk X ad cc own nl d) {q index : Nat} (hq : gIs 13 q) (hl : Cond.fieldLink own index "NineTongues$Path" "bytes" "[I" ∈ gTs) (hdg : decode cc pc = .ok (.getfield index, 3)) (kk : G X ad (pc + 3) nl lv (.ref (ad (q + 1)) :: st) M) : G X ad pc nl lv (.ref (ad q) :: st) M :=
  G.get C (T := TX3) (k := 1) hq.1 (fun _ => gShp_13 hq) (ci := 3) rfl inG3 (by decide) hl rfl hdg kk
theorem inG4 : ∀ w ∈ u_ws RX4 TX4 5, w ∈ gTs := by
  intro w hw
  exact (gLay4 w hw)
theorem gf4_0 (C : Gk X ad cc own nl d) {q index : Nat} (hq : gIs 14 q) (hl : Cond.fieldLink own index "NineTongues$Rings" "all" "I" ∈ gTs) (hdg : decode cc pc = .ok (.getfield index, 3)) (kk : G X ad (pc + 3) nl lv (.int (M.1 q 0) :: st) M) : G X ad pc nl lv (.ref (ad q) :: st) M :=
  G.get C (T := TX4) (k := 0) hq.1 (fun _ => gShp_14 hq) (ci := 4) rfl inG4 (by decide) hl rfl hdg kk
theorem gp4_0 (C : Gk X ad cc own nl d) {q index : Nat} {v : Int32} (hq : gIs 14 q) (hl : Cond.fieldLink own index "NineTongues$Rings" "all" "I" ∈ gTs) {M1 : Mem} (hM : mset M q 0 v = M1) (hdg : decode cc pc = .ok (.putfield index, 3)) (kk : G X ad (pc + 3) nl lv st M1) : G X ad pc nl lv (.int v :: .ref (ad q) :: st) M := by
  subst hM
  exact G.put C (T := TX4) (k := 0) (ty := .int) tyX4 tyX4_ok nmX4 hq.1 (fun _ => gShp_14 hq) (ci := 4) rfl inG4 (by decide) hl rfl (tyX4_ok 0 (by decide)) rfl rfl (by simp) (fun ca dd H1 h => gP_mset hq.1 (by rw [gShp_14 hq]; rfl) h) hdg kk
theorem gf4_1 (C : Gk X ad cc own nl d) {q index : Nat} (hq : gIs 14 q) (hl : Cond.fieldLink own index "NineTongues$Rings" "home" "I" ∈ gTs) (hdg : decode cc pc = .ok (.getfield index, 3)) (kk : G X ad (pc + 3) nl lv (.int (M.1 q 1) :: st) M) : G X ad pc nl lv (.ref (ad q) :: st) M :=
  G.get C (T := TX4) (k := 1) hq.1 (fun _ => gShp_14 hq) (ci := 4) rfl inG4 (by decide) hl rfl hdg kk
theorem gp4_1 (C : Gk X ad cc own nl d) {q index : Nat} {v : Int32} (hq : gIs 14 q) (hl : Cond.fieldLink own index "NineTongues$Rings" "home" "I" ∈ gTs) {M1 : Mem} (hM : mset M q 1 v = M1) (hdg : decode cc pc = .ok (.putfield index, 3)) (kk : G X ad (pc + 3) nl lv st M1) : G X ad pc nl lv (.int v :: .ref (ad q) :: st) M := by
  subst hM
  exact G.put C (T := TX4) (k := 1) (ty := .int) tyX4 tyX4_ok nmX4 hq.1 (fun _ => gShp_14 hq) (ci := 4) rfl inG4 (by decide) hl rfl (tyX4_ok 1 (by decide)) rfl rfl (by simp) (fun ca dd H1 h => gP_mset hq.1 (by rw [gShp_14 hq]; rfl) h) hdg kk
theorem gf4_2 (C : Gk X ad cc own nl d) {q index : Nat} (hq : gIs 14 q) (hl : Cond.fieldLink own index "NineTongues$Rings" "with" "[I" ∈ gTs) (hdg : decode cc pc = .ok (.getfield index, 3)) (kk : G X ad (pc + 3) nl lv (.ref (ad (q + 1)) :: st) M) : G X ad pc nl lv (.ref (ad q) :: st) M :=
  G.get C (T := TX4) (k := 2) hq.1 (fun _ => gShp_14 hq) (ci := 4) rfl inG4 (by decide) hl rfl hdg kk
theorem gf4_3 (C : Gk X ad cc own nl d) {q index : Nat} (hq : gIs 14 q) (hl : Cond.fieldLink own index "NineTongues$Rings" "astray" "[I" ∈ gTs) (hdg : decode cc pc = .ok (.getfield index, 3)) (kk : G X ad (pc + 3) nl lv (.ref (ad (q + 2)) :: st) M) : G X ad pc nl lv (.ref (ad q) :: st) M :=
  G.get C (T := TX4) (k := 3) hq.1 (fun _ => gShp_14 hq) (ci := 4) rfl inG4 (by decide) hl rfl hdg kk
theorem gf4_4 (C : Gk X ad cc own nl d) {q index : Nat} (hq : gIs 14 q) (hl : Cond.fieldLink own index "NineTongues$Rings" "sets" "[I" ∈ gTs) (hdg : decode cc pc = .ok (.getfield index, 3)) (kk : G X ad (pc + 3) nl lv (.ref (ad (q + 3)) :: st) M) : G X ad pc nl lv (.ref (ad q) :: st) M :=
  G.get C (T := TX4) (k := 4) hq.1 (fun _ => gShp_14 hq) (ci := 4) rfl inG4 (by decide) hl rfl hdg kk
theorem inG5 : ∀ w ∈ u_ws RX5 TX5 7, w ∈ gTs := by
  intro w hw
  exact (gLay5 w hw)
theorem gf5_0 (C : Gk X ad cc own nl d) {q index : Nat} (hq : gIs 15 q) (hl : Cond.fieldLink own index "NineTongues$Route" "faultAt" "I" ∈ gTs) (hdg : decode cc pc = .ok (.getfield index, 3)) (kk : G X ad (pc + 3) nl lv (.int (M.1 q 0) :: st) M) : G X ad pc nl lv (.ref (ad q) :: st) M :=
  G.get C (T := TX5) (k := 0) hq.1 (fun _ => gShp_15 hq) (ci := 5) rfl inG5 (by decide) hl rfl hdg kk
theorem gp5_0 (C : Gk X ad cc own nl d) {q index : Nat} {v : Int32} (hq : gIs 15 q) (hl : Cond.fieldLink own index "NineTongues$Route" "faultAt" "I" ∈ gTs) {M1 : Mem} (hM : mset M q 0 v = M1) (hdg : decode cc pc = .ok (.putfield index, 3)) (kk : G X ad (pc + 3) nl lv st M1) : G X ad pc nl lv (.int v :: .ref (ad q) :: st) M := by
  subst hM
  exact G.put C (T := TX5) (k := 0) (ty := .int) tyX5 tyX5_ok nmX5 hq.1 (fun _ => gShp_15 hq) (ci := 5) rfl inG5 (by decide) hl rfl (tyX5_ok 0 (by decide)) rfl rfl (by simp) (fun ca dd H1 h => gP_mset hq.1 (by rw [gShp_15 hq]; rfl) h) hdg kk
theorem gf5_1 (C : Gk X ad cc own nl d) {q index : Nat} (hq : gIs 15 q) (hl : Cond.fieldLink own index "NineTongues$Route" "count" "I" ∈ gTs) (hdg : decode cc pc = .ok (.getfield index, 3)) (kk : G X ad (pc + 3) nl lv (.int (M.1 q 1) :: st) M) : G X ad pc nl lv (.ref (ad q) :: st) M :=
  G.get C (T := TX5) (k := 1) hq.1 (fun _ => gShp_15 hq) (ci := 5) rfl inG5 (by decide) hl rfl hdg kk
theorem gp5_1 (C : Gk X ad cc own nl d) {q index : Nat} {v : Int32} (hq : gIs 15 q) (hl : Cond.fieldLink own index "NineTongues$Route" "count" "I" ∈ gTs) {M1 : Mem} (hM : mset M q 1 v = M1) (hdg : decode cc pc = .ok (.putfield index, 3)) (kk : G X ad (pc + 3) nl lv st M1) : G X ad pc nl lv (.int v :: .ref (ad q) :: st) M := by
  subst hM
  exact G.put C (T := TX5) (k := 1) (ty := .int) tyX5 tyX5_ok nmX5 hq.1 (fun _ => gShp_15 hq) (ci := 5) rfl inG5 (by decide) hl rfl (tyX5_ok 1 (by decide)) rfl rfl (by simp) (fun ca dd H1 h => gP_mset hq.1 (by rw [gShp_15 hq]; rfl) h) hdg kk
theorem gf5_2 (C : Gk X ad cc own nl d) {q index : Nat} (hq : gIs 15 q) (hl : Cond.fieldLink own index "NineTongues$Route" "awaits" "I" ∈ gTs) (hdg : decode cc pc = .ok (.getfield index, 3)) (kk : G X ad (pc + 3) nl lv (.int (M.1 q 2) :: st) M) : G X ad pc nl lv (.ref (ad q) :: st) M :=
  G.get C (T := TX5) (k := 2) hq.1 (fun _ => gShp_15 hq) (ci := 5) rfl inG5 (by decide) hl rfl hdg kk
theorem gp5_2 (C : Gk X ad cc own nl d) {q index : Nat} {v : Int32} (hq : gIs 15 q) (hl : Cond.fieldLink own index "NineTongues$Route" "awaits" "I" ∈ gTs) {M1 : Mem} (hM : mset M q 2 v = M1) (hdg : decode cc pc = .ok (.putfield index, 3)) (kk : G X ad (pc + 3) nl lv st M1) : G X ad pc nl lv (.int v :: .ref (ad q) :: st) M := by
  subst hM
  exact G.put C (T := TX5) (k := 2) (ty := .int) tyX5 tyX5_ok nmX5 hq.1 (fun _ => gShp_15 hq) (ci := 5) rfl inG5 (by decide) hl rfl (tyX5_ok 2 (by decide)) rfl rfl (by simp) (fun ca dd H1 h => gP_mset hq.1 (by rw [gShp_15 hq]; rfl) h) hdg kk
theorem gf5_3 (C : Gk X ad cc own nl d) {q index : Nat} (hq : gIs 15 q) (hl : Cond.fieldLink own index "NineTongues$Route" "open" "I" ∈ gTs) (hdg : decode cc pc = .ok (.getfield index, 3)) (kk : G X ad (pc + 3) nl lv (.int (M.1 q 3) :: st) M) : G X ad pc nl lv (.ref (ad q) :: st) M :=
  G.get C (T := TX5) (k := 3) hq.1 (fun _ => gShp_15 hq) (ci := 5) rfl inG5 (by decide) hl rfl hdg kk
theorem gp5_3 (C : Gk X ad cc own nl d) {q index : Nat} {v : Int32} (hq : gIs 15 q) (hl : Cond.fieldLink own index "NineTongues$Route" "open" "I" ∈ gTs) {M1 : Mem} (hM : mset M q 3 v = M1) (hdg : decode cc pc = .ok (.putfield index, 3)) (kk : G X ad (pc + 3) nl lv st M1) : G X ad pc nl lv (.int v :: .ref (ad q) :: st) M := by
  subst hM
  exact G.put C (T := TX5) (k := 3) (ty := .int) tyX5 tyX5_ok nmX5 hq.1 (fun _ => gShp_15 hq) (ci := 5) rfl inG5 (by decide) hl rfl (tyX5_ok 3 (by decide)) rfl rfl (by simp) (fun ca dd H1 h => gP_mset hq.1 (by rw [gShp_15 hq]; rfl) h) hdg kk
theorem gf5_4 (C : Gk X ad cc own nl d) {q index : Nat} (hq : gIs 15 q) (hl : Cond.fieldLink own index "NineTongues$Route" "opened" "[I" ∈ gTs) (hdg : decode cc pc = .ok (.getfield index, 3)) (kk : G X ad (pc + 3) nl lv (.ref (ad (q + 1)) :: st) M) : G X ad pc nl lv (.ref (ad q) :: st) M :=
  G.get C (T := TX5) (k := 4) hq.1 (fun _ => gShp_15 hq) (ci := 5) rfl inG5 (by decide) hl rfl hdg kk
theorem gf5_5 (C : Gk X ad cc own nl d) {q index : Nat} (hq : gIs 15 q) (hl : Cond.fieldLink own index "NineTongues$Route" "tongues" "[I" ∈ gTs) (hdg : decode cc pc = .ok (.getfield index, 3)) (kk : G X ad (pc + 3) nl lv (.ref (ad (q + 2)) :: st) M) : G X ad pc nl lv (.ref (ad q) :: st) M :=
  G.get C (T := TX5) (k := 5) hq.1 (fun _ => gShp_15 hq) (ci := 5) rfl inG5 (by decide) hl rfl hdg kk
theorem gf5_6 (C : Gk X ad cc own nl d) {q index : Nat} (hq : gIs 15 q) (hl : Cond.fieldLink own index "NineTongues$Route" "kinds" "[I" ∈ gTs) (hdg : decode cc pc = .ok (.getfield index, 3)) (kk : G X ad (pc + 3) nl lv (.ref (ad (q + 3)) :: st) M) : G X ad pc nl lv (.ref (ad q) :: st) M :=
  G.get C (T := TX5) (k := 6) hq.1 (fun _ => gShp_15 hq) (ci := 5) rfl inG5 (by decide) hl rfl hdg kk
theorem inG6 : ∀ w ∈ u_ws RX6 TX6 5, w ∈ gTs := by
  intro w hw
  exact (gLay6 w hw)
theorem gf6_0 (C : Gk X ad cc own nl d) {q index : Nat} (hq : gIs 16 q) (hl : Cond.fieldLink own index "NineTongues$Rows" "row" "[I" ∈ gTs) (hdg : decode cc pc = .ok (.getfield index, 3)) (kk : G X ad (pc + 3) nl lv (.ref (ad (q + 1)) :: st) M) : G X ad pc nl lv (.ref (ad q) :: st) M :=
  G.get C (T := TX6) (k := 0) hq.1 (fun _ => gShp_16 hq) (ci := 6) rfl inG6 (by decide) hl rfl hdg kk
theorem gf6_1 (C : Gk X ad cc own nl d) {q index : Nat} (hq : gIs 16 q) (hl : Cond.fieldLink own index "NineTongues$Rows" "first" "[I" ∈ gTs) (hdg : decode cc pc = .ok (.getfield index, 3)) (kk : G X ad (pc + 3) nl lv (.ref (ad (q + 2)) :: st) M) : G X ad pc nl lv (.ref (ad q) :: st) M :=
  G.get C (T := TX6) (k := 1) hq.1 (fun _ => gShp_16 hq) (ci := 6) rfl inG6 (by decide) hl rfl hdg kk
theorem gf6_2 (C : Gk X ad cc own nl d) {q index : Nat} (hq : gIs 16 q) (hl : Cond.fieldLink own index "NineTongues$Rows" "states" "[LNineTongues$State;" ∈ gTs) (hdg : decode cc pc = .ok (.getfield index, 3)) (kk : G X ad (pc + 3) nl lv (.ref (ad (q + 3)) :: st) M) : G X ad pc nl lv (.ref (ad q) :: st) M :=
  G.get C (T := TX6) (k := 2) hq.1 (fun _ => gShp_16 hq) (ci := 6) rfl inG6 (by decide) hl rfl hdg kk
theorem gf6_3 (C : Gk X ad cc own nl d) {q index : Nat} (hq : gIs 16 q) (hl : Cond.fieldLink own index "NineTongues$Rows" "size" "I" ∈ gTs) (hdg : decode cc pc = .ok (.getfield index, 3)) (kk : G X ad (pc + 3) nl lv (.int (M.1 q 3) :: st) M) : G X ad pc nl lv (.ref (ad q) :: st) M :=
  G.get C (T := TX6) (k := 3) hq.1 (fun _ => gShp_16 hq) (ci := 6) rfl inG6 (by decide) hl rfl hdg kk
theorem gp6_3 (C : Gk X ad cc own nl d) {q index : Nat} {v : Int32} (hq : gIs 16 q) (hl : Cond.fieldLink own index "NineTongues$Rows" "size" "I" ∈ gTs) {M1 : Mem} (hM : mset M q 3 v = M1) (hdg : decode cc pc = .ok (.putfield index, 3)) (kk : G X ad (pc + 3) nl lv st M1) : G X ad pc nl lv (.int v :: .ref (ad q) :: st) M := by
  subst hM
  exact G.put C (T := TX6) (k := 3) (ty := .int) tyX6 tyX6_ok nmX6 hq.1 (fun _ => gShp_16 hq) (ci := 6) rfl inG6 (by decide) hl rfl (tyX6_ok 3 (by decide)) rfl rfl (by simp) (fun ca dd H1 h => gP_mset hq.1 (by rw [gShp_16 hq]; rfl) h) hdg kk
theorem gf6_4 (C : Gk X ad cc own nl d) {q index : Nat} (hq : gIs 16 q) (hl : Cond.fieldLink own index "NineTongues$Rows" "kind" "I" ∈ gTs) (hdg : decode cc pc = .ok (.getfield index, 3)) (kk : G X ad (pc + 3) nl lv (.int (M.1 q 4) :: st) M) : G X ad pc nl lv (.ref (ad q) :: st) M :=
  G.get C (T := TX6) (k := 4) hq.1 (fun _ => gShp_16 hq) (ci := 6) rfl inG6 (by decide) hl rfl hdg kk
theorem gp6_4 (C : Gk X ad cc own nl d) {q index : Nat} {v : Int32} (hq : gIs 16 q) (hl : Cond.fieldLink own index "NineTongues$Rows" "kind" "I" ∈ gTs) {M1 : Mem} (hM : mset M q 4 v = M1) (hdg : decode cc pc = .ok (.putfield index, 3)) (kk : G X ad (pc + 3) nl lv st M1) : G X ad pc nl lv (.int v :: .ref (ad q) :: st) M := by
  subst hM
  exact G.put C (T := TX6) (k := 4) (ty := .int) tyX6 tyX6_ok nmX6 hq.1 (fun _ => gShp_16 hq) (ci := 6) rfl inG6 (by decide) hl rfl (tyX6_ok 4 (by decide)) rfl rfl (by simp) (fun ca dd H1 h => gP_mset hq.1 (by rw [gShp_16 hq]; rfl) h) hdg kk
theorem inG7 : ∀ w ∈ u_ws RX7 TX7 4, w ∈ gTs := by
  intro w hw
  exact (gLay7 w hw)
theorem gf7_0 (C : Gk X ad cc own nl d) {q index : Nat} (hq : gIs 17 q) (hl : Cond.fieldLink own index "NineTongues$State" "places" "I" ∈ gTs) (hdg : decode cc pc = .ok (.getfield index, 3)) (kk : G X ad (pc + 3) nl lv (.int (M.1 q 0) :: st) M) : G X ad pc nl lv (.ref (ad q) :: st) M :=
  G.get C (T := TX7) (k := 0) hq.1 (fun _ => gShp_17 hq) (ci := 7) rfl inG7 (by decide) hl rfl hdg kk
theorem gp7_0 (C : Gk X ad cc own nl d) {q index : Nat} {v : Int32} (hq : gIs 17 q) (hl : Cond.fieldLink own index "NineTongues$State" "places" "I" ∈ gTs) {M1 : Mem} (hM : mset M q 0 v = M1) (hdg : decode cc pc = .ok (.putfield index, 3)) (kk : G X ad (pc + 3) nl lv st M1) : G X ad pc nl lv (.int v :: .ref (ad q) :: st) M := by
  subst hM
  exact G.put C (T := TX7) (k := 0) (ty := .int) tyX7 tyX7_ok nmX7 hq.1 (fun _ => gShp_17 hq) (ci := 7) rfl inG7 (by decide) hl rfl (tyX7_ok 0 (by decide)) rfl rfl (by simp) (fun ca dd H1 h => gP_mset hq.1 (by rw [gShp_17 hq]; rfl) h) hdg kk
theorem gf7_1 (C : Gk X ad cc own nl d) {q index : Nat} (hq : gIs 17 q) (hl : Cond.fieldLink own index "NineTongues$State" "parts" "[I" ∈ gTs) (hdg : decode cc pc = .ok (.getfield index, 3)) (kk : G X ad (pc + 3) nl lv (.ref (ad (q + 1)) :: st) M) : G X ad pc nl lv (.ref (ad q) :: st) M :=
  G.get C (T := TX7) (k := 1) hq.1 (fun _ => gShp_17 hq) (ci := 7) rfl inG7 (by decide) hl rfl hdg kk
theorem gf7_2 (C : Gk X ad cc own nl d) {q index : Nat} (hq : gIs 17 q) (hl : Cond.fieldLink own index "NineTongues$State" "sounds" "[I" ∈ gTs) (hdg : decode cc pc = .ok (.getfield index, 3)) (kk : G X ad (pc + 3) nl lv (.ref (ad (q + 2)) :: st) M) : G X ad pc nl lv (.ref (ad q) :: st) M :=
  G.get C (T := TX7) (k := 2) hq.1 (fun _ => gShp_17 hq) (ci := 7) rfl inG7 (by decide) hl rfl hdg kk
theorem gf7_3 (C : Gk X ad cc own nl d) {q index : Nat} (hq : gIs 17 q) (hl : Cond.fieldLink own index "NineTongues$State" "forms" "[I" ∈ gTs) (hdg : decode cc pc = .ok (.getfield index, 3)) (kk : G X ad (pc + 3) nl lv (.ref (ad (q + 3)) :: st) M) : G X ad pc nl lv (.ref (ad q) :: st) M :=
  G.get C (T := TX7) (k := 3) hq.1 (fun _ => gShp_17 hq) (ci := 7) rfl inG7 (by decide) hl rfl hdg kk
theorem inG8 : ∀ w ∈ u_ws RX8 TX8 5, w ∈ gTs := by
  intro w hw
  exact (gLay8 w hw)
theorem gf8_0 (C : Gk X ad cc own nl d) {q index : Nat} (hq : gIs 18 q) (hl : Cond.fieldLink own index "NineTongues$Stock" "lexicon" "LNineTongues$Lexicon;" ∈ gTs) (hdg : decode cc pc = .ok (.getfield index, 3)) (kk : G X ad (pc + 3) nl lv (.ref (ad (q + 1)) :: st) M) : G X ad pc nl lv (.ref (ad q) :: st) M :=
  G.get C (T := TX8) (k := 0) hq.1 (fun _ => gShp_18 hq) (ci := 8) rfl inG8 (by decide) hl rfl hdg kk
theorem gf8_1 (C : Gk X ad cc own nl d) {q index : Nat} (hq : gIs 18 q) (hl : Cond.fieldLink own index "NineTongues$Stock" "saying" "LNineTongues$State;" ∈ gTs) (hdg : decode cc pc = .ok (.getfield index, 3)) (kk : G X ad (pc + 3) nl lv (.ref (ad (q + 9)) :: st) M) : G X ad pc nl lv (.ref (ad q) :: st) M :=
  G.get C (T := TX8) (k := 1) hq.1 (fun _ => gShp_18 hq) (ci := 8) rfl inG8 (by decide) hl rfl hdg kk
theorem gf8_2 (C : Gk X ad cc own nl d) {q index : Nat} (hq : gIs 18 q) (hl : Cond.fieldLink own index "NineTongues$Stock" "path" "LNineTongues$Path;" ∈ gTs) (hdg : decode cc pc = .ok (.getfield index, 3)) (kk : G X ad (pc + 3) nl lv (.ref (ad (q + 13)) :: st) M) : G X ad pc nl lv (.ref (ad q) :: st) M :=
  G.get C (T := TX8) (k := 2) hq.1 (fun _ => gShp_18 hq) (ci := 8) rfl inG8 (by decide) hl rfl hdg kk
theorem gf8_3 (C : Gk X ad cc own nl d) {q index : Nat} (hq : gIs 18 q) (hl : Cond.fieldLink own index "NineTongues$Stock" "end" "LNineTongues$End;" ∈ gTs) (hdg : decode cc pc = .ok (.getfield index, 3)) (kk : G X ad (pc + 3) nl lv (.ref (ad (q + 15)) :: st) M) : G X ad pc nl lv (.ref (ad q) :: st) M :=
  G.get C (T := TX8) (k := 3) hq.1 (fun _ => gShp_18 hq) (ci := 8) rfl inG8 (by decide) hl rfl hdg kk
theorem gf8_4 (C : Gk X ad cc own nl d) {q index : Nat} (hq : gIs 18 q) (hl : Cond.fieldLink own index "NineTongues$Stock" "pairs" "LNineTongues$Pairs;" ∈ gTs) (hdg : decode cc pc = .ok (.getfield index, 3)) (kk : G X ad (pc + 3) nl lv (.ref (ad (q + 18)) :: st) M) : G X ad pc nl lv (.ref (ad q) :: st) M :=
  G.get C (T := TX8) (k := 4) hq.1 (fun _ => gShp_18 hq) (ci := 8) rfl inG8 (by decide) hl rfl hdg kk
theorem inG9 : ∀ w ∈ u_ws RX9 TX9 12, w ∈ gTs := by
  intro w hw
  exact (gLay9 w hw)
theorem gf9_0 (C : Gk X ad cc own nl d) {q index : Nat} (hq : gIs 19 q) (hl : Cond.fieldLink own index "NineTongues" "stock" "LNineTongues$Stock;" ∈ gTs) (hdg : decode cc pc = .ok (.getfield index, 3)) (kk : G X ad (pc + 3) nl lv (.ref (ad (q + 5)) :: st) M) : G X ad pc nl lv (.ref (ad q) :: st) M :=
  G.get C (T := TX9) (k := 0) hq.1 (fun _ => gShp_19 hq) (ci := 9) rfl inG9 (by decide) hl rfl hdg kk
theorem gf9_1 (C : Gk X ad cc own nl d) {q index : Nat} (hq : gIs 19 q) (hl : Cond.fieldLink own index "NineTongues" "images" "[LNineTongues$Stock;" ∈ gTs) (hdg : decode cc pc = .ok (.getfield index, 3)) (kk : G X ad (pc + 3) nl lv (.ref (ad (q + 1)) :: st) M) : G X ad pc nl lv (.ref (ad q) :: st) M :=
  G.get C (T := TX9) (k := 1) hq.1 (fun _ => gShp_19 hq) (ci := 9) rfl inG9 (by decide) hl rfl hdg kk
theorem gf9_2 (C : Gk X ad cc own nl d) {q index : Nat} (hq : gIs 19 q) (hl : Cond.fieldLink own index "NineTongues" "kept" "[Z" ∈ gTs) (hdg : decode cc pc = .ok (.getfield index, 3)) (kk : G X ad (pc + 3) nl lv (.ref (ad (q + 2)) :: st) M) : G X ad pc nl lv (.ref (ad q) :: st) M :=
  G.get C (T := TX9) (k := 2) hq.1 (fun _ => gShp_19 hq) (ci := 9) rfl inG9 (by decide) hl rfl hdg kk
theorem gf9_3 (C : Gk X ad cc own nl d) {q index : Nat} (hq : gIs 19 q) (hl : Cond.fieldLink own index "NineTongues" "refusals" "[I" ∈ gTs) (hdg : decode cc pc = .ok (.getfield index, 3)) (kk : G X ad (pc + 3) nl lv (.ref (ad (q + 3)) :: st) M) : G X ad pc nl lv (.ref (ad q) :: st) M :=
  G.get C (T := TX9) (k := 3) hq.1 (fun _ => gShp_19 hq) (ci := 9) rfl inG9 (by decide) hl rfl hdg kk
theorem gf9_4 (C : Gk X ad cc own nl d) {q index : Nat} (hq : gIs 19 q) (hl : Cond.fieldLink own index "NineTongues" "above" "I" ∈ gTs) (hdg : decode cc pc = .ok (.getfield index, 3)) (kk : G X ad (pc + 3) nl lv (.int (M.1 q 4) :: st) M) : G X ad pc nl lv (.ref (ad q) :: st) M :=
  G.get C (T := TX9) (k := 4) hq.1 (fun _ => gShp_19 hq) (ci := 9) rfl inG9 (by decide) hl rfl hdg kk
theorem gp9_4 (C : Gk X ad cc own nl d) {q index : Nat} {v : Int32} (hq : gIs 19 q) (hl : Cond.fieldLink own index "NineTongues" "above" "I" ∈ gTs) {M1 : Mem} (hM : mset M q 4 v = M1) (hdg : decode cc pc = .ok (.putfield index, 3)) (kk : G X ad (pc + 3) nl lv st M1) : G X ad pc nl lv (.int v :: .ref (ad q) :: st) M := by
  subst hM
  exact G.put C (T := TX9) (k := 4) (ty := .int) tyX9 tyX9_ok nmX9 hq.1 (fun _ => gShp_19 hq) (ci := 9) rfl inG9 (by decide) hl rfl (tyX9_ok 4 (by decide)) rfl rfl (by simp) (fun ca dd H1 h => gP_mset hq.1 (by rw [gShp_19 hq]; rfl) h) hdg kk
theorem gf9_5 (C : Gk X ad cc own nl d) {q index : Nat} (hq : gIs 19 q) (hl : Cond.fieldLink own index "NineTongues" "below" "I" ∈ gTs) (hdg : decode cc pc = .ok (.getfield index, 3)) (kk : G X ad (pc + 3) nl lv (.int (M.1 q 5) :: st) M) : G X ad pc nl lv (.ref (ad q) :: st) M :=
  G.get C (T := TX9) (k := 5) hq.1 (fun _ => gShp_19 hq) (ci := 9) rfl inG9 (by decide) hl rfl hdg kk
theorem gp9_5 (C : Gk X ad cc own nl d) {q index : Nat} {v : Int32} (hq : gIs 19 q) (hl : Cond.fieldLink own index "NineTongues" "below" "I" ∈ gTs) {M1 : Mem} (hM : mset M q 5 v = M1) (hdg : decode cc pc = .ok (.putfield index, 3)) (kk : G X ad (pc + 3) nl lv st M1) : G X ad pc nl lv (.int v :: .ref (ad q) :: st) M := by
  subst hM
  exact G.put C (T := TX9) (k := 5) (ty := .int) tyX9 tyX9_ok nmX9 hq.1 (fun _ => gShp_19 hq) (ci := 9) rfl inG9 (by decide) hl rfl (tyX9_ok 5 (by decide)) rfl rfl (by simp) (fun ca dd H1 h => gP_mset hq.1 (by rw [gShp_19 hq]; rfl) h) hdg kk
theorem gf9_6 (C : Gk X ad cc own nl d) {q index : Nat} (hq : gIs 19 q) (hl : Cond.fieldLink own index "NineTongues" "route" "LNineTongues$Route;" ∈ gTs) (hdg : decode cc pc = .ok (.getfield index, 3)) (kk : G X ad (pc + 3) nl lv (.ref (ad (q + 68)) :: st) M) : G X ad pc nl lv (.ref (ad q) :: st) M :=
  G.get C (T := TX9) (k := 6) hq.1 (fun _ => gShp_19 hq) (ci := 9) rfl inG9 (by decide) hl rfl hdg kk
theorem gf9_7 (C : Gk X ad cc own nl d) {q index : Nat} (hq : gIs 19 q) (hl : Cond.fieldLink own index "NineTongues" "rows" "LNineTongues$Rows;" ∈ gTs) (hdg : decode cc pc = .ok (.getfield index, 3)) (kk : G X ad (pc + 3) nl lv (.ref (ad (q + 72)) :: st) M) : G X ad pc nl lv (.ref (ad q) :: st) M :=
  G.get C (T := TX9) (k := 7) hq.1 (fun _ => gShp_19 hq) (ci := 9) rfl inG9 (by decide) hl rfl hdg kk
theorem gf9_8 (C : Gk X ad cc own nl d) {q index : Nat} (hq : gIs 19 q) (hl : Cond.fieldLink own index "NineTongues" "rowsToEnd" "[I" ∈ gTs) (hdg : decode cc pc = .ok (.getfield index, 3)) (kk : G X ad (pc + 3) nl lv (.ref (ad (q + 4)) :: st) M) : G X ad pc nl lv (.ref (ad q) :: st) M :=
  G.get C (T := TX9) (k := 8) hq.1 (fun _ => gShp_19 hq) (ci := 9) rfl inG9 (by decide) hl rfl hdg kk
theorem gf9_9 (C : Gk X ad cc own nl d) {q index : Nat} (hq : gIs 19 q) (hl : Cond.fieldLink own index "NineTongues" "tally" "LNineTongues$Rings;" ∈ gTs) (hdg : decode cc pc = .ok (.getfield index, 3)) (kk : G X ad (pc + 3) nl lv (.ref (ad (q + 96)) :: st) M) : G X ad pc nl lv (.ref (ad q) :: st) M :=
  G.get C (T := TX9) (k := 9) hq.1 (fun _ => gShp_19 hq) (ci := 9) rfl inG9 (by decide) hl rfl hdg kk
theorem gf9_10 (C : Gk X ad cc own nl d) {q index : Nat} (hq : gIs 19 q) (hl : Cond.fieldLink own index "NineTongues" "now" "LNineTongues$State;" ∈ gTs) (hdg : decode cc pc = .ok (.getfield index, 3)) (kk : G X ad (pc + 3) nl lv (.ref (ad (q + 100)) :: st) M) : G X ad pc nl lv (.ref (ad q) :: st) M :=
  G.get C (T := TX9) (k := 10) hq.1 (fun _ => gShp_19 hq) (ci := 9) rfl inG9 (by decide) hl rfl hdg kk
theorem gf9_11 (C : Gk X ad cc own nl d) {q index : Nat} (hq : gIs 19 q) (hl : Cond.fieldLink own index "NineTongues" "then" "LNineTongues$State;" ∈ gTs) (hdg : decode cc pc = .ok (.getfield index, 3)) (kk : G X ad (pc + 3) nl lv (.ref (ad (q + 104)) :: st) M) : G X ad pc nl lv (.ref (ad q) :: st) M :=
  G.get C (T := TX9) (k := 11) hq.1 (fun _ => gShp_19 hq) (ci := 9) rfl inG9 (by decide) hl rfl hdg kk
theorem inG10 : ∀ w ∈ u_ws RX10 TX10 29, w ∈ gTs := by
  intro w hw
  exact (gLay10 w hw)
theorem gf10_0 (C : Gk X ad cc own nl d) {q index : Nat} (hq : gIs 20 q) (hl : Cond.fieldLink own index "NineTonguesModel" "tongues" "[I" ∈ gTs) (hdg : decode cc pc = .ok (.getfield index, 3)) (kk : G X ad (pc + 3) nl lv (.ref (ad (q + 1)) :: st) M) : G X ad pc nl lv (.ref (ad q) :: st) M :=
  G.get C (T := TX10) (k := 0) hq.1 (fun _ => gShp_20 hq) (ci := 10) rfl inG10 (by decide) hl rfl hdg kk
theorem gf10_1 (C : Gk X ad cc own nl d) {q index : Nat} (hq : gIs 20 q) (hl : Cond.fieldLink own index "NineTonguesModel" "places" "[I" ∈ gTs) (hdg : decode cc pc = .ok (.getfield index, 3)) (kk : G X ad (pc + 3) nl lv (.ref (ad (q + 2)) :: st) M) : G X ad pc nl lv (.ref (ad q) :: st) M :=
  G.get C (T := TX10) (k := 1) hq.1 (fun _ => gShp_20 hq) (ci := 10) rfl inG10 (by decide) hl rfl hdg kk
theorem gf10_2 (C : Gk X ad cc own nl d) {q index : Nat} (hq : gIs 20 q) (hl : Cond.fieldLink own index "NineTonguesModel" "bytes" "[I" ∈ gTs) (hdg : decode cc pc = .ok (.getfield index, 3)) (kk : G X ad (pc + 3) nl lv (.ref (ad (q + 3)) :: st) M) : G X ad pc nl lv (.ref (ad q) :: st) M :=
  G.get C (T := TX10) (k := 2) hq.1 (fun _ => gShp_20 hq) (ci := 10) rfl inG10 (by decide) hl rfl hdg kk
theorem gf10_3 (C : Gk X ad cc own nl d) {q index : Nat} (hq : gIs 20 q) (hl : Cond.fieldLink own index "NineTonguesModel" "pairs" "[I" ∈ gTs) (hdg : decode cc pc = .ok (.getfield index, 3)) (kk : G X ad (pc + 3) nl lv (.ref (ad (q + 4)) :: st) M) : G X ad pc nl lv (.ref (ad q) :: st) M :=
  G.get C (T := TX10) (k := 3) hq.1 (fun _ => gShp_20 hq) (ci := 10) rfl inG10 (by decide) hl rfl hdg kk
theorem gf10_4 (C : Gk X ad cc own nl d) {q index : Nat} (hq : gIs 20 q) (hl : Cond.fieldLink own index "NineTonguesModel" "tongue" "[I" ∈ gTs) (hdg : decode cc pc = .ok (.getfield index, 3)) (kk : G X ad (pc + 3) nl lv (.ref (ad (q + 5)) :: st) M) : G X ad pc nl lv (.ref (ad q) :: st) M :=
  G.get C (T := TX10) (k := 4) hq.1 (fun _ => gShp_20 hq) (ci := 10) rfl inG10 (by decide) hl rfl hdg kk
theorem gf10_5 (C : Gk X ad cc own nl d) {q index : Nat} (hq : gIs 20 q) (hl : Cond.fieldLink own index "NineTonguesModel" "word" "[I" ∈ gTs) (hdg : decode cc pc = .ok (.getfield index, 3)) (kk : G X ad (pc + 3) nl lv (.ref (ad (q + 6)) :: st) M) : G X ad pc nl lv (.ref (ad q) :: st) M :=
  G.get C (T := TX10) (k := 5) hq.1 (fun _ => gShp_20 hq) (ci := 10) rfl inG10 (by decide) hl rfl hdg kk
theorem gf10_6 (C : Gk X ad cc own nl d) {q index : Nat} (hq : gIs 20 q) (hl : Cond.fieldLink own index "NineTonguesModel" "path" "[I" ∈ gTs) (hdg : decode cc pc = .ok (.getfield index, 3)) (kk : G X ad (pc + 3) nl lv (.ref (ad (q + 7)) :: st) M) : G X ad pc nl lv (.ref (ad q) :: st) M :=
  G.get C (T := TX10) (k := 6) hq.1 (fun _ => gShp_20 hq) (ci := 10) rfl inG10 (by decide) hl rfl hdg kk
theorem gf10_7 (C : Gk X ad cc own nl d) {q index : Nat} (hq : gIs 20 q) (hl : Cond.fieldLink own index "NineTonguesModel" "pair" "[I" ∈ gTs) (hdg : decode cc pc = .ok (.getfield index, 3)) (kk : G X ad (pc + 3) nl lv (.ref (ad (q + 8)) :: st) M) : G X ad pc nl lv (.ref (ad q) :: st) M :=
  G.get C (T := TX10) (k := 7) hq.1 (fun _ => gShp_20 hq) (ci := 10) rfl inG10 (by decide) hl rfl hdg kk
theorem gf10_8 (C : Gk X ad cc own nl d) {q index : Nat} (hq : gIs 20 q) (hl : Cond.fieldLink own index "NineTonguesModel" "saying" "[I" ∈ gTs) (hdg : decode cc pc = .ok (.getfield index, 3)) (kk : G X ad (pc + 3) nl lv (.ref (ad (q + 9)) :: st) M) : G X ad pc nl lv (.ref (ad q) :: st) M :=
  G.get C (T := TX10) (k := 8) hq.1 (fun _ => gShp_20 hq) (ci := 10) rfl inG10 (by decide) hl rfl hdg kk
theorem gf10_9 (C : Gk X ad cc own nl d) {q index : Nat} (hq : gIs 20 q) (hl : Cond.fieldLink own index "NineTonguesModel" "end" "[I" ∈ gTs) (hdg : decode cc pc = .ok (.getfield index, 3)) (kk : G X ad (pc + 3) nl lv (.ref (ad (q + 10)) :: st) M) : G X ad pc nl lv (.ref (ad q) :: st) M :=
  G.get C (T := TX10) (k := 9) hq.1 (fun _ => gShp_20 hq) (ci := 10) rfl inG10 (by decide) hl rfl hdg kk
theorem gf10_10 (C : Gk X ad cc own nl d) {q index : Nat} (hq : gIs 20 q) (hl : Cond.fieldLink own index "NineTonguesModel" "isKept" "[Z" ∈ gTs) (hdg : decode cc pc = .ok (.getfield index, 3)) (kk : G X ad (pc + 3) nl lv (.ref (ad (q + 11)) :: st) M) : G X ad pc nl lv (.ref (ad q) :: st) M :=
  G.get C (T := TX10) (k := 10) hq.1 (fun _ => gShp_20 hq) (ci := 10) rfl inG10 (by decide) hl rfl hdg kk
theorem gf10_11 (C : Gk X ad cc own nl d) {q index : Nat} (hq : gIs 20 q) (hl : Cond.fieldLink own index "NineTonguesModel" "above" "I" ∈ gTs) (hdg : decode cc pc = .ok (.getfield index, 3)) (kk : G X ad (pc + 3) nl lv (.int (M.1 q 11) :: st) M) : G X ad pc nl lv (.ref (ad q) :: st) M :=
  G.get C (T := TX10) (k := 11) hq.1 (fun _ => gShp_20 hq) (ci := 10) rfl inG10 (by decide) hl rfl hdg kk
theorem gp10_11 (C : Gk X ad cc own nl d) {q index : Nat} {v : Int32} (hq : gIs 20 q) (hl : Cond.fieldLink own index "NineTonguesModel" "above" "I" ∈ gTs) {M1 : Mem} (hM : mset M q 11 v = M1) (hdg : decode cc pc = .ok (.putfield index, 3)) (kk : G X ad (pc + 3) nl lv st M1) : G X ad pc nl lv (.int v :: .ref (ad q) :: st) M := by
  subst hM
  exact G.put C (T := TX10) (k := 11) (ty := .int) tyX10 tyX10_ok nmX10 hq.1 (fun _ => gShp_20 hq) (ci := 10) rfl inG10 (by decide) hl rfl (tyX10_ok 11 (by decide)) rfl rfl (by simp) (fun ca dd H1 h => gP_mset hq.1 (by rw [gShp_20 hq]; rfl) h) hdg kk
theorem gf10_12 (C : Gk X ad cc own nl d) {q index : Nat} (hq : gIs 20 q) (hl : Cond.fieldLink own index "NineTonguesModel" "below" "I" ∈ gTs) (hdg : decode cc pc = .ok (.getfield index, 3)) (kk : G X ad (pc + 3) nl lv (.int (M.1 q 12) :: st) M) : G X ad pc nl lv (.ref (ad q) :: st) M :=
  G.get C (T := TX10) (k := 12) hq.1 (fun _ => gShp_20 hq) (ci := 10) rfl inG10 (by decide) hl rfl hdg kk
theorem gp10_12 (C : Gk X ad cc own nl d) {q index : Nat} {v : Int32} (hq : gIs 20 q) (hl : Cond.fieldLink own index "NineTonguesModel" "below" "I" ∈ gTs) {M1 : Mem} (hM : mset M q 12 v = M1) (hdg : decode cc pc = .ok (.putfield index, 3)) (kk : G X ad (pc + 3) nl lv st M1) : G X ad pc nl lv (.int v :: .ref (ad q) :: st) M := by
  subst hM
  exact G.put C (T := TX10) (k := 12) (ty := .int) tyX10 tyX10_ok nmX10 hq.1 (fun _ => gShp_20 hq) (ci := 10) rfl inG10 (by decide) hl rfl (tyX10_ok 12 (by decide)) rfl rfl (by simp) (fun ca dd H1 h => gP_mset hq.1 (by rw [gShp_20 hq]; rfl) h) hdg kk
theorem gf10_13 (C : Gk X ad cc own nl d) {q index : Nat} (hq : gIs 20 q) (hl : Cond.fieldLink own index "NineTonguesModel" "status" "[I" ∈ gTs) (hdg : decode cc pc = .ok (.getfield index, 3)) (kk : G X ad (pc + 3) nl lv (.ref (ad (q + 12)) :: st) M) : G X ad pc nl lv (.ref (ad q) :: st) M :=
  G.get C (T := TX10) (k := 13) hq.1 (fun _ => gShp_20 hq) (ci := 10) rfl inG10 (by decide) hl rfl hdg kk
theorem gf10_14 (C : Gk X ad cc own nl d) {q index : Nat} (hq : gIs 20 q) (hl : Cond.fieldLink own index "NineTonguesModel" "steps" "I" ∈ gTs) (hdg : decode cc pc = .ok (.getfield index, 3)) (kk : G X ad (pc + 3) nl lv (.int (M.1 q 14) :: st) M) : G X ad pc nl lv (.ref (ad q) :: st) M :=
  G.get C (T := TX10) (k := 14) hq.1 (fun _ => gShp_20 hq) (ci := 10) rfl inG10 (by decide) hl rfl hdg kk
theorem gp10_14 (C : Gk X ad cc own nl d) {q index : Nat} {v : Int32} (hq : gIs 20 q) (hl : Cond.fieldLink own index "NineTonguesModel" "steps" "I" ∈ gTs) {M1 : Mem} (hM : mset M q 14 v = M1) (hdg : decode cc pc = .ok (.putfield index, 3)) (kk : G X ad (pc + 3) nl lv st M1) : G X ad pc nl lv (.int v :: .ref (ad q) :: st) M := by
  subst hM
  exact G.put C (T := TX10) (k := 14) (ty := .int) tyX10 tyX10_ok nmX10 hq.1 (fun _ => gShp_20 hq) (ci := 10) rfl inG10 (by decide) hl rfl (tyX10_ok 14 (by decide)) rfl rfl (by simp) (fun ca dd H1 h => gP_mset hq.1 (by rw [gShp_20 hq]; rfl) h) hdg kk
theorem gf10_15 (C : Gk X ad cc own nl d) {q index : Nat} (hq : gIs 20 q) (hl : Cond.fieldLink own index "NineTonguesModel" "step" "[I" ∈ gTs) (hdg : decode cc pc = .ok (.getfield index, 3)) (kk : G X ad (pc + 3) nl lv (.ref (ad (q + 13)) :: st) M) : G X ad pc nl lv (.ref (ad q) :: st) M :=
  G.get C (T := TX10) (k := 15) hq.1 (fun _ => gShp_20 hq) (ci := 10) rfl inG10 (by decide) hl rfl hdg kk
theorem gf10_16 (C : Gk X ad cc own nl d) {q index : Nat} (hq : gIs 20 q) (hl : Cond.fieldLink own index "NineTonguesModel" "at" "I" ∈ gTs) (hdg : decode cc pc = .ok (.getfield index, 3)) (kk : G X ad (pc + 3) nl lv (.int (M.1 q 16) :: st) M) : G X ad pc nl lv (.ref (ad q) :: st) M :=
  G.get C (T := TX10) (k := 16) hq.1 (fun _ => gShp_20 hq) (ci := 10) rfl inG10 (by decide) hl rfl hdg kk
theorem gp10_16 (C : Gk X ad cc own nl d) {q index : Nat} {v : Int32} (hq : gIs 20 q) (hl : Cond.fieldLink own index "NineTonguesModel" "at" "I" ∈ gTs) {M1 : Mem} (hM : mset M q 16 v = M1) (hdg : decode cc pc = .ok (.putfield index, 3)) (kk : G X ad (pc + 3) nl lv st M1) : G X ad pc nl lv (.int v :: .ref (ad q) :: st) M := by
  subst hM
  exact G.put C (T := TX10) (k := 16) (ty := .int) tyX10 tyX10_ok nmX10 hq.1 (fun _ => gShp_20 hq) (ci := 10) rfl inG10 (by decide) hl rfl (tyX10_ok 16 (by decide)) rfl rfl (by simp) (fun ca dd H1 h => gP_mset hq.1 (by rw [gShp_20 hq]; rfl) h) hdg kk
theorem gf10_17 (C : Gk X ad cc own nl d) {q index : Nat} (hq : gIs 20 q) (hl : Cond.fieldLink own index "NineTonguesModel" "began" "[I" ∈ gTs) (hdg : decode cc pc = .ok (.getfield index, 3)) (kk : G X ad (pc + 3) nl lv (.ref (ad (q + 14)) :: st) M) : G X ad pc nl lv (.ref (ad q) :: st) M :=
  G.get C (T := TX10) (k := 17) hq.1 (fun _ => gShp_20 hq) (ci := 10) rfl inG10 (by decide) hl rfl hdg kk
theorem gf10_18 (C : Gk X ad cc own nl d) {q index : Nat} (hq : gIs 20 q) (hl : Cond.fieldLink own index "NineTonguesModel" "states" "[I" ∈ gTs) (hdg : decode cc pc = .ok (.getfield index, 3)) (kk : G X ad (pc + 3) nl lv (.ref (ad (q + 15)) :: st) M) : G X ad pc nl lv (.ref (ad q) :: st) M :=
  G.get C (T := TX10) (k := 18) hq.1 (fun _ => gShp_20 hq) (ci := 10) rfl inG10 (by decide) hl rfl hdg kk
theorem gf10_19 (C : Gk X ad cc own nl d) {q index : Nat} (hq : gIs 20 q) (hl : Cond.fieldLink own index "NineTonguesModel" "rounds" "[I" ∈ gTs) (hdg : decode cc pc = .ok (.getfield index, 3)) (kk : G X ad (pc + 3) nl lv (.ref (ad (q + 16)) :: st) M) : G X ad pc nl lv (.ref (ad q) :: st) M :=
  G.get C (T := TX10) (k := 19) hq.1 (fun _ => gShp_20 hq) (ci := 10) rfl inG10 (by decide) hl rfl hdg kk
theorem gf10_20 (C : Gk X ad cc own nl d) {q index : Nat} (hq : gIs 20 q) (hl : Cond.fieldLink own index "NineTonguesModel" "tried" "[I" ∈ gTs) (hdg : decode cc pc = .ok (.getfield index, 3)) (kk : G X ad (pc + 3) nl lv (.ref (ad (q + 17)) :: st) M) : G X ad pc nl lv (.ref (ad q) :: st) M :=
  G.get C (T := TX10) (k := 20) hq.1 (fun _ => gShp_20 hq) (ci := 10) rfl inG10 (by decide) hl rfl hdg kk
theorem gf10_21 (C : Gk X ad cc own nl d) {q index : Nat} (hq : gIs 20 q) (hl : Cond.fieldLink own index "NineTonguesModel" "row" "[I" ∈ gTs) (hdg : decode cc pc = .ok (.getfield index, 3)) (kk : G X ad (pc + 3) nl lv (.ref (ad (q + 18)) :: st) M) : G X ad pc nl lv (.ref (ad q) :: st) M :=
  G.get C (T := TX10) (k := 21) hq.1 (fun _ => gShp_20 hq) (ci := 10) rfl inG10 (by decide) hl rfl hdg kk
theorem gf10_22 (C : Gk X ad cc own nl d) {q index : Nat} (hq : gIs 20 q) (hl : Cond.fieldLink own index "NineTonguesModel" "in" "[I" ∈ gTs) (hdg : decode cc pc = .ok (.getfield index, 3)) (kk : G X ad (pc + 3) nl lv (.ref (ad (q + 19)) :: st) M) : G X ad pc nl lv (.ref (ad q) :: st) M :=
  G.get C (T := TX10) (k := 22) hq.1 (fun _ => gShp_20 hq) (ci := 10) rfl inG10 (by decide) hl rfl hdg kk
theorem gf10_23 (C : Gk X ad cc own nl d) {q index : Nat} (hq : gIs 20 q) (hl : Cond.fieldLink own index "NineTonguesModel" "lost" "[I" ∈ gTs) (hdg : decode cc pc = .ok (.getfield index, 3)) (kk : G X ad (pc + 3) nl lv (.ref (ad (q + 20)) :: st) M) : G X ad pc nl lv (.ref (ad q) :: st) M :=
  G.get C (T := TX10) (k := 23) hq.1 (fun _ => gShp_20 hq) (ci := 10) rfl inG10 (by decide) hl rfl hdg kk
theorem gf10_24 (C : Gk X ad cc own nl d) {q index : Nat} (hq : gIs 20 q) (hl : Cond.fieldLink own index "NineTonguesModel" "ringMany" "I" ∈ gTs) (hdg : decode cc pc = .ok (.getfield index, 3)) (kk : G X ad (pc + 3) nl lv (.int (M.1 q 24) :: st) M) : G X ad pc nl lv (.ref (ad q) :: st) M :=
  G.get C (T := TX10) (k := 24) hq.1 (fun _ => gShp_20 hq) (ci := 10) rfl inG10 (by decide) hl rfl hdg kk
theorem gp10_24 (C : Gk X ad cc own nl d) {q index : Nat} {v : Int32} (hq : gIs 20 q) (hl : Cond.fieldLink own index "NineTonguesModel" "ringMany" "I" ∈ gTs) {M1 : Mem} (hM : mset M q 24 v = M1) (hdg : decode cc pc = .ok (.putfield index, 3)) (kk : G X ad (pc + 3) nl lv st M1) : G X ad pc nl lv (.int v :: .ref (ad q) :: st) M := by
  subst hM
  exact G.put C (T := TX10) (k := 24) (ty := .int) tyX10 tyX10_ok nmX10 hq.1 (fun _ => gShp_20 hq) (ci := 10) rfl inG10 (by decide) hl rfl (tyX10_ok 24 (by decide)) rfl rfl (by simp) (fun ca dd H1 h => gP_mset hq.1 (by rw [gShp_20 hq]; rfl) h) hdg kk
theorem gf10_25 (C : Gk X ad cc own nl d) {q index : Nat} (hq : gIs 20 q) (hl : Cond.fieldLink own index "NineTonguesModel" "homeMany" "I" ∈ gTs) (hdg : decode cc pc = .ok (.getfield index, 3)) (kk : G X ad (pc + 3) nl lv (.int (M.1 q 25) :: st) M) : G X ad pc nl lv (.ref (ad q) :: st) M :=
  G.get C (T := TX10) (k := 25) hq.1 (fun _ => gShp_20 hq) (ci := 10) rfl inG10 (by decide) hl rfl hdg kk
theorem gp10_25 (C : Gk X ad cc own nl d) {q index : Nat} {v : Int32} (hq : gIs 20 q) (hl : Cond.fieldLink own index "NineTonguesModel" "homeMany" "I" ∈ gTs) {M1 : Mem} (hM : mset M q 25 v = M1) (hdg : decode cc pc = .ok (.putfield index, 3)) (kk : G X ad (pc + 3) nl lv st M1) : G X ad pc nl lv (.int v :: .ref (ad q) :: st) M := by
  subst hM
  exact G.put C (T := TX10) (k := 25) (ty := .int) tyX10 tyX10_ok nmX10 hq.1 (fun _ => gShp_20 hq) (ci := 10) rfl inG10 (by decide) hl rfl (tyX10_ok 25 (by decide)) rfl rfl (by simp) (fun ca dd H1 h => gP_mset hq.1 (by rw [gShp_20 hq]; rfl) h) hdg kk
theorem gf10_26 (C : Gk X ad cc own nl d) {q index : Nat} (hq : gIs 20 q) (hl : Cond.fieldLink own index "NineTonguesModel" "setOf" "[I" ∈ gTs) (hdg : decode cc pc = .ok (.getfield index, 3)) (kk : G X ad (pc + 3) nl lv (.ref (ad (q + 21)) :: st) M) : G X ad pc nl lv (.ref (ad q) :: st) M :=
  G.get C (T := TX10) (k := 26) hq.1 (fun _ => gShp_20 hq) (ci := 10) rfl inG10 (by decide) hl rfl hdg kk
theorem gf10_27 (C : Gk X ad cc own nl d) {q index : Nat} (hq : gIs 20 q) (hl : Cond.fieldLink own index "NineTonguesModel" "bestCode" "I" ∈ gTs) (hdg : decode cc pc = .ok (.getfield index, 3)) (kk : G X ad (pc + 3) nl lv (.int (M.1 q 27) :: st) M) : G X ad pc nl lv (.ref (ad q) :: st) M :=
  G.get C (T := TX10) (k := 27) hq.1 (fun _ => gShp_20 hq) (ci := 10) rfl inG10 (by decide) hl rfl hdg kk
theorem gp10_27 (C : Gk X ad cc own nl d) {q index : Nat} {v : Int32} (hq : gIs 20 q) (hl : Cond.fieldLink own index "NineTonguesModel" "bestCode" "I" ∈ gTs) {M1 : Mem} (hM : mset M q 27 v = M1) (hdg : decode cc pc = .ok (.putfield index, 3)) (kk : G X ad (pc + 3) nl lv st M1) : G X ad pc nl lv (.int v :: .ref (ad q) :: st) M := by
  subst hM
  exact G.put C (T := TX10) (k := 27) (ty := .int) tyX10 tyX10_ok nmX10 hq.1 (fun _ => gShp_20 hq) (ci := 10) rfl inG10 (by decide) hl rfl (tyX10_ok 27 (by decide)) rfl rfl (by simp) (fun ca dd H1 h => gP_mset hq.1 (by rw [gShp_20 hq]; rfl) h) hdg kk
theorem gf10_28 (C : Gk X ad cc own nl d) {q index : Nat} (hq : gIs 20 q) (hl : Cond.fieldLink own index "NineTonguesModel" "summed" "J" ∈ gTs) (hdg : decode cc pc = .ok (.getfield index, 3)) (kk : G X ad (pc + 3) nl lv (.long M.2 :: st) M) : G X ad pc nl lv (.ref (ad q) :: st) M :=
  G.get C (T := TX10) (k := 28) hq.1 (fun _ => gShp_20 hq) (ci := 10) rfl inG10 (by decide) hl rfl hdg kk
theorem gP_lset {ad : Nat → Nat} {dd : va_G} {ca : Nat → ClassId} {M : Mem} {H : Heap} {q : Nat} {v : Int64} {e : va_E} (hq : gIs 20 q) (he : e = gShp ad ca q (M.1 q) v) (h : va_P dd vwCl ((gW ad ca M).set q (ad q, e)) H) : gP ad dd ca (lset M v) H := by
  rw [gW_set (M := M) (M' := lset M v) hq.1 (by rw [he]; rfl) (fun a h1 h2 => gShp_L a h1 (fun h3 => h2 (gModel_one h3 hq)) v)] at h
  exact h
theorem gp10_28 (C : Gk X ad cc own nl d) {q index : Nat} {v : Int64} (hq : gIs 20 q) (hl : Cond.fieldLink own index "NineTonguesModel" "summed" "J" ∈ gTs) {M1 : Mem} (hM : lset M v = M1) (hdg : decode cc pc = .ok (.putfield index, 3)) (kk : G X ad (pc + 3) nl lv st M1) : G X ad pc nl lv (.long v :: .ref (ad q) :: st) M := by
  subst hM
  exact G.put C (T := TX10) (k := 28) (ty := .long) tyX10 tyX10_ok nmX10 hq.1 (fun _ => gShp_20 hq) (ci := 10) rfl inG10 (by decide) hl rfl (tyX10_ok 28 (by decide)) rfl rfl (by simp) (fun ca dd H1 h => gP_lset hq (by rw [gShp_20 hq]; rfl) h) hdg kk
end GR
