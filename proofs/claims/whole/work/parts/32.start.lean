/-! the start -/
def gM0 : Mem := (fun c => ([(fun i => ([0, 0, 0, 0, 0, 1, 0, 0, 0, 0, 0, 0] : List Int32).getD i 0), (fun _ => 0), (fun _ => 0), (fun _ => 0), (fun _ => 0), (fun i => ([0, 0, 0, 0, 0] : List Int32).getD i 0), (fun i => ([0, 2, 1, 0, 0, 0, 0, 0, 0, 0] : List Int32).getD i 0), (fun _ => 0), (fun _ => 0), (fun _ => 0), (fun _ => 0), (fun _ => 0), (fun _ => 0), (fun _ => 0), (fun i => ([0, 0, 0, 0] : List Int32).getD i 0), (fun _ => 0), (fun _ => 0), (jFill 4 (-1) (fun _ => 0)), (fun i => ([0, 0] : List Int32).getD i 0), (fun _ => 0), (fun i => ([0, 0] : List Int32).getD i 0), (fun _ => 0), (jFill 4 (-2) (fun _ => 0)), (fun i => ([0, 0, 0] : List Int32).getD i 0), (fun _ => 0), (fun _ => 0), (fun i => ([0, 0, 0, 0, 0] : List Int32).getD i 0), (fun i => ([0, 2, 1, 0, 0, 0, 0, 0, 0, 0] : List Int32).getD i 0), (fun _ => 0), (fun _ => 0), (fun _ => 0), (fun _ => 0), (fun _ => 0), (fun _ => 0), (fun _ => 0), (fun i => ([0, 0, 0, 0] : List Int32).getD i 0), (fun _ => 0), (fun _ => 0), (jFill 4 (-1) (fun _ => 0)), (fun i => ([0, 0] : List Int32).getD i 0), (fun _ => 0), (fun i => ([0, 0] : List Int32).getD i 0), (fun _ => 0), (jFill 4 (-2) (fun _ => 0)), (fun i => ([0, 0, 0] : List Int32).getD i 0), (fun _ => 0), (fun _ => 0), (fun i => ([0, 0, 0, 0, 0] : List Int32).getD i 0), (fun i => ([0, 2, 1, 0, 0, 0, 0, 0, 0, 0] : List Int32).getD i 0), (fun _ => 0), (fun _ => 0), (fun _ => 0), (fun _ => 0), (fun _ => 0), (fun _ => 0), (fun _ => 0), (fun i => ([0, 0, 0, 0] : List Int32).getD i 0), (fun _ => 0), (fun _ => 0), (jFill 4 (-1) (fun _ => 0)), (fun i => ([0, 0] : List Int32).getD i 0), (fun _ => 0), (fun i => ([0, 0] : List Int32).getD i 0), (fun _ => 0), (jFill 4 (-2) (fun _ => 0)), (fun i => ([0, 0, 0] : List Int32).getD i 0), (fun _ => 0), (fun _ => 0), (fun i => ([(-1), 0, 0, 0, 0, 0, 0] : List Int32).getD i 0), (fun _ => 0), (fun _ => 0), (fun _ => 0), (fun i => ([0, 0, 0, 0, 0] : List Int32).getD i 0), (fun _ => 0), (fun _ => 0), (fun _ => 0), (fun i => ([0, 0, 0, 0] : List Int32).getD i 0), (fun _ => 0), (fun _ => 0), (jFill 4 (-1) (fun _ => 0)), (fun i => ([0, 0, 0, 0] : List Int32).getD i 0), (fun _ => 0), (fun _ => 0), (jFill 4 (-1) (fun _ => 0)), (fun i => ([0, 0, 0, 0] : List Int32).getD i 0), (fun _ => 0), (fun _ => 0), (jFill 4 (-1) (fun _ => 0)), (fun i => ([0, 0, 0, 0] : List Int32).getD i 0), (fun _ => 0), (fun _ => 0), (jFill 4 (-1) (fun _ => 0)), (fun i => ([0, 0, 0, 0] : List Int32).getD i 0), (fun _ => 0), (fun _ => 0), (jFill 4 (-1) (fun _ => 0)), (fun i => ([0, 0, 0, 0, 0] : List Int32).getD i 0), (fun _ => 0), (fun _ => 0), (fun _ => 0), (fun i => ([0, 0, 0, 0] : List Int32).getD i 0), (fun _ => 0), (fun _ => 0), (jFill 4 (-1) (fun _ => 0)), (fun i => ([0, 0, 0, 0] : List Int32).getD i 0), (fun _ => 0), (fun _ => 0), (jFill 4 (-1) (fun _ => 0)), (fun i => ([0, 0, 0, 0, 0, 0, 0, 0, 0, 0, 0, 0, 1, 0, 0, 0, 0, 0, 0, 0, 0, 0, 0, 0, 0, 0, 0, 0, 0] : List Int32).getD i 0), (fun _ => 0), (fun _ => 0), (fun _ => 0), (fun _ => 0), (fun _ => 0), (fun _ => 0), (fun _ => 0), (fun _ => 0), (upd (upd (upd (upd (upd (upd (upd (upd (upd (upd (fun _ => 0) 6 (-1)) 7 (-1)) 8 (-1)) 9 (-1)) 10 (-1)) 11 (-1)) 12 (-1)) 13 (-1)) 14 (-1)) 15 (-1)), (upd (upd (upd (upd (upd (upd (fun _ => 0) 6 (-2)) 7 (-2)) 8 (-2)) 9 (-2)) 10 2) 11 1), (fun _ => 0), (fun _ => 0), (fun _ => 0), (fun _ => 0), (fun _ => 0), (fun _ => 0), (fun _ => 0), (fun _ => 0), (fun _ => 0), (fun _ => 0), (fun _ => 0)] : List (Nat → Int32)).getD c (fun _ => 0), 0)
def gAd (q q2 : Nat → Nat) : Nat → Nat := fun k => if k < 108 then q k else q2 (k - 108)
set_option maxRecDepth 100000 in
set_option maxHeartbeats 4000000 in
theorem gW0 (ca : Nat → ClassId) (q q2 : Nat → Nat) : gW (gAd q q2) ca gM0 = ch9 ca (gAd q q2) ++ ch10 ca (fun k => gAd q q2 (108 + k)) := by
  rfl
set_option maxRecDepth 100000 in
set_option maxHeartbeats 4000000 in
theorem gStart {Rel : Mem → Prop} (hR0 : Rel gM0) (hL : LawOk Rel) {p : Program} {e : Env} {s : State} {m : MethodId} {below : List Frame} {meth : Method} {c : Code} (l : Launch) {b L : Nat} {xs : Nat → Int32} (hLb : L ≤ 2560) (C0 : lw_At p s m meth c b L xs) : W p l e room_1 s m #[Value.ref b] below meth c s.heap [] 0 0 (lw_Z below #[Value.ref b] s) (entryFrame m ([Value.ref b] : List Value).toArray 4) := by
  obtain ⟨hx, hb, hr, hml, hown, hts, hX, hbl, hlocks, hgv⟩ := id C0
  have hg : ∀ w ∈ gTs, w.before #[Value.ref b] s = true := fun w hw => hts w (List.mem_filter.mp hw).1
  obtain ⟨c0, i0, hKn0⟩ := u_known (C := RX0) (T := TX0) (N := 2) (n := 2) hg inG0 (hg _ k1_134)
  obtain ⟨c1, i1, hKn1⟩ := u_known (C := RX1) (T := TX1) (N := 10) (n := 10) hg inG1 (hg _ k1_31)
  obtain ⟨c2, i2, hKn2⟩ := u_known (C := RX2) (T := TX2) (N := 3) (n := 3) hg inG2 (hg _ k1_152)
  obtain ⟨c3, i3, hKn3⟩ := u_known (C := RX3) (T := TX3) (N := 2) (n := 2) hg inG3 (hg _ k1_116)
  obtain ⟨c4, i4, hKn4⟩ := u_known (C := RX4) (T := TX4) (N := 5) (n := 5) hg inG4 (hg _ k2_16)
  obtain ⟨c5, i5, hKn5⟩ := u_known (C := RX5) (T := TX5) (N := 7) (n := 7) hg inG5 (hg _ k1_197)
  obtain ⟨c6, i6, hKn6⟩ := u_known (C := RX6) (T := TX6) (N := 5) (n := 5) hg inG6 (hg _ k1_228)
  obtain ⟨c7, i7, hKn7⟩ := u_known (C := RX7) (T := TX7) (N := 4) (n := 4) hg inG7 (hg _ k1_76)
  obtain ⟨c8, i8, hKn8⟩ := u_known (C := RX8) (T := TX8) (N := 5) (n := 5) hg inG8 (hg _ k1_25)
  obtain ⟨c9, i9, hKn9⟩ := u_known (C := RX9) (T := TX9) (N := 12) (n := 12) hg inG9 (hg _ k1_17)
  obtain ⟨c10, i10, hKn10⟩ := u_known (C := RX10) (T := TX10) (N := 29) (n := 29) hg inG10 (hg _ k4_92)
  obtain ⟨dd, hKc⟩ : ∃ dd : va_G, ∀ (k : Nat) (q : vw_C), vwCl[k]? = some q → u_Kn s q.1 q.2.1 q.2.2 (dd.1 k) (dd.2 k) := by
    refine ⟨(fun k => ([c0, c1, c2, c3, c4, c5, c6, c7, c8, c9, c10] : List ClassId).getD k 0, fun k => ([i0, i1, i2, i3, i4, i5, i6, i7, i8, i9, i10] : List (Nat → Nat)).getD k (fun _ => 0)), ?_⟩
    intro k q hq
    match k, hq with
    | 0, hq => cases hq; exact hKn0
    | 1, hq => cases hq; exact hKn1
    | 2, hq => cases hq; exact hKn2
    | 3, hq => cases hq; exact hKn3
    | 4, hq => cases hq; exact hKn4
    | 5, hq => cases hq; exact hKn5
    | 6, hq => cases hq; exact hKn6
    | 7, hq => cases hq; exact hKn7
    | 8, hq => cases hq; exact hKn8
    | 9, hq => cases hq; exact hKn9
    | 10, hq => cases hq; exact hKn10
    | k + 11, hq => simp [vwCl] at hq
  obtain ⟨ca, hT⟩ : ∃ ca : Nat → ClassId, ∀ (k : Nat) (q : ClassId × FieldType), (gT ca)[k]? = some q → ArrOfT s q.1 q.2 ∧ va_RA s q.1 q.2 := by
    obtain ⟨a0, k0, b0, f1, f2, f3⟩ := Cond.arrayClass_spec (hg _ k1_74)
    obtain ⟨a1, k1, b1, f4, f5, f6⟩ := Cond.arrayClass_spec (hg _ k1_226)
    have w2 : (Cond.arrayOver (.object "NineTongues$Stock")).before #[Value.ref b] s = true := hts _ (List.mem_append_right _ (show _ ∈ tables_1_1 ++ (tables_1_2 ++ (tables_1_3 ++ (tables_1_4 ++ (tables_1_5 ++ tables_1_6)))) from List.mem_append_left _ (List.mem_of_getElem? (i := 195) (by decide +kernel))))
    have w3 : (Cond.arrayOver (.object "NineTongues$State")).before #[Value.ref b] s = true := hts _ (List.mem_append_right _ (show _ ∈ tables_1_1 ++ (tables_1_2 ++ (tables_1_3 ++ (tables_1_4 ++ (tables_1_5 ++ tables_1_6)))) from List.mem_append_left _ (List.mem_of_getElem? (i := 234) (by decide +kernel))))
    obtain ⟨b2, a2, k2, g1, g2, g3, g4, g5⟩ := Cond.arrayOver_spec w2
    obtain ⟨b3, a3, k3, g6, g7, g8, g9, g10⟩ := Cond.arrayOver_spec w3
    refine ⟨fun k => ([a0, a1, a2, a3] : List ClassId).getD k 0, ?_⟩
    intro k q hq
    match k, hq with
    | 0, hq => cases hq; exact ⟨fun n z => ⟨fun k h => (by cases h), k0, f2, b0, f3⟩, f1⟩
    | 1, hq => cases hq; exact ⟨fun n z => ⟨fun k h => (by cases h), k1, f5, b1, f6⟩, f4⟩
    | 2, hq => cases hq; exact ⟨fun n z => ⟨fun k h => (by cases h), k2, g3, b2, g4⟩, k2, b2, g3, g4, g1, g5⟩
    | 3, hq => cases hq; exact ⟨fun n z => ⟨fun k h => (by cases h), k3, g8, b3, g9⟩, k3, b3, g8, g9, g6, g10⟩
    | k + 4, hq => simp [gT] at hq
  have hK : va_K dd vwCl (gT ca) s := ⟨hKc, hT⟩
  have hAO1 : va_AO "NineTongues$Stock" s := va_AO.of (hts _ (List.mem_append_right _ (show _ ∈ tables_1_1 ++ (tables_1_2 ++ (tables_1_3 ++ (tables_1_4 ++ (tables_1_5 ++ tables_1_6)))) from List.mem_append_left _ (List.mem_of_getElem? (i := 195) (by decide +kernel)))))
  have hAO2 : va_AO "NineTongues$State" s := va_AO.of (hts _ (List.mem_append_right _ (show _ ∈ tables_1_1 ++ (tables_1_2 ++ (tables_1_3 ++ (tables_1_4 ++ (tables_1_5 ++ tables_1_6)))) from List.mem_append_left _ (List.mem_of_getElem? (i := 234) (by decide +kernel)))))
  have hN : gN s := List.forall_mem_cons.mpr ⟨va_Nw.of rfl (hts _ (List.mem_append_right _ (show _ ∈ tables_1_1 ++ (tables_1_2 ++ (tables_1_3 ++ (tables_1_4 ++ (tables_1_5 ++ tables_1_6)))) from List.mem_append_right _ (List.mem_append_left _ (List.mem_of_getElem? (i := 108) (by decide +kernel)))))), List.forall_mem_cons.mpr ⟨va_Nw.of rfl (hts _ (List.mem_append_right _ (show _ ∈ tables_1_1 ++ (tables_1_2 ++ (tables_1_3 ++ (tables_1_4 ++ (tables_1_5 ++ tables_1_6)))) from List.mem_append_right _ (List.mem_append_left _ (List.mem_of_getElem? (i := 192) (by decide +kernel)))))), List.forall_mem_cons.mpr ⟨va_Nw.of rfl (hts _ (List.mem_append_right _ (show _ ∈ tables_1_1 ++ (tables_1_2 ++ (tables_1_3 ++ (tables_1_4 ++ (tables_1_5 ++ tables_1_6)))) from List.mem_append_right _ (List.mem_append_left _ (List.mem_of_getElem? (i := 212) (by decide +kernel)))))), List.forall_mem_cons.mpr ⟨va_Nw.of rfl (hts _ (List.mem_append_right _ (show _ ∈ tables_1_1 ++ (tables_1_2 ++ (tables_1_3 ++ (tables_1_4 ++ (tables_1_5 ++ tables_1_6)))) from List.mem_append_right _ (List.mem_append_right _ (List.mem_append_left _ (List.mem_of_getElem? (i := 73) (by decide +kernel))))))), List.forall_mem_cons.mpr ⟨va_Nw.of rfl (hts _ (List.mem_append_right _ (show _ ∈ tables_1_1 ++ (tables_1_2 ++ (tables_1_3 ++ (tables_1_4 ++ (tables_1_5 ++ tables_1_6)))) from List.mem_append_right _ (List.mem_append_right _ (List.mem_append_right _ (List.mem_append_left _ (List.mem_of_getElem? (i := 73) (by decide +kernel)))))))), List.forall_mem_cons.mpr ⟨va_Nw.of rfl (hts _ (List.mem_append_right _ (show _ ∈ tables_1_1 ++ (tables_1_2 ++ (tables_1_3 ++ (tables_1_4 ++ (tables_1_5 ++ tables_1_6)))) from List.mem_append_right _ (List.mem_append_right _ (List.mem_append_right _ (List.mem_append_left _ (List.mem_of_getElem? (i := 81) (by decide +kernel)))))))), List.forall_mem_cons.mpr ⟨va_Nw.of rfl (hts _ (List.mem_append_right _ (show _ ∈ tables_1_1 ++ (tables_1_2 ++ (tables_1_3 ++ (tables_1_4 ++ (tables_1_5 ++ tables_1_6)))) from List.mem_append_right _ (List.mem_append_right _ (List.mem_append_right _ (List.mem_append_left _ (List.mem_of_getElem? (i := 82) (by decide +kernel)))))))), List.forall_mem_cons.mpr ⟨va_Nw.of rfl (hts _ (List.mem_append_right _ (show _ ∈ tables_1_1 ++ (tables_1_2 ++ (tables_1_3 ++ (tables_1_4 ++ (tables_1_5 ++ tables_1_6)))) from List.mem_append_right _ (List.mem_append_right _ (List.mem_append_right _ (List.mem_append_left _ (List.mem_of_getElem? (i := 90) (by decide +kernel)))))))), fun _ h => absurd h List.not_mem_nil⟩⟩⟩⟩⟩⟩⟩⟩
  have hNI : gNI s := List.forall_mem_cons.mpr ⟨va_Nw.of rfl (hts _ (List.mem_append_right _ (show _ ∈ tables_1_1 ++ (tables_1_2 ++ (tables_1_3 ++ (tables_1_4 ++ (tables_1_5 ++ tables_1_6)))) from List.mem_append_left _ (List.mem_of_getElem? (i := 26) (by decide +kernel))))), List.forall_mem_cons.mpr ⟨va_Nw.of rfl (hts _ (List.mem_append_right _ (show _ ∈ tables_1_1 ++ (tables_1_2 ++ (tables_1_3 ++ (tables_1_4 ++ (tables_1_5 ++ tables_1_6)))) from List.mem_append_left _ (List.mem_of_getElem? (i := 32) (by decide +kernel))))), List.forall_mem_cons.mpr ⟨va_Nw.of rfl (hts _ (List.mem_append_right _ (show _ ∈ tables_1_1 ++ (tables_1_2 ++ (tables_1_3 ++ (tables_1_4 ++ (tables_1_5 ++ tables_1_6)))) from List.mem_append_left _ (List.mem_of_getElem? (i := 117) (by decide +kernel))))), List.forall_mem_cons.mpr ⟨va_Nw.of rfl (hts _ (List.mem_append_right _ (show _ ∈ tables_1_1 ++ (tables_1_2 ++ (tables_1_3 ++ (tables_1_4 ++ (tables_1_5 ++ tables_1_6)))) from List.mem_append_left _ (List.mem_of_getElem? (i := 153) (by decide +kernel))))), List.forall_mem_cons.mpr ⟨va_Nw.of rfl (hts _ (List.mem_append_right _ (show _ ∈ tables_1_1 ++ (tables_1_2 ++ (tables_1_3 ++ (tables_1_4 ++ (tables_1_5 ++ tables_1_6)))) from List.mem_append_left _ (List.mem_of_getElem? (i := 198) (by decide +kernel))))), List.forall_mem_cons.mpr ⟨va_Nw.of rfl (hts _ (List.mem_append_right _ (show _ ∈ tables_1_1 ++ (tables_1_2 ++ (tables_1_3 ++ (tables_1_4 ++ (tables_1_5 ++ tables_1_6)))) from List.mem_append_right _ (List.mem_append_left _ (List.mem_of_getElem? (i := 17) (by decide +kernel)))))), fun _ h => absurd h List.not_mem_nil⟩⟩⟩⟩⟩⟩
  have C : Jk (p, l, e, room_1, s, m, #[Value.ref b], below, meth, c, lw_Z below #[Value.ref b] s, (fun q : Nat => s.heap.size ≤ q), s.heap, dd) ca cL_law "NineTonguesLaw" 4 10 600000 7302250 :=
    ⟨hx, hb, hml, hown, hg, ⟨hK, hAO1, hAO2, hNI⟩, fun _ h => h, Nat.le_of_ble_eq_true rfl, Nat.le_of_ble_eq_true rfl, Nat.le_refl _, Nat.le_refl _⟩
  rw [lg_entry_eq]
  refine (show J (p, l, e, room_1, s, m, #[Value.ref b], below, meth, c, lw_Z below #[Value.ref b] s, (fun q : Nat => s.heap.size ≤ q), s.heap, dd) 0 0 0 4 [(0, .ref b)] [] [] from ?_) s.heap [] _ (fun k q h => by simp at h) ⟨fun i j p q h => by simp at h, fun k q h => by simp at h⟩ va_S.rf (lv_entry ([.ref b]) (n := 4) (Nat.le_of_ble_eq_true rfl))
  refine J.new (fs := [.null, .null, .null, .null, .int 0, .int 0, .null, .null, .null, .null, .null, .null]) C inG9 tyX9 tyX9_ok k1_16 k1_17 k1_1 (ci := 9) rfl (fun j hj => by match j, hj with | 0, _ => rfl | 1, _ => rfl | 2, _ => rfl | 3, _ => rfl | 4, _ => rfl | 5, _ => rfl | 6, _ => rfl | 7, _ => rfl | 8, _ => rfl | 9, _ => rfl | 10, _ => rfl | 11, _ => rfl | k + 12, h => exact absurd h (by omega)) (Nat.le_of_ble_eq_true rfl) (Nat.le_of_ble_eq_true rfl) dL_law_0 (fun a => ?_)
  refine J.wsE (ws' := [(a, .inr (9, [.null, .null, .null, .null, .int 0, .int 0, .null, .null, .null, .null, .null, .null]))]) rfl ?_
  refine J.dup C dL_law_3 rfl ?_
  refine J.callI (wr := []) C [0] [] (ci_X9_init ca a) k1_19 k1_1 k1_20 k1_18 ⟨rfl, by decide +kernel, by decide +kernel, by decide +kernel⟩ (by decide) rfl (by decide) rfl (by decide) (by decide) (Nat.le_of_ble_eq_true rfl) (by decide) (Nat.le_of_ble_eq_true rfl) (Nat.le_of_ble_eq_true rfl) dL_law_4 (fun w1 hp => ?_)
  obtain ⟨q, hq, rfl⟩ := hp
  subst hq
  refine J.wsE (ws' := ch9 ca q) rfl ?_
  refine J.astore_n (lv' := [(1, .ref (q 0)), (0, .ref b)]) C dL_law_7 rfl (by decide) rfl ?_
  refine J.new (fs := [.null, .null, .null, .null, .null, .null, .null, .null, .null, .null, .null, .int 0, .int 0, .null, .int 0, .null, .int 0, .null, .null, .null, .null, .null, .null, .null, .int 0, .int 0, .null, .int 0, .long 0]) C inG10 tyX10 tyX10_ok k4_91 k4_92 k1_12 (ci := 10) rfl (fun j hj => by match j, hj with | 0, _ => rfl | 1, _ => rfl | 2, _ => rfl | 3, _ => rfl | 4, _ => rfl | 5, _ => rfl | 6, _ => rfl | 7, _ => rfl | 8, _ => rfl | 9, _ => rfl | 10, _ => rfl | 11, _ => rfl | 12, _ => rfl | 13, _ => rfl | 14, _ => rfl | 15, _ => rfl | 16, _ => rfl | 17, _ => rfl | 18, _ => rfl | 19, _ => rfl | 20, _ => rfl | 21, _ => rfl | 22, _ => rfl | 23, _ => rfl | 24, _ => rfl | 25, _ => rfl | 26, _ => rfl | 27, _ => rfl | 28, _ => rfl | k + 29, h => exact absurd h (by omega)) (Nat.le_of_ble_eq_true rfl) (Nat.le_of_ble_eq_true rfl) dL_law_8 (fun a2 => ?_)
  refine J.dup C dL_law_11 rfl ?_
  refine J.callI (wr := ch9 ca q) C [108] [0, 1, 2, 3, 4, 5, 6, 7, 8, 9, 10, 11, 12, 13, 14, 15, 16, 17, 18, 19, 20, 21, 22, 23, 24, 25, 26, 27, 28, 29, 30, 31, 32, 33, 34, 35, 36, 37, 38, 39, 40, 41, 42, 43, 44, 45, 46, 47, 48, 49, 50, 51, 52, 53, 54, 55, 56, 57, 58, 59, 60, 61, 62, 63, 64, 65, 66, 67, 68, 69, 70, 71, 72, 73, 74, 75, 76, 77, 78, 79, 80, 81, 82, 83, 84, 85, 86, 87, 88, 89, 90, 91, 92, 93, 94, 95, 96, 97, 98, 99, 100, 101, 102, 103, 104, 105, 106, 107] (ci_X10_init ca a2) k4_94 k1_12 k4_95 k4_93 ⟨rfl, by decide +kernel, by decide +kernel, by decide +kernel⟩ (by decide) rfl (by decide) rfl (by decide) (by decide) (Nat.le_of_ble_eq_true rfl) (by decide) (Nat.le_of_ble_eq_true rfl) (Nat.le_of_ble_eq_true rfl) dL_law_12 (fun w1 hp => ?_)
  obtain ⟨q2, hq2, rfl⟩ := hp
  subst hq2
  refine J.astore_n (lv' := [(2, .ref (q2 0)), (1, .ref (q 0)), (0, .ref b)]) C dL_law_15 rfl (by decide) rfl ?_
  refine J.iconst (v := 0) C dL_law_16 (by decide) ?_
  refine J.istore_n (lv' := [(3, .int 0), (2, .ref (q2 0)), (1, .ref (q 0)), (0, .ref b)]) C dL_law_17 rfl (by decide) rfl ?_
  refine J.sub (lv' := [(0, .ref b), (1, .ref (q 0)), (2, .ref (q2 0)), (3, .int 0)]) [3, 2, 1, 0] rfl ?_
  refine J.arrq (g := fun i => some (gAd q q2 (26 + 21 * i))) 1 rfl (fun j hj => by match j, hj with | 0, _ => rfl | 1, _ => rfl | k + 2, h => exact absurd h (by omega)) rfl ?_
  refine J.arrq (g := fun i => some (gAd q q2 (76 + 4 * i))) (ws' := ch9 ca (gAd q q2) ++ ch10 ca (fun k => gAd q q2 (108 + k))) 75 rfl (fun j hj => by match j, hj with | 0, _ => rfl | 1, _ => rfl | 2, _ => rfl | 3, _ => rfl | 4, _ => rfl | k + 5, h => exact absurd h (by omega)) rfl ?_
  intro H locs ls hP hD hS hl
  rw [← gW0 ca q q2] at hP hD
  generalize had : gAd q q2 = ad at hP hD
  have e1 : ad 0 = q 0 := by rw [← had]; rfl
  have e2 : ad 108 = q2 0 := by rw [← had]; rfl
  have hI : gInj ad := fun i j h1 h2 h => hD.1 i j _ _ (gW_at h1) (gW_at h2) h
  have hAd : ∀ j, j < 130 → s.heap.size ≤ ad j := fun j hj => hD.2 j _ (gW_at hj)
  refine W.widen (k := 600000) (n := 7302250) (Nat.le_of_ble_eq_true rfl) (Nat.le_of_ble_eq_true rfl) ?_
  have hl : lv_has ls 4 [(0, .ref b), (1, .ref (ad 0)), (2, .ref (ad 108)), (3, .int (nI 0))] := by rw [e1, e2]; exact hl
  have CG : Gk (p, l, e, room_1, s, m, #[Value.ref b], below, meth, c, lw_Z below #[Value.ref b] s, (fun q : Nat => s.heap.size ≤ q), s.heap, dd, ca, 600000, 7302250) ad cL_law "NineTonguesLaw" 4 10 :=
    ⟨hx, hb, hml, hown, hg, hK, hN, hI, hAd, Nat.le_of_ble_eq_true rfl, Nat.le_of_ble_eq_true rfl, Nat.le_refl _, Nat.le_refl _⟩
  exact law_loop hL hLb CG (show Gs (p, l, e, room_1, s, m, #[Value.ref b], below, meth, c, lw_Z below #[Value.ref b] s, (fun q : Nat => s.heap.size ≤ q), s.heap, dd, ca, 600000, 7302250) b L xs from ⟨hX, hbl, Nat.not_le.mpr hbl⟩) (show Gl (p, l, e, room_1, s, m, #[Value.ref b], below, meth, c, lw_Z below #[Value.ref b] s, (fun q : Nat => s.heap.size ≤ q), s.heap, dd, ca, 600000, 7302250) b from ⟨rfl, rfl, hr, hlocks, rfl, rfl, rfl, rfl, rfl⟩) (L + 5) 0 gM0 (by omega) (by omega) hR0 H locs ls hP hS hl

