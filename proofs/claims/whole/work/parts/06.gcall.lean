/-! calls, returns, contracts over G -/
def gMV (y : MethodName) (cc : ByteArray) (maxL : Nat) (rt : Option FieldType) (n : Nat) : Prop := Cond.instanceMethod y ∈ gTs ∧ Cond.selects y.cls y y ∈ gTs ∧ Cond.initialized y.cls ∈ gTs ∧ Cond.code y cc maxL rt ∈ gTs ∧ (y.cls ≠ "java/lang/invoke/MethodHandle" ∧ y.cls ≠ "java/lang/invoke/VarHandle" ∧ (parseMethodDescriptor y.desc).map (fun d => d.parameters.length) = some n) ∧ maxL ≤ 21
def gMS (y : MethodName) (cc : ByteArray) (maxL : Nat) (rt : Option FieldType) (n : Nat) : Prop := Cond.static y ∈ gTs ∧ Cond.initialized y.cls ∈ gTs ∧ Cond.code y cc maxL rt ∈ gTs ∧ (y.cls ≠ "java/lang/invoke/MethodHandle" ∧ y.cls ≠ "java/lang/invoke/VarHandle" ∧ (parseMethodDescriptor y.desc).map (fun d => d.parameters.length) = some n) ∧ maxL ≤ 21
theorem gGood {w : Cond} (h : w ∈ gTs) : w ∈ gTs ∧ ((w.onTables && w.keeps) = true ∨ ∃ ty, w = .arrayClass ty) := ⟨h, good_of_word (List.mem_filter.mp h).2⟩
theorem gGoodWs {y : MethodName} {cc : ByteArray} {maxL : Nat} {rt : Option FieldType} (h : Cond.code y cc maxL rt ∈ gTs) : GoodIn gTs (Cond.code y cc maxL rt :: gTs) := by
  intro w hw
  rcases List.mem_cons.mp hw with rfl | hw
  · exact gGood h
  · exact gGood hw
theorem gWdBlind {ad : Nat → Nat} {dd : va_G} {ca : Nat → ClassId} {M : Mem} {as : List Value} : FrameBlind (va_Pc as (Wd ad dd ca M)) := fun a U g mk q => by
  obtain ⟨q0, hI, hP, hK, hN⟩ := q
  exact ⟨q0, hI, hP, va_K.moved (u := U) (U := U.calling g mk a) (Vm.Alike.refl U.vm) hK, gN_same (u := U) rfl hN⟩
section GC
variable {X : Gc} {ad : Nat → Nat} {cc : ByteArray} {own : String} {nl d pc : Nat} {lv lv' : List (Nat × Value)} {st : List Value} {M : Mem}
/-- behind a call -/
theorem gBack {p : Program} {l : Launch} {e : Env} {R : Room} {s : State} {m : MethodId} {args : Array Value} {below : List Frame} {meth : Method} {c : Code} {H H0 : Heap} {locs : List Loc} {kc ks : Nat} {Q : State → Prop} {ls : Array Slot} {st0 rest : List Value} {A : Nat → Prop} {dd : va_G} {ca : Nat → ClassId} {v : Option Value} {M' : Mem} {a : Array Value}
    (hA : ∀ j, j < 130 → A (ad j)) (hS : va_S A H0 H locs) (hl : lv_has ls nl lv) (hr : va_Run p l e R s m args below meth c H locs kc ks 0 0 (F0 m pc ls st0) rest (gQ ad dd ca v M' a) (gA ad))
    (kk : G (p, l, e, R, s, m, args, below, meth, c, Q, A, H0, dd, ca, kc, ks) ad (pc + 3) nl lv (v.toList ++ rest) M') : W p l e R s m args below meth c H locs kc ks Q (F0 m pc ls st0) := by
  intro T hT Z
  obtain ⟨v', st₀, t, T', L, h0, Z', hL, e1, e2, ⟨hv, hP1, hz, hk⟩, hst⟩ := hr T hT Z
  cases hv
  rw [h0] at hz hk
  have hf : ∀ q, gA ad q → A q := fun q ⟨j, h1, h2⟩ => by rw [h2]; exact hA j h1
  obtain ⟨t2, a1, b1⟩ := kk T'.heap (locs ++ L) ls (by rw [e1]; exact hP1)
    ⟨Nat.le_trans hS.1 (by rw [e1]; exact hz), fun q h1 h2 => by rw [e1, hk q (Nat.lt_of_lt_of_le h1 hS.1) (fun z => h2 (hf q z))]; exact hS.2.1 q h1 h2, fun q hq => by
      rcases List.mem_append.mp hq with h | h
      · exact hS.2.2 q h
      · exact hf _ (hL q h)⟩ hl T' rfl Z'
  exact ⟨t2, hst t2 a1, b1⟩
theorem gPre {s : State} {H : Heap} {dd : va_G} {ca : Nat → ClassId} (hI : gInj ad) (hP : gP ad dd ca M H) (hK : va_K dd vwCl (gT ca) s) (hN : gN s) {as : List Value} : ∀ U : State, U.heap = H → s.WarmedH U.vm → va_Pc as (Wd ad dd ca M) as.toArray U :=
  fun U hU hW => ⟨rfl, hI, by rw [hU]; exact hP, va_K.moved hW.alike hK, gN_warm hW hN⟩
theorem G.callV (C : Gk X ad cc own nl d) {y : MethodName} {bytes : ByteArray} {maxL d' n index q ci : Nat} {rt : Option FieldType} {as : (Nat → Nat) → List Value} {v : Option Value} {M' : Mem} (As rest : List Value) {fs : List Value} {cl0 : vw_C} (hM : Ct y bytes maxL rt d' as M v M') (hy : gMV y bytes maxL rt n) (hl : Cond.methodLink own index y ∈ gTs)
    (hq : q < 130) (hs : ∀ ca, gShp ad ca q (M.1 q) M.2 = .inr (ci, fs)) (hc : vwCl[ci]? = some cl0) (hcl : cl0.1 = y.cls) (ha : as ad = .ref (ad q) :: As) (hn : As.length = n) (hst : st = As.reverse ++ .ref (ad q) :: rest) (hcat : (rest.map fun v => v.category).sum ≤ 8) (hd : d' + 1 ≤ d)
    (hdg : decode cc pc = .ok (.invokevirtual index, 3)) {st1 : List Value} (hs1 : v.toList ++ rest = st1) (kk : G X ad (pc + 3) nl lv st1 M') : G X ad pc nl lv st M := by
  subst hs1
  obtain ⟨p, l, e, R, s, m, args, below, meth, c, Q, A, H0, dd, ca, kc, ks⟩ := X
  obtain ⟨hx, hb, hml, hown, hts, hK, hN, hI, hA, hfr, hlo, hkc, hks⟩ := C
  intro H locs ls hP hS hl0
  obtain ⟨h1, h2, h3, h4, h5, h6⟩ := hy
  have hM' := hM l ad dd ca
  rw [ha] at hM'
  refine gBack hA hS hl0 (va_runV (As := As) (rest := rest) ⟨hx, hb, hml, hown, hts⟩ hM' (cwV (C := y.cls) n hts (fun w hw => ?_) rfl rfl rfl ⟨rfl, h5⟩ ⟨?_, ?_⟩) ⟨gWdBlind, ?_, gPre hI hP hK hN⟩ rfl hn hl0.1 hst (lv_room hcat) hdg ⟨hkc, hks⟩) kk
  · simp only [wsV, List.mem_append, List.mem_cons, List.not_mem_nil, or_false] at hw
    rcases hw with (rfl | rfl | rfl | rfl) | (rfl | hw)
    · exact gGood hl
    · exact gGood h1
    · exact gGood h2
    · exact gGood h3
    · exact gGood h4
    · exact gGood hw
  · show d' + 1 ≤ R.frames; omega
  · show 8 + (maxL + 11) + 40 * d' ≤ R.locals; omega
  · rw [← hcl]
    exact va_recv hK hP hc (q0 := q) (by rw [gW_at hq, hs])
theorem G.callS (C : Gk X ad cc own nl d) {y : MethodName} {bytes : ByteArray} {maxL d' n index : Nat} {rt : Option FieldType} {as : (Nat → Nat) → List Value} {v : Option Value} {M' : Mem} (As rest : List Value) (hM : Ct y bytes maxL rt d' as M v M') (hy : gMS y bytes maxL rt n) (hl : Cond.methodLink own index y ∈ gTs)
    (ha : as ad = As) (hn : As.length = n) (hst : st = As.reverse ++ rest) (hcat : (rest.map fun v => v.category).sum ≤ 8) (hd : d' + 1 ≤ d)
    (hdg : decode cc pc = .ok (.invokestatic index, 3)) {st1 : List Value} (hs1 : v.toList ++ rest = st1) (kk : G X ad (pc + 3) nl lv st1 M') : G X ad pc nl lv st M := by
  subst hs1
  obtain ⟨p, l, e, R, s, m, args, below, meth, c, Q, A, H0, dd, ca, kc, ks⟩ := X
  obtain ⟨hx, hb, hml, hown, hts, hK, hN, hI, hA, hfr, hlo, hkc, hks⟩ := C
  intro H locs ls hP hS hl0
  obtain ⟨h1, h3, h4, h5, h6⟩ := hy
  have hM' := hM l ad dd ca
  rw [ha] at hM'
  refine gBack hA hS hl0 (va_runS (As := As) (rest := rest) ⟨hx, hb, hml, hown, hts⟩ hM' (va_cwS n hts (fun w hw => ?_) rfl rfl rfl h5 ⟨?_, ?_⟩) ⟨gWdBlind, gPre hI hP hK hN⟩ rfl hn hl0.1 hst (lv_room hcat) hdg ⟨hkc, hks⟩) kk
  · simp only [va_wsS, List.mem_append, List.mem_cons, List.not_mem_nil, or_false] at hw
    rcases hw with (rfl | rfl | rfl) | (rfl | hw)
    · exact gGood hl
    · exact gGood h1
    · exact gGood h3
    · exact gGood h4
    · exact gGood hw
  · show d' + 1 ≤ R.frames; omega
  · show 8 + (maxL + 11) + 40 * d' ≤ R.locals; omega
theorem G.callN (C : Gk X ad cc own nl d) {y : MethodName} {bytes : ByteArray} {maxL d' n index : Nat} {host : String} {rt : Option FieldType} {as : (Nat → Nat) → List Value} {v : Option Value} {M' : Mem} (As rest : List Value) (hM : Ct y bytes maxL rt d' as M v M') (hy : gMS y bytes maxL rt n) (hl : (own, index, y, host) ∈ gNest)
    (ha : as ad = As) (hn : As.length = n) (hst : st = As.reverse ++ rest) (hcat : (rest.map fun v => v.category).sum ≤ 8) (hd : d' + 1 ≤ d)
    (hdg : decode cc pc = .ok (.invokestatic index, 3)) {st1 : List Value} (hs1 : v.toList ++ rest = st1) (kk : G X ad (pc + 3) nl lv st1 M') : G X ad pc nl lv st M := by
  subst hs1
  obtain ⟨p, l, e, R, s, m, args, below, meth, c, Q, A, H0, dd, ca, kc, ks⟩ := X
  obtain ⟨hx, hb, hml, hown, hts, hK, hN, hI, hA, hfr, hlo, hkc, hks⟩ := C
  intro H locs ls hP hS hl0
  obtain ⟨h1, h3, h4, h5, h6⟩ := hy
  have hM' := hM l ad dd ca
  rw [ha] at hM'
  refine gBack hA hS hl0 (va_runSN (As := As) (rest := rest) ⟨hx, hb, hml, hown, hts⟩ hM' ⟨va_cnB (host := host) n hts (gGoodWs h4) rfl rfl rfl (hN _ hl) (hts _ h3) h5 ⟨?_, ?_⟩, hts _ h1, trivial⟩ ⟨gWdBlind, gPre hI hP hK hN⟩ rfl hn hl0.1 hst (lv_room hcat) hdg ⟨hkc, hks⟩) kk
  · show d' + 1 ≤ R.frames; omega
  · show 8 + (maxL + 11) + 40 * d' ≤ R.locals; omega
theorem G.iret (C : Gk X ad cc own nl d) {v : Int32} (R : Gr X ad (some .int) (some (.int v)) M) (hdg : decode cc pc = .ok (.ireturn, 1)) : G X ad pc nl lv [.int v] M := by
  obtain ⟨p, l, e, R, s, m, args, below, meth, c, Q, A, H0, dd, ca, kc, ks⟩ := X
  obtain ⟨hx, hb, hml, hown, hts, hK, hN, hI, hA, hfr, hlo, hkc, hks⟩ := C
  obtain ⟨r1, r2, rfl, rfl, rfl, rfl, rfl⟩ := R
  intro H locs ls hP hS hl0
  exact W.iret hx hb r1 (fun t ht _ => ⟨rfl, by rw [ht]; exact hP, hS.F ht⟩) hS.2.2 hdg r2
theorem G.zret (C : Gk X ad cc own nl d) {v : Int32} {ty : FieldType} (hn : narrow ty (.int v) = .int v) (R : Gr X ad (some ty) (some (.int v)) M) (hdg : decode cc pc = .ok (.ireturn, 1)) : G X ad pc nl lv [.int v] M := by
  obtain ⟨p, l, e, R, s, m, args, below, meth, c, Q, A, H0, dd, ca, kc, ks⟩ := X
  obtain ⟨hx, hb, hml, hown, hts, hK, hN, hI, hA, hfr, hlo, hkc, hks⟩ := C
  obtain ⟨r1, r2, rfl, rfl, rfl, rfl, rfl⟩ := R
  intro H locs ls hP hS hl0
  exact W.zret hx hb r1 hn (fun t ht _ => ⟨rfl, by rw [ht]; exact hP, hS.F ht⟩) hS.2.2 hdg r2
theorem G.lret (C : Gk X ad cc own nl d) {v : Int64} (R : Gr X ad (some .long) (some (.long v)) M) (hdg : decode cc pc = .ok (.lreturn, 1)) : G X ad pc nl lv [.long v] M := by
  obtain ⟨p, l, e, R, s, m, args, below, meth, c, Q, A, H0, dd, ca, kc, ks⟩ := X
  obtain ⟨hx, hb, hml, hown, hts, hK, hN, hI, hA, hfr, hlo, hkc, hks⟩ := C
  obtain ⟨r1, r2, rfl, rfl, rfl, rfl, rfl⟩ := R
  intro H locs ls hP hS hl0
  exact W.lret hx hb r1 (fun t ht _ => ⟨rfl, by rw [ht]; exact hP, hS.F ht⟩) hS.2.2 hdg r2
theorem G.vret (C : Gk X ad cc own nl d) (R : Gr X ad none none M) (hdg : decode cc pc = .ok (.return_, 1)) : G X ad pc nl lv [] M := by
  obtain ⟨p, l, e, R, s, m, args, below, meth, c, Q, A, H0, dd, ca, kc, ks⟩ := X
  obtain ⟨hx, hb, hml, hown, hts, hK, hN, hI, hA, hfr, hlo, hkc, hks⟩ := C
  obtain ⟨r1, r2, rfl, rfl, rfl, rfl, rfl⟩ := R
  intro H locs ls hP hS hl0
  exact W.vret hx hb r1 (fun t ht _ => ⟨rfl, by rw [ht]; exact hP, hS.F ht⟩) hS.2.2 hdg r2
theorem Ct.of {y : MethodName} {bytes : ByteArray} {maxL d' : Nat} {rt : Option FieldType} {as : (Nat → Nat) → List Value} {v : Option Value} {M' : Mem} (hy : plainName y.cls = true) (hlen : ∀ ad, (lg_sl (as ad)).length ≤ maxL)
    (h : ∀ (X : Gc) (ad : Nat → Nat), Gk X ad bytes y.cls maxL d' → Gr X ad rt v M' → G X ad 0 maxL (lv_args 0 (as ad)) [] M) : Ct y bytes maxL rt d' as M v M' := by
  intro l ad dd ca
  refine Met.ofW (cc := bytes) (maxL := maxL) (ret := rt) (ws' := gTs) hy rfl ?_
  intro p e s m args below meth c s₁ B hml hv
  obtain ⟨rfl, hI, hP, hK, hN⟩ := hv
  have hts := atoms_spec (ws := Cond.code y bytes maxL rt :: gTs) B.pre
  have hg := h (p, l, e, (headSpec (Cond.code y bytes maxL rt :: gTs) (gRm d')).room, s, m, (as ad).toArray, below, meth, c, MQ below (gQ ad dd ca v M') (as ad).toArray s 0 0 (gA ad), gA ad, s.heap, dd, ca, 0, 0) ad
    ⟨B.exec, B.bytes, hml, findClass_of_methodNamed B.named, fun w hw => hts w (List.mem_cons_of_mem _ hw), hK, hN, hI, fun j hj => ⟨j, hj, rfl⟩, Nat.le_refl _, Nat.le_refl _, Nat.zero_le _, Nat.zero_le _⟩
    ⟨B.returns, B.notSynchronized, rfl, rfl, rfl, rfl, rfl⟩
  rw [lg_entry_eq]
  exact hg s.heap [] _ hP va_S.rf (lv_entry (as ad) (hlen ad))
theorem G.copyi (C : Gk X ad cc own nl d) {n0 n1 q0 q1 index : Nat} {sp dp n : Int32} (h0 : gArr n0 q0) (h1 : gArr n1 q1) (hl : Cond.methodLink own index arraycopyName ∈ gTs) (hnat : Cond.native arraycopyName ∈ gTs) (hstat : Cond.static arraycopyName ∈ gTs) (hini : Cond.initialized "java/lang/System" ∈ gTs)
    (b1 : ¬ sp < 0) (b2 : ¬ dp < 0) (b3 : ¬ n < 0) (b4 : sp.toNatClampNeg + n.toNatClampNeg ≤ n0) (b5 : dp.toNatClampNeg + n.toNatClampNeg ≤ n1) (hcat : (st.map fun v => v.category).sum ≤ 8) (hd : 1 ≤ d) {M1 : Mem} (hM : mcpy M q0 q1 sp.toNatClampNeg dp.toNatClampNeg n.toNatClampNeg = M1) (hdg : decode cc pc = .ok (.invokestatic index, 3))
    (kk : G X ad (pc + 3) nl lv st M1) : G X ad pc nl lv (.int n :: .int dp :: .ref (ad q1) :: .int sp :: .ref (ad q0) :: st) M := by
  subst hM
  obtain ⟨p, l, e, R, s, m, args, below, meth, c, Q, A, H0, dd, ca, kc, ks⟩ := X
  obtain ⟨hx, hb, hml, hown, hts, hK, hN, hI, hA, hfr, hlo, hkc, hks⟩ := C
  intro H locs ls hP hS hl0
  have hnw : nativeFrameWords "java/lang/System" "arraycopy" 5 + 11 ≤ 32 := by decide +kernel
  exact va_copyi hx hb (hml.trans hl0.1.symm) hown (hts _ hl) (hts _ hnat) (hts _ hstat) (hts _ hini) hK hP (gW_D hI hA) hS q0 q1 0 0 (n0 := n0) (n1 := n1) (by rw [gW_at h0.1, gShp_arr h0]) (by rw [gW_at h1.1, gShp_arr h1]) rfl rfl rfl b1 b2 b3 b4 b5 (fun _ _ => rfl) (by omega) (by omega) hdg
    (fun H1 locs1 e1 _ e3 => kk H1 locs1 ls (gP_mcpy h1.1 (by rw [gShp_arr h1]) e1) e3 hl0)
theorem G.ldc_w (C : Gk X ad cc own nl d) {index : Nat} {v : Int32} (hc : Cond.constant own index v ∈ gTs) (hdg : decode cc pc = .ok (.ldc_w index, 3)) (kk : G X ad (pc + 3) nl lv (.int v :: st) M) : G X ad pc nl lv st M := by
  obtain ⟨p, l, e, R, s, m, args, below, meth, c, Q, A, H0, dd, ca, kc, ks⟩ := X
  obtain ⟨hx, hb, hml, hown, hts, hK, hN, hI, hA, hfr, hlo, hkc, hks⟩ := C
  intro H locs ls hP hS hl0
  exact lv_ldcw hx hb hown (hts _ hc) hdg (kk H locs ls hP hS hl0)
theorem G.mmin (C : Gk X ad cc own nl d) {index : Nat} {x y : Int32} (hl : Cond.methodLink own index Lib.Math.min.name ∈ gTs) (hstat : Cond.static Lib.Math.min.name ∈ gTs) (hini : Cond.initialized "java/lang/Math" ∈ gTs) (hcode : Cond.code Lib.Math.min.name Lib.Math.min.code 2 (some .int) ∈ gTs) (hcat : (st.map fun v => v.category).sum ≤ 8) (hd : 1 ≤ d) (hdg : decode cc pc = .ok (.invokestatic index, 3))
    (kk : G X ad (pc + 3) nl lv (.int (if y < x then y else x) :: st) M) : G X ad pc nl lv (.int y :: .int x :: st) M := by
  obtain ⟨p, l, e, R, s, m, args, below, meth, c, Q, A, H0, dd, ca, kc, ks⟩ := X
  obtain ⟨hx, hb, hml, hown, hts, hK, hN, hI, hA, hfr, hlo, hkc, hks⟩ := C
  intro H locs ls hP hS hl0
  exact va_mmin hx hb (hml.trans hl0.1.symm) hown (hts _ hl) (hts _ hstat) (hts _ hini) (hts _ hcode) (by omega) (by omega) hkc hks hdg (kk H locs ls hP hS hl0)
theorem G.mmax (C : Gk X ad cc own nl d) {index : Nat} {x y : Int32} (hl : Cond.methodLink own index Lib.Math.max.name ∈ gTs) (hstat : Cond.static Lib.Math.max.name ∈ gTs) (hini : Cond.initialized "java/lang/Math" ∈ gTs) (hcode : Cond.code Lib.Math.max.name Lib.Math.max.code 2 (some .int) ∈ gTs) (hcat : (st.map fun v => v.category).sum ≤ 8) (hd : 1 ≤ d) (hdg : decode cc pc = .ok (.invokestatic index, 3))
    (kk : G X ad (pc + 3) nl lv (.int (if x < y then y else x) :: st) M) : G X ad pc nl lv (.int y :: .int x :: st) M := by
  obtain ⟨p, l, e, R, s, m, args, below, meth, c, Q, A, H0, dd, ca, kc, ks⟩ := X
  obtain ⟨hx, hb, hml, hown, hts, hK, hN, hI, hA, hfr, hlo, hkc, hks⟩ := C
  intro H locs ls hP hS hl0
  exact va_mmax hx hb (hml.trans hl0.1.symm) hown (hts _ hl) (hts _ hstat) (hts _ hini) (hts _ hcode) (by omega) (by omega) hkc hks hdg (kk H locs ls hP hS hl0)
theorem G.mabs (C : Gk X ad cc own nl d) {index : Nat} {x : Int32} (hl : Cond.methodLink own index Lib.Math.abs.name ∈ gTs) (hstat : Cond.static Lib.Math.abs.name ∈ gTs) (hini : Cond.initialized "java/lang/Math" ∈ gTs) (hcode : Cond.code Lib.Math.abs.name Lib.Math.abs.code 1 (some .int) ∈ gTs) (hcat : (st.map fun v => v.category).sum ≤ 8) (hd : 1 ≤ d) (hdg : decode cc pc = .ok (.invokestatic index, 3))
    (kk : G X ad (pc + 3) nl lv (.int (if 0 ≤ x then x else 0 - x) :: st) M) : G X ad pc nl lv (.int x :: st) M := by
  obtain ⟨p, l, e, R, s, m, args, below, meth, c, Q, A, H0, dd, ca, kc, ks⟩ := X
  obtain ⟨hx, hb, hml, hown, hts, hK, hN, hI, hA, hfr, hlo, hkc, hks⟩ := C
  intro H locs ls hP hS hl0
  exact va_mabs hx hb (hml.trans hl0.1.symm) hown (hts _ hl) (hts _ hstat) (hts _ hini) (hts _ hcode) (by omega) (by omega) hkc hks hdg (kk H locs ls hP hS hl0)
end GC
/-! ===== what the decompiled functions are written with ===== -/
def rd {α : Type} (n : Nat) (f : Nat → Int32) (i : Int32) (K : Int32 → Option α) : Option α := if i < 0 ∨ n ≤ i.toNatClampNeg then none else K (f i.toNatClampNeg)
def ck {α : Type} (n : Nat) (i : Int32) (K : Option α) : Option α := if i < 0 ∨ n ≤ i.toNatClampNeg then none else K
def dz {α : Type} (y : Int32) (K : Option α) : Option α := if y = 0 then none else K
def rz {α : Type} (v : Int32) (K : Option α) : Option α := if v = 0 ∨ v = 1 then K else none
def cl {α β : Type} (o : Option (α × Mem)) (K : α → Mem → Option β) : Option β := match o with
  | none => none
  | some q => K q.1 q.2
def cp {α β : Type} (o : Option α) (K : α → Option β) : Option β := match o with
  | none => none
  | some q => K q
def FU : Nat := 100000
def ckc {α : Type} (n0 n1 : Nat) (sp dp n : Int32) (K : Option α) : Option α := if sp < 0 ∨ dp < 0 ∨ n < 0 ∨ n0 < sp.toNatClampNeg + n.toNatClampNeg ∨ n1 < dp.toNatClampNeg + n.toNatClampNeg then none else K
theorem rd_some {α : Type} {n : Nat} {f : Nat → Int32} {i : Int32} {K : Int32 → Option α} {r : α} (h : rd n f i K = some r) : ∃ v, f i.toNatClampNeg = v ∧ vp_in i n ∧ K v = some r := by
  unfold rd at h; split at h
  · cases h
  · rename_i h1; exact ⟨_, rfl, h1, h⟩
def stm {α : Type} (M : Mem) (K : Mem → Option α) : Option α := K M
theorem stm_some {α : Type} {M : Mem} {K : Mem → Option α} {r : α} (h : stm M K = some r) : ∃ M1, M = M1 ∧ K M1 = some r := ⟨M, rfl, h⟩
theorem ck_some {α : Type} {n : Nat} {i : Int32} {K : Option α} {r : α} (h : ck n i K = some r) : vp_in i n ∧ K = some r := by
  unfold ck at h; split at h
  · cases h
  · rename_i h1; exact ⟨h1, h⟩
theorem dz_some {α : Type} {y : Int32} {K : Option α} {r : α} (h : dz y K = some r) : ¬ y = 0 ∧ K = some r := by
  unfold dz at h; split at h
  · cases h
  · rename_i h1; exact ⟨h1, h⟩
theorem rz_some {α : Type} {v : Int32} {K : Option α} {r : α} (h : rz v K = some r) : narrow .boolean (.int v) = .int v ∧ K = some r := by
  unfold rz at h; split at h
  · rename_i h1; exact ⟨by rcases h1 with rfl | rfl <;> rfl, h⟩
  · cases h
theorem cl_some {α β : Type} {o : Option (α × Mem)} {K : α → Mem → Option β} {r : β} (h : cl o K = some r) : ∃ a M1, o = some (a, M1) ∧ K a M1 = some r := by
  cases o with
  | none => cases h
  | some q => exact ⟨q.1, q.2, rfl, h⟩
theorem cp_some {α β : Type} {o : Option α} {K : α → Option β} {r : β} (h : cp o K = some r) : ∃ a, o = some a ∧ K a = some r := by
  cases o with
  | none => cases h
  | some q => exact ⟨q, rfl, h⟩
theorem ckc_some {α : Type} {n0 n1 : Nat} {sp dp n : Int32} {K : Option α} {r : α} (h : ckc n0 n1 sp dp n K = some r) : (¬ sp < 0 ∧ ¬ dp < 0 ∧ ¬ n < 0 ∧ sp.toNatClampNeg + n.toNatClampNeg ≤ n0 ∧ dp.toNatClampNeg + n.toNatClampNeg ≤ n1) ∧ K = some r := by
  unfold ckc at h; split at h
  · cases h
  · rename_i h1
    simp only [not_or, Nat.not_lt] at h1
    exact ⟨h1, h⟩
theorem vp_inC {i : Int32} {n : Nat} (h : decide (i < 0 ∨ n ≤ i.toNatClampNeg) = false) : vp_in i n := of_decide_eq_false h
theorem gIf {α : Type} {c : Prop} {h0 : Decidable c} {A B : Option α} {r : α} (h : (@ite _ c h0 A B) = some r) (hc : c) : A = some r := by rw [if_pos hc] at h; exact h
theorem gIfn {α : Type} {c : Prop} {h0 : Decidable c} {A B : Option α} {r : α} (h : (@ite _ c h0 A B) = some r) (hc : ¬ c) : B = some r := by rw [if_neg hc] at h; exact h
theorem gSw {x : Int32} {n : Nat} (h : ∀ k, k < n → ¬ x = Int32.ofInt (k : Int)) (hn : (n : Int) < 2 ^ 31) : x.toInt < 0 ∨ (n : Int) - 1 < x.toInt := by
  rcases Int.lt_or_le x.toInt 0 with h1 | h1
  · exact Or.inl h1
  rcases Int.lt_or_le ((n : Int) - 1) x.toInt with h2 | h2
  · exact Or.inr h2
  exfalso
  refine h x.toInt.toNat (by omega) ?_
  rw [Int.toNat_of_nonneg h1]
  exact (Int32.ofInt_toInt x).symm
