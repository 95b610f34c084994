/-! constructors: a world that grows, as a list -/
def gNestI : List (String × Nat × MethodName × String) := [("NineTongues", 11, ⟨"NineTongues$Stock", "<init>", "()V"⟩, "NineTongues"), ("NineTongues$Stock", 11, ⟨"NineTongues$Lexicon", "<init>", "()V"⟩, "NineTongues"), ("NineTongues$Stock", 27, ⟨"NineTongues$Path", "<init>", "()V"⟩, "NineTongues"), ("NineTongues$Stock", 41, ⟨"NineTongues$Pairs", "<init>", "()V"⟩, "NineTongues"), ("NineTongues", 37, ⟨"NineTongues$Route", "<init>", "()V"⟩, "NineTongues"), ("NineTongues", 54, ⟨"NineTongues$Rings", "<init>", "()V"⟩, "NineTongues")]
def gNI (U : State) : Prop := ∀ q ∈ gNestI, va_Nw (.methodLinkNest q.1 q.2.1 q.2.2.1 q.2.2.2) U
theorem gNI_warm {s U : State} (hW : s.WarmedH U.vm) (h : gNI s) : gNI U := fun q hq => va_Nw.warmM hW (h q hq)
theorem gNI_same {u U : State} (h : u.vm = U.vm) (hN : gNI u) : gNI U := fun q hq => va_Nw.same rfl h (hN q hq)
def KI (dd : va_G) (ca : Nat → ClassId) (U : State) : Prop := va_K dd vwCl (gT ca) U ∧ va_AO "NineTongues$Stock" U ∧ va_AO "NineTongues$State" U ∧ gNI U
theorem KI_warm {dd : va_G} {ca : Nat → ClassId} {s U : State} (hW : s.WarmedH U.vm) (h : KI dd ca s) : KI dd ca U := ⟨va_K.moved hW.alike h.1, va_AO.moved hW.alike h.2.1, va_AO.moved hW.alike h.2.2.1, gNI_warm hW h.2.2.2⟩
theorem KI_calling {dd : va_G} {ca : Nat → ClassId} {U : State} {g : JFrame} {mk : MethodId} {a : Array Value} (h : KI dd ca U) : KI dd ca (U.calling g mk a) := ⟨va_K.moved (u := U) (U := U.calling g mk a) (Vm.Alike.refl U.vm) h.1, va_AO.moved (u := U) (U := U.calling g mk a) (Vm.Alike.refl U.vm) h.2.1, va_AO.moved (u := U) (U := U.calling g mk a) (Vm.Alike.refl U.vm) h.2.2.1, gNI_same (u := U) rfl h.2.2.2⟩
def jQ (dd : va_G) (wc : va_W) (sz : Nat) (post : va_W → Prop) : Array Value → State → Outcome → State → Prop := fun _ st oc t => oc = .returned none ∧ (∃ w1, post w1 ∧ va_P dd vwCl w1 t.heap ∧ va_D (va_A wc sz) w1) ∧ va_F (va_A wc sz) st t
def jPc (dd : va_G) (ca : Nat → ClassId) (wc : va_W) (sz : Nat) (as : List Value) : Array Value → State → Prop := va_Pc as (fun U => U.heap.size = sz ∧ va_P dd vwCl wc U.heap ∧ va_D (fun _ => True) wc ∧ KI dd ca U)
def CtI (y : MethodName) (cc : ByteArray) (maxL d mc ms : Nat) (ca : Nat → ClassId) (as : List Value) (wc : va_W) (post : va_W → Prop) : Prop := ∀ (l : Launch) (dd : va_G) (sz : Nat), Met l y (Cond.code y cc maxL none :: gTs) { frames := d, cells := mc, slots := ms, locals := 40 * d } (jPc dd ca wc sz as) (jQ dd wc sz post) mc ms (va_A wc sz)
theorem jBlind {dd : va_G} {ca : Nat → ClassId} {wc : va_W} {sz : Nat} {as : List Value} : FrameBlind (jPc dd ca wc sz as) := fun a U g mk q => by
  obtain ⟨q0, h1, h2, h3, h4⟩ := q
  exact ⟨q0, h1, h2, h3, KI_calling h4⟩
abbrev Gj : Type := Program × Launch × Env × Room × State × MethodId × Array Value × List Frame × Method × Code × (State → Prop) × (Nat → Prop) × Heap × va_G
def J (X : Gj) (kc ks pc nl : Nat) (lv : List (Nat × Value)) (st : List Value) (ws : va_W) : Prop := match X with
  | (p, l, e, R, s, m, args, below, meth, c, Q, A, H0, dd) => ∀ (H : Heap) (locs : List Loc) (ls : Array Slot), va_P dd vwCl ws H → va_D A ws → va_S A H0 H locs → lv_has ls nl lv → W p l e R s m args below meth c H locs kc ks Q (F0 m pc ls st)
def Jk (X : Gj) (ca : Nat → ClassId) (cc : ByteArray) (own : String) (nl d mc ms : Nat) : Prop := match X with
  | (p, _, _, R, s, m, args, _, _, c, _, A, H0, dd) => p.tables.exec = Jvm.exec ∧ c.code = cc ∧ c.maxLocals = nl ∧ s.vm.findClass own = some m.cls ∧ (∀ w ∈ gTs, w.before args s = true) ∧ KI dd ca s ∧ (∀ q, H0.size ≤ q → A q) ∧ d ≤ R.frames ∧ 40 * d ≤ R.locals ∧ mc ≤ R.cells ∧ ms ≤ R.slots
def Ji (X : Gj) : Prop := match X with
  | (_, _, _, _, _, _, _, _, meth, _, _, _, _, _) => meth.name = "<init>"
def Jr (X : Gj) (mc ms : Nat) (wc : va_W) (sz : Nat) (post : va_W → Prop) : Prop := match X with
  | (_, _, _, _, s, _, args, below, meth, _, Q, A, H0, dd) => meth.sig.returnType = none ∧ meth.locks = false ∧ Q = MQ below (jQ dd wc sz post) args s mc ms (va_A wc sz) ∧ A = va_A wc sz ∧ H0 = s.heap
section JR
variable {X : Gj} {ca : Nat → ClassId} {cc : ByteArray} {own : String} {nl d pc kc ks mc ms : Nat} {lv lv' : List (Nat × Value)} {st : List Value} {ws ws' : va_W}
theorem J.wsE (h : ws = ws') (kk : J X kc ks pc nl lv st ws') : J X kc ks pc nl lv st ws := h ▸ kk
theorem J.perm (is : List Nat) (hn : va_nd is = true) (h1 : is.filterMap (fun i => ws[i]?) = ws') (h2 : is.map (fun i => ws[i]?) = ws'.map some) (kk : J X kc ks pc nl lv st ws') : J X kc ks pc nl lv st ws := by
  obtain ⟨p, l, e, R, s, m, args, below, meth, c, Q, A, H0, dd⟩ := X
  exact fun H locs ls hP hD hS hl => kk H locs ls (hP.sub is h1) (hD.sub is hn h2) hS hl
theorem J.iconst (C : Jk X ca cc own nl d mc ms) {n : Int} {v : Int32} (hdg : decode cc pc = .ok (.iconst n, 1)) (hv : Int32.ofInt n = v) (kk : J X kc ks (pc + 1) nl lv (.int v :: st) ws) : J X kc ks pc nl lv st ws := by
  obtain ⟨p, l, e, R, s, m, args, below, meth, c, Q, A, H0, dd⟩ := X
  obtain ⟨hx, hb, hml, hown, hts, hK, hA, hfr, hlo, hkc, hks⟩ := C
  exact fun H locs ls hP hD hS hl => lv_iconst hx hb hdg hv (kk H locs ls hP hD hS hl)
theorem J.bipush (C : Jk X ca cc own nl d mc ms) {n : Int} {v : Int32} (hdg : decode cc pc = .ok (.bipush n, 2)) (hv : (Int8.ofInt n).toInt32 = v) (kk : J X kc ks (pc + 2) nl lv (.int v :: st) ws) : J X kc ks pc nl lv st ws := by
  obtain ⟨p, l, e, R, s, m, args, below, meth, c, Q, A, H0, dd⟩ := X
  obtain ⟨hx, hb, hml, hown, hts, hK, hA, hfr, hlo, hkc, hks⟩ := C
  exact fun H locs ls hP hD hS hl => lv_bipush hx hb hdg hv (kk H locs ls hP hD hS hl)
theorem J.sipush (C : Jk X ca cc own nl d mc ms) {n : Int} {v : Int32} (hdg : decode cc pc = .ok (.sipush n, 3)) (hv : (Int16.ofInt n).toInt32 = v) (kk : J X kc ks (pc + 3) nl lv (.int v :: st) ws) : J X kc ks pc nl lv st ws := by
  obtain ⟨p, l, e, R, s, m, args, below, meth, c, Q, A, H0, dd⟩ := X
  obtain ⟨hx, hb, hml, hown, hts, hK, hA, hfr, hlo, hkc, hks⟩ := C
  exact fun H locs ls hP hD hS hl => lv_sipush hx hb hdg hv (kk H locs ls hP hD hS hl)
theorem J.iload_n (C : Jk X ca cc own nl d mc ms) {k : Fin 4} {i pl : Nat} {x : Int32} (hdg : decode cc pc = .ok (.iload_n k, 1)) (hi : (k : Nat) = i) (hl : lv[pl]? = some (i, .int x)) (kk : J X kc ks (pc + 1) nl lv (.int x :: st) ws) : J X kc ks pc nl lv st ws := by
  obtain ⟨p, l, e, R, s, m, args, below, meth, c, Q, A, H0, dd⟩ := X
  obtain ⟨hx, hb, hml, hown, hts, hK, hA, hfr, hlo, hkc, hks⟩ := C
  exact fun H locs ls hP hD hS hl0 => lv_iload_n hx hb hdg hi (lv_at hl0 pl hl) (kk H locs ls hP hD hS hl0)
theorem J.aload_n (C : Jk X ca cc own nl d mc ms) {k : Fin 4} {i pl : Nat} {x : Nat} (hdg : decode cc pc = .ok (.aload_n k, 1)) (hi : (k : Nat) = i) (hl : lv[pl]? = some (i, .ref x)) (kk : J X kc ks (pc + 1) nl lv (.ref x :: st) ws) : J X kc ks pc nl lv st ws := by
  obtain ⟨p, l, e, R, s, m, args, below, meth, c, Q, A, H0, dd⟩ := X
  obtain ⟨hx, hb, hml, hown, hts, hK, hA, hfr, hlo, hkc, hks⟩ := C
  exact fun H locs ls hP hD hS hl0 => lv_aload_n hx hb hdg hi (lv_at hl0 pl hl) (kk H locs ls hP hD hS hl0)
theorem J.istore_n (C : Jk X ca cc own nl d mc ms) {k : Fin 4} {i : Nat} {x : Int32} (hdg : decode cc pc = .ok (.istore_n k, 1)) (hi : (k : Nat) = i) (hn : i < nl) (hl : (i, Value.int x) :: lv.filter (fun q => !(q.1 == i) && !(q.1 + 1 == i && q.2.category == 2)) = lv') (kk : J X kc ks (pc + 1) nl lv' st ws) : J X kc ks pc nl lv (.int x :: st) ws := by
  obtain ⟨p, l, e, R, s, m, args, below, meth, c, Q, A, H0, dd⟩ := X
  obtain ⟨hx, hb, hml, hown, hts, hK, hA, hfr, hlo, hkc, hks⟩ := C
  exact fun H locs ls hP hD hS hl0 => lv_istore_n hx hb hdg hi hl0 hn hl (fun ls' h' => kk H locs ls' hP hD hS h')
theorem J.astore_n (C : Jk X ca cc own nl d mc ms) {k : Fin 4} {i : Nat} {x : Nat} (hdg : decode cc pc = .ok (.astore_n k, 1)) (hi : (k : Nat) = i) (hn : i < nl) (hl : (i, Value.ref x) :: lv.filter (fun q => !(q.1 == i) && !(q.1 + 1 == i && q.2.category == 2)) = lv') (kk : J X kc ks (pc + 1) nl lv' st ws) : J X kc ks pc nl lv (.ref x :: st) ws := by
  obtain ⟨p, l, e, R, s, m, args, below, meth, c, Q, A, H0, dd⟩ := X
  obtain ⟨hx, hb, hml, hown, hts, hK, hA, hfr, hlo, hkc, hks⟩ := C
  exact fun H locs ls hP hD hS hl0 => lv_astore_n hx hb hdg hi hl0 hn hl (fun ls' h' => kk H locs ls' hP hD hS h')
theorem J.iinc (C : Jk X ca cc own nl d mc ms) {i pl : Nat} {n : Int} {x v : Int32} (hdg : decode cc pc = .ok (.iinc i n, 3)) (hk : lv[pl]? = some (i, .int x)) (hv : x + Int32.ofInt n = v) (hn : i < nl) (hl : (i, Value.int v) :: lv.filter (fun q => !(q.1 == i) && !(q.1 + 1 == i && q.2.category == 2)) = lv') (kk : J X kc ks (pc + 3) nl lv' st ws) : J X kc ks pc nl lv st ws := by
  obtain ⟨p, l, e, R, s, m, args, below, meth, c, Q, A, H0, dd⟩ := X
  obtain ⟨hx, hb, hml, hown, hts, hK, hA, hfr, hlo, hkc, hks⟩ := C
  exact fun H locs ls hP hD hS hl0 => lv_iinc hx hb hdg hl0 hk hv hn hl (fun ls' h' => kk H locs ls' hP hD hS h')
theorem J.iadd (C : Jk X ca cc own nl d mc ms) {x y v : Int32} (hv : x + y = v) (hdg : decode cc pc = .ok (.iadd, 1)) (kk : J X kc ks (pc + 1) nl lv (.int v :: st) ws) : J X kc ks pc nl lv (.int y :: .int x :: st) ws := by
  subst hv
  obtain ⟨p, l, e, R, s, m, args, below, meth, c, Q, A, H0, dd⟩ := X
  obtain ⟨hx, hb, hml, hown, hts, hK, hA, hfr, hlo, hkc, hks⟩ := C
  exact fun H locs ls hP hD hS hl0 => lv_iadd hx hb hdg (kk H locs ls hP hD hS hl0)
theorem J.dup (C : Jk X ca cc own nl d mc ms) {va : Value} (hdg : decode cc pc = .ok (.dup, 1)) (hva : va.category = 1) (kk : J X kc ks (pc + 1) nl lv (va :: va :: st) ws) : J X kc ks pc nl lv (va :: st) ws := by
  obtain ⟨p, l, e, R, s, m, args, below, meth, c, Q, A, H0, dd⟩ := X
  obtain ⟨hx, hb, hml, hown, hts, hK, hA, hfr, hlo, hkc, hks⟩ := C
  exact fun H locs ls hP hD hS hl0 => lv_dup hx hb hdg hva (kk H locs ls hP hD hS hl0)
theorem J.goto (C : Jk X ca cc own nl d mc ms) {off : Int} {tgt : Nat} (hdg : decode cc pc = .ok (.goto off, 3)) (ht : (pc : Int) + off = (tgt : Int)) (kk : J X kc ks tgt nl lv st ws) : J X kc ks pc nl lv st ws := by
  obtain ⟨p, l, e, R, s, m, args, below, meth, c, Q, A, H0, dd⟩ := X
  obtain ⟨hx, hb, hml, hown, hts, hK, hA, hfr, hlo, hkc, hks⟩ := C
  exact fun H locs ls hP hD hS hl0 => lv_goto hx hb hdg ht (kk H locs ls hP hD hS hl0)
theorem J.ge_t (C : Jk X ca cc own nl d mc ms) {x y : Int32} {off : Int} {tgt : Nat} (h0 : y ≤ x) (hdg : decode cc pc = .ok (.if_icmp .ge off, 3)) (ht : (pc : Int) + off = (tgt : Int)) (kt : J X kc ks tgt nl lv st ws) : J X kc ks pc nl lv (.int y :: .int x :: st) ws := by
  obtain ⟨p, l, e, R, s, m, args, below, meth, c, Q, A, H0, dd⟩ := X
  obtain ⟨hx, hb, hml, hown, hts, hK, hA, hfr, hlo, hkc, hks⟩ := C
  exact fun H locs ls hP hD hS hl0 => lv_icmp_ge hx hb hdg ht (fun _ => kt H locs ls hP hD hS hl0) (fun h => absurd h0 h)
theorem J.ge_f (C : Jk X ca cc own nl d mc ms) {x y : Int32} {off : Int} {tgt : Nat} (h0 : ¬ y ≤ x) (hdg : decode cc pc = .ok (.if_icmp .ge off, 3)) (ht : (pc : Int) + off = (tgt : Int)) (kf : J X kc ks (pc + 3) nl lv st ws) : J X kc ks pc nl lv (.int y :: .int x :: st) ws := by
  obtain ⟨p, l, e, R, s, m, args, below, meth, c, Q, A, H0, dd⟩ := X
  obtain ⟨hx, hb, hml, hown, hts, hK, hA, hfr, hlo, hkc, hks⟩ := C
  exact fun H locs ls hP hD hS hl0 => lv_icmp_ge hx hb hdg ht (fun h => absurd h h0) (fun _ => kf H locs ls hP hD hS hl0)
theorem J.objInit (C : Jk X ca cc own nl d mc ms) {a idx : Nat} (hl : Cond.methodLink own idx Lib.objectInit ∈ gTs) (hi : Cond.instanceMethod Lib.objectInit ∈ gTs) (hc : Cond.code Lib.objectInit ⟨#[0xb1]⟩ 1 none ∈ gTs) (hd : 1 ≤ d) (hcat : (st.map fun v => v.category).sum ≤ 8) (hdg : decode cc pc = .ok (.invokespecial idx, 3)) (kk : J X kc ks (pc + 3) nl lv st ws) : J X kc ks pc nl lv (.ref a :: st) ws := by
  obtain ⟨p, l, e, R, s, m, args, below, meth, c, Q, A, H0, dd⟩ := X
  obtain ⟨hx, hb, hml, hown, hts, hK, hA, hfr, hlo, hkc, hks⟩ := C
  refine fun H locs ls hP hD hS hl0 => W.objInit hx hb hown (hts _ hl) (hts _ hi) (hts _ hc) rfl (by rw [hml]; exact hl0.1) rfl hdg (by omega) ?_ (kk H locs ls hP hD hS hl0)
  show 2 * 0 + _ + 12 ≤ R.locals
  omega
theorem J.newa (C : Jk X ca cc own nl d mc ms) {n : Int32} {N' : Nat} (hw : Cond.arrayClass .int ∈ gTs) (hn : ¬ n < 0) (hN : n.toNatClampNeg = N') (hby : N' * 4 ≤ 536870912) (h1 : kc + 1 ≤ mc) (h2 : ks + N' ≤ ms) (hdg : decode cc pc = .ok (.newarray .int, 2)) (kk : ∀ q, J X (kc + 1) (ks + N') (pc + 2) nl lv (.ref q :: st) (ws ++ [(q, .inl (ca 0, N', .inl fun _ => 0))])) : J X kc ks pc nl lv (.int n :: st) ws := by
  obtain ⟨p, l, e, R, s, m, args, below, meth, c, Q, A, H0, dd⟩ := X
  obtain ⟨hx, hb, hml, hown, hts, hK, hA, hfr, hlo, hkc, hks⟩ := C
  refine fun H locs ls hP hD hS hl0 => va_newa (atype := .int) (ty := .int) hx hb (hts _ hw) rfl hK.1 hP hD hS hA (a0 := (N', .inl fun _ => 0)) (fun _ => rfl) hn hN hby (by omega) (by omega) hdg (fun q cA H1 k1 k2 k3 k4 => ?_)
  have e0 := (hK.1.2 0 _ rfl).2
  have e1 := (k1.2 4 _ rfl).2
  have : cA = ca 0 := Option.some.inj ((show s.vm.findClass _ = some cA from e1).symm.trans (show s.vm.findClass _ = some (ca 0) from e0))
  subst this
  exact kk q H1 locs ls k2 k3 k4 hl0
theorem J.newz (C : Jk X ca cc own nl d mc ms) {n : Int32} {N' : Nat} (hw : Cond.arrayClass .boolean ∈ gTs) (hn : ¬ n < 0) (hN : n.toNatClampNeg = N') (hby : N' * 1 ≤ 536870912) (h1 : kc + 1 ≤ mc) (h2 : ks + N' ≤ ms) (hdg : decode cc pc = .ok (.newarray .boolean, 2)) (kk : ∀ q, J X (kc + 1) (ks + N') (pc + 2) nl lv (.ref q :: st) (ws ++ [(q, .inl (ca 1, N', .inl fun _ => 0))])) : J X kc ks pc nl lv (.int n :: st) ws := by
  obtain ⟨p, l, e, R, s, m, args, below, meth, c, Q, A, H0, dd⟩ := X
  obtain ⟨hx, hb, hml, hown, hts, hK, hA, hfr, hlo, hkc, hks⟩ := C
  refine fun H locs ls hP hD hS hl0 => va_newa (atype := .boolean) (ty := .boolean) hx hb (hts _ hw) rfl hK.1 hP hD hS hA (a0 := (N', .inl fun _ => 0)) (fun _ => rfl) hn hN hby (by omega) (by omega) hdg (fun q cA H1 k1 k2 k3 k4 => ?_)
  have e0 := (hK.1.2 1 _ rfl).2
  have e1 := (k1.2 4 _ rfl).2
  have : cA = ca 1 := Option.some.inj ((show s.vm.findClass _ = some cA from e1).symm.trans (show s.vm.findClass _ = some (ca 1) from e0))
  subst this
  exact kk q H1 locs ls k2 k3 k4 hl0
theorem J.newq (C : Jk X ca cc own nl d mc ms) {n : Int32} {N' t index : Nat} {Cn : String} (hcl : Cond.classLink own index Cn ∈ gTs) (ht : (gT ca)[t]? = some (ca t, .object Cn)) (hao : ∀ dd s, KI dd ca s → va_AO Cn s) (hn : ¬ n < 0) (hN : n.toNatClampNeg = N') (hby : N' * 4 ≤ 536870912) (h1 : kc + 1 ≤ mc) (h2 : ks + N' ≤ ms) (hdg : decode cc pc = .ok (.anewarray index, 3)) (kk : ∀ q, J X (kc + 1) (ks + N') (pc + 3) nl lv (.ref q :: st) (ws ++ [(q, .inl (ca t, N', .inr (.inr (.inr (.inr fun _ => none)))))])) : J X kc ks pc nl lv (.int n :: st) ws := by
  obtain ⟨p, l, e, R, s, m, args, below, meth, c, Q, A, H0, dd⟩ := X
  obtain ⟨hx, hb, hml, hown, hts, hK, hA, hfr, hlo, hkc, hks⟩ := C
  refine fun H locs ls hP hD hS hl0 => va_newq (C := Cn) hx hb hown (hts _ hcl) (hao dd s hK) hK.1 hP hD hS hA hn hN hby (by omega) (by omega) hdg (fun q cA H1 k1 k2 k3 k4 => ?_)
  obtain ⟨_, _, _, _, _, e0⟩ := (hK.1.2 t _ ht).2
  obtain ⟨_, _, _, _, _, e1⟩ := (k1.2 4 _ rfl).2
  have : cA = ca t := Option.some.inj (e1.symm.trans e0)
  subst this
  exact kk q H1 locs ls k2 k3 k4 hl0
theorem J.new (C : Jk X ca cc own nl d mc ms) {Cn : String} {T : u_T} {N ci index : Nat} {fs : List Value} (hin : ∀ w ∈ u_ws Cn T N, w ∈ gTs) (ty : Nat → FieldType) (hty : ∀ k, k < N → parseFieldDescriptor (T k).2.2.1 = some (ty k)) (hcl : Cond.classLink own index Cn ∈ gTs) (hinst : Cond.instantiable Cn N ∈ gTs) (hini : Cond.initialized Cn ∈ gTs) (hc : vwCl[ci]? = some (Cn, T, N)) (hfs : ∀ j, j < N → defaultValue (ty j) = vp_V fs j) (h1 : kc + 1 ≤ mc) (h2 : ks + N ≤ ms) (hdg : decode cc pc = .ok (.new index, 3)) (kk : ∀ q, J X (kc + 1) (ks + N) (pc + 3) nl lv (.ref q :: st) (ws ++ [(q, .inr (ci, fs))])) : J X kc ks pc nl lv st ws := by
  obtain ⟨p, l, e, R, s, m, args, below, meth, c, Q, A, H0, dd⟩ := X
  obtain ⟨hx, hb, hml, hown, hts, hK, hA, hfr, hlo, hkc, hks⟩ := C
  exact fun H locs ls hP hD hS hl0 => va_new hx hb hts hin ty hty hown (hts _ hcl) (hts _ hinst) (hts _ hini) hK.1 hP hD hS hA hc hfs (by omega) (by omega) hdg (fun q H1 k2 k3 k4 => kk q H1 locs ls k2 k3 k4 hl0)
theorem J.put (C : Jk X ca cc own nl d mc ms) {T : u_T} {N ci k index : Nat} {Cn : String} {fs : List Value} {a : Nat} {v : Value} {ty : FieldType} (q0 : Nat) (ty0 : Nat → FieldType) (hty : ∀ k, k < N → parseFieldDescriptor (T k).2.2.1 = some (ty0 k)) (hnm : ∀ a, a < N → ∀ b, b < N → a ≠ b → (T a).2.1 ≠ (T b).2.1) (he : ws[q0]? = some (a, .inr (ci, fs))) (hc : vwCl[ci]? = some (Cn, T, N)) (hin : ∀ w ∈ u_ws Cn T N, w ∈ gTs) (hk : k < N) (hl : Cond.fieldLink own index (T k).1 (T k).2.1 (T k).2.2.1 ∈ gTs) (hfin : (T k).2.2.2 = false) (hd : parseFieldDescriptor (T k).2.2.1 = some ty) (hn : narrow ty v = v) (hfit : fits ty v = true) (hlen : k < fs.length) (hw : ws.set q0 (a, .inr (ci, fs.set k v)) = ws') (hdg : decode cc pc = .ok (.putfield index, 3)) (kk : J X kc ks (pc + 3) nl lv st ws') : J X kc ks pc nl lv (v :: .ref a :: st) ws := by
  subst hw
  obtain ⟨p, l, e, R, s, m, args, below, meth, c, Q, A, H0, dd⟩ := X
  obtain ⟨hx, hb, hml, hown, hts, hK, hA, hfr, hlo, hkc, hks⟩ := C
  exact fun H locs ls hP hD hS hl0 => va_put hx hb hts hin ty0 hty hnm hown hK.1 hP hD hS q0 he hc k hk (hts _ hl) (fun _ h => h) hfin hd hn hfit hlen hdg (fun H1 locs1 h1 h2 h3 => kk H1 locs1 ls h1 h2 h3 hl0)
theorem J.putF (C : Jk X ca cc own nl d mc ms) (I : Ji X) {T : u_T} {N ci k index : Nat} {Cn : String} {fs : List Value} {a : Nat} {v : Value} {ty : FieldType} (q0 : Nat) (ty0 : Nat → FieldType) (hty : ∀ k, k < N → parseFieldDescriptor (T k).2.2.1 = some (ty0 k)) (hnm : ∀ a, a < N → ∀ b, b < N → a ≠ b → (T a).2.1 ≠ (T b).2.1) (he : ws[q0]? = some (a, .inr (ci, fs))) (hc : vwCl[ci]? = some (Cn, T, N)) (hin : ∀ w ∈ u_ws Cn T N, w ∈ gTs) (hk : k < N) (hl : Cond.fieldLink own index (T k).1 (T k).2.1 (T k).2.2.1 ∈ gTs) (hfin : (T k).2.2.2 = true) (hdecl : (T k).1 = own) (hd : parseFieldDescriptor (T k).2.2.1 = some ty) (hn : narrow ty v = v) (hfit : fits ty v = true) (hlen : k < fs.length) (hw : ws.set q0 (a, .inr (ci, fs.set k v)) = ws') (hdg : decode cc pc = .ok (.putfield index, 3)) (kk : J X kc ks (pc + 3) nl lv st ws') : J X kc ks pc nl lv (v :: .ref a :: st) ws := by
  subst hw
  obtain ⟨p, l, e, R, s, m, args, below, meth, c, Q, A, H0, dd⟩ := X
  obtain ⟨hx, hb, hml, hown, hts, hK, hA, hfr, hlo, hkc, hks⟩ := C
  exact fun H locs ls hP hD hS hl0 => va_putF hx hb hts hin ty0 hty hnm hown hK.1 hP hD hS q0 he hc k hk (hts _ hl) (fun _ h => h) hfin I hdecl hd hn hfit hlen hdg (fun H1 locs1 h1 h2 h3 => kk H1 locs1 ls h1 h2 h3 hl0)
theorem J.get (C : Jk X ca cc own nl d mc ms) {T : u_T} {N ci k index : Nat} {Cn : String} {fs : List Value} {a : Nat} {v : Value} (q0 : Nat) (he : ws[q0]? = some (a, .inr (ci, fs))) (hc : vwCl[ci]? = some (Cn, T, N)) (hin : ∀ w ∈ u_ws Cn T N, w ∈ gTs) (hk : k < N) (hl : Cond.fieldLink own index (T k).1 (T k).2.1 (T k).2.2.1 ∈ gTs) (hv : fs[k]? = some v) (hdg : decode cc pc = .ok (.getfield index, 3)) (kk : J X kc ks (pc + 3) nl lv (v :: st) ws) : J X kc ks pc nl lv (.ref a :: st) ws := by
  obtain ⟨p, l, e, R, s, m, args, below, meth, c, Q, A, H0, dd⟩ := X
  obtain ⟨hx, hb, hml, hown, hts, hK, hA, hfr, hlo, hkc, hks⟩ := C
  exact fun H locs ls hP hD hS hl0 => va_get hx hb hts hin hown hK.1 hP q0 he hc k hk (hts _ hl) (fun _ h => h) hv hdg (kk H locs ls hP hD hS hl0)
theorem J.alen (C : Jk X ca cc own nl d mc ms) {a t : Nat} {cA : ClassId} {x : vp_A} {ty : FieldType} {v : Int32} (q0 : Nat) (he : ws[q0]? = some (a, .inl (cA, x))) (ht : (gT ca)[t]? = some (cA, ty)) (hv : Int32.ofNat x.1 = v) (hdg : decode cc pc = .ok (.arraylength, 1)) (kk : J X kc ks (pc + 1) nl lv (.int v :: st) ws) : J X kc ks pc nl lv (.ref a :: st) ws := by
  obtain ⟨p, l, e, R, s, m, args, below, meth, c, Q, A, H0, dd⟩ := X
  obtain ⟨hx, hb, hml, hown, hts, hK, hA, hfr, hlo, hkc, hks⟩ := C
  exact fun H locs ls hP hD hS hl0 => va_alen hx hb hK.1 hP q0 t he ht hv hdg (kk H locs ls hP hD hS hl0)
theorem J.iast (C : Jk X ca cc own nl d mc ms) {a n : Nat} {f : Nat → Int32} {i x : Int32} (q0 : Nat) (he : ws[q0]? = some (a, .inl (ca 0, n, .inl f))) (hin : vp_in i n) (hw : ws.set q0 (a, .inl (ca 0, n, .inl (upd f i.toNatClampNeg x))) = ws') (hdg : decode cc pc = .ok (.iastore, 1)) (kk : J X kc ks (pc + 1) nl lv st ws') : J X kc ks pc nl lv (.int x :: .int i :: .ref a :: st) ws := by
  subst hw
  obtain ⟨p, l, e, R, s, m, args, below, meth, c, Q, A, H0, dd⟩ := X
  obtain ⟨hx, hb, hml, hown, hts, hK, hA, hfr, hlo, hkc, hks⟩ := C
  exact fun H locs ls hP hD hS hl0 => va_iast hx hb hK.1 hP hD hS q0 0 he rfl hin hdg (fun H1 locs1 h1 h2 h3 => kk H1 locs1 ls h1 h2 h3 hl0)
theorem J.astq (C : Jk X ca cc own nl d mc ms) {a t n v ci : Nat} {vs : List Value} {r : vw_C} {f : Nat → Option Nat} {i : Int32} (q0 qk : Nat) (he : ws[q0]? = some (a, .inl (ca t, n, .inr (.inr (.inr (.inr f)))))) (ht : (gT ca)[t]? = some (ca t, .object r.1)) (hv : ws[qk]? = some (v, .inr (ci, vs))) (hc : vwCl[ci]? = some r) (hin : vp_in i n) (hw : ws.set q0 (a, .inl (ca t, n, .inr (.inr (.inr (.inr (va_up f i.toNatClampNeg (some v))))))) = ws') (hdg : decode cc pc = .ok (.aastore, 1)) (kk : J X kc ks (pc + 1) nl lv st ws') : J X kc ks pc nl lv (.ref v :: .int i :: .ref a :: st) ws := by
  subst hw
  obtain ⟨p, l, e, R, s, m, args, below, meth, c, Q, A, H0, dd⟩ := X
  obtain ⟨hx, hb, hml, hown, hts, hK, hA, hfr, hlo, hkc, hks⟩ := C
  exact fun H locs ls hP hD hS hl0 => va_astq hx hb hK.1 hP hD hS q0 t qk ci he ht hv hc hin hdg (fun H1 locs1 h1 h2 h3 => kk H1 locs1 ls h1 h2 h3 hl0)
theorem jBack {p : Program} {l : Launch} {e : Env} {R : Room} {s : State} {m : MethodId} {args : Array Value} {below : List Frame} {meth : Method} {c : Code} {H H0 : Heap} {locs : List Loc} {Q : State → Prop} {ls : Array Slot} {st0 rest : List Value} {A : Nat → Prop} {dd : va_G} {a : Array Value} {wc wr : va_W} {post : va_W → Prop}
    (hA : ∀ q, H0.size ≤ q → A q) (hP : va_P dd vwCl ws H) (hD : va_D A ws) (hS : va_S A H0 H locs) (hl : lv_has ls nl lv) (isC isR : List Nat) (hC : isC.map (fun i => ws[i]?) = wc.map some) (hR : isR.map (fun i => ws[i]?) = wr.map some) (hn : va_nd isR = true) (hdis : ∀ i ∈ isR, i ∉ isC)
    (hr : va_Run p l e R s m args below meth c H locs kc ks mc ms (F0 m pc ls st0) rest (jQ dd wc H.size post a) (va_A wc H.size))
    (kk : ∀ w1, post w1 → J (p, l, e, R, s, m, args, below, meth, c, Q, A, H0, dd) (kc + mc) (ks + ms) (pc + 3) nl lv rest (wr ++ w1)) : W p l e R s m args below meth c H locs kc ks Q (F0 m pc ls st0) := by
  intro T hT Z
  obtain ⟨v', st₀, t, T', L, h0, Z', hL, e1, e2, ⟨hv, ⟨w1, hpw, hP1, hD1⟩, hz, hk⟩, hst⟩ := hr T hT Z
  cases hv
  rw [h0] at hz hk
  have hf : ∀ q, va_A wc H.size q → A q := va_free hD hS hA isC hC
  obtain ⟨hP2, hD2⟩ := va_join (H1 := t.heap) hP hD isC isR hC hR hn hdis hk hf hP1 hD1
  obtain ⟨t2, a1, b1⟩ := kk w1 hpw T'.heap (locs ++ L) ls (by rw [e1]; exact hP2) hD2
    ⟨Nat.le_trans hS.1 (by rw [e1]; exact hz), fun q h1 h2 => by rw [e1, hk q (Nat.lt_of_lt_of_le h1 hS.1) (fun z => h2 (hf q z))]; exact hS.2.1 q h1 h2, fun q hq => by
      rcases List.mem_append.mp hq with h | h
      · exact hS.2.2 q h
      · exact hf _ (hL q h)⟩ hl T' rfl Z'
  exact ⟨t2, hst t2 a1, b1⟩
theorem jPre {s : State} {H : Heap} {dd : va_G} {ca : Nat → ClassId} {A : Nat → Prop} {wc : va_W} {as : List Value} (hP : va_P dd vwCl wc H) (hD : va_D A wc) (hK : KI dd ca s) : ∀ U : State, U.heap = H → s.WarmedH U.vm → jPc dd ca wc H.size as as.toArray U :=
  fun U hU hW => ⟨rfl, by rw [hU], by rw [hU]; exact hP, hD.weaken (fun _ _ _ _ => trivial), KI_warm hW hK⟩
theorem map_filterMap {α : Type} {ws wc : List α} : ∀ {is : List Nat}, is.map (fun i => ws[i]?) = wc.map some → is.filterMap (fun i => ws[i]?) = wc := by
  intro is
  induction is generalizing wc with
  | nil => intro h; cases wc with
    | nil => rfl
    | cons a b => simp at h
  | cons i is ih => intro h; cases wc with
    | nil => simp at h
    | cons a b =>
      simp only [List.map_cons, List.cons.injEq] at h
      rw [List.filterMap_cons, h.1, ih h.2]
theorem J.callI (C : Jk X ca cc own nl d mc ms) {y : MethodName} {bytes : ByteArray} {maxL d' mc' ms' index a : Nat} {rest : List Value} {wc wr : va_W} {post : va_W → Prop} (isC isR : List Nat) (hM : CtI y bytes maxL d' mc' ms' ca [.ref a] wc post) (hi : Cond.instanceMethod y ∈ gTs) (hini : Cond.initialized y.cls ∈ gTs) (hcode : Cond.code y bytes maxL none ∈ gTs) (hl : Cond.methodLink own index y ∈ gTs)
    (hd0 : y.name = "<init>" ∧ y.cls ≠ "java/lang/invoke/MethodHandle" ∧ y.cls ≠ "java/lang/invoke/VarHandle" ∧ (parseMethodDescriptor y.desc).map (fun d => d.parameters.length) = some 0) (hm : maxL ≤ 21) (hC : isC.map (fun i => ws[i]?) = wc.map some) (hnC : va_nd isC = true) (hR : isR.map (fun i => ws[i]?) = wr.map some) (hn : va_nd isR = true) (hdis : ∀ i ∈ isR, i ∉ isC) (hcat : (rest.map fun v => v.category).sum ≤ 8) (hd : d' + 1 ≤ d) (h1 : kc + mc' ≤ mc) (h2 : ks + ms' ≤ ms)
    (hdg : decode cc pc = .ok (.invokespecial index, 3)) (kk : ∀ w1, post w1 → J X (kc + mc') (ks + ms') (pc + 3) nl lv rest (wr ++ w1)) : J X kc ks pc nl lv (.ref a :: rest) ws := by
  obtain ⟨p, l, e, R, s, m, args, below, meth, c, Q, A, H0, dd⟩ := X
  obtain ⟨hx, hb, hml, hown, hts, hK, hA, hfr, hlo, hkc, hks⟩ := C
  intro H locs ls hP hD hS hl0
  refine jBack hA hP hD hS hl0 isC isR hC hR hn hdis (va_runI (As := []) (rest := rest) (n := 0) ⟨hx, hb, hml, hown, hts⟩ (hM l dd H.size) ⟨callB_of 0 hts (gGoodWs hcode) rfl rfl rfl (hts _ hini) (hts _ hl) ⟨hd0.2.1, hd0.2.2.1, hd0.2.2.2⟩ ⟨?_, ?_⟩, hd0.1, hts _ hi⟩ ⟨jBlind, jPre (hP.sub isC (map_filterMap hC)) (hD.sub isC hnC hC) hK⟩ rfl rfl hl0.1 rfl (lv_room hcat) hdg ⟨by omega, by omega⟩) kk
  · show d' + 1 ≤ R.frames; omega
  · show 8 + (maxL + 11) + 40 * d' ≤ R.locals; omega
theorem J.callIN (C : Jk X ca cc own nl d mc ms) {y : MethodName} {bytes : ByteArray} {host : String} {maxL d' mc' ms' index a : Nat} {rest : List Value} {wc wr : va_W} {post : va_W → Prop} (isC isR : List Nat) (hM : CtI y bytes maxL d' mc' ms' ca [.ref a] wc post) (hi : Cond.instanceMethod y ∈ gTs) (hini : Cond.initialized y.cls ∈ gTs) (hcode : Cond.code y bytes maxL none ∈ gTs) (hl : (own, index, y, host) ∈ gNestI)
    (hd0 : y.name = "<init>" ∧ y.cls ≠ "java/lang/invoke/MethodHandle" ∧ y.cls ≠ "java/lang/invoke/VarHandle" ∧ (parseMethodDescriptor y.desc).map (fun d => d.parameters.length) = some 0) (hm : maxL ≤ 21) (hC : isC.map (fun i => ws[i]?) = wc.map some) (hnC : va_nd isC = true) (hR : isR.map (fun i => ws[i]?) = wr.map some) (hn : va_nd isR = true) (hdis : ∀ i ∈ isR, i ∉ isC) (hcat : (rest.map fun v => v.category).sum ≤ 8) (hd : d' + 1 ≤ d) (h1 : kc + mc' ≤ mc) (h2 : ks + ms' ≤ ms)
    (hdg : decode cc pc = .ok (.invokespecial index, 3)) (kk : ∀ w1, post w1 → J X (kc + mc') (ks + ms') (pc + 3) nl lv rest (wr ++ w1)) : J X kc ks pc nl lv (.ref a :: rest) ws := by
  obtain ⟨p, l, e, R, s, m, args, below, meth, c, Q, A, H0, dd⟩ := X
  obtain ⟨hx, hb, hml, hown, hts, hK, hA, hfr, hlo, hkc, hks⟩ := C
  intro H locs ls hP hD hS hl0
  refine jBack hA hP hD hS hl0 isC isR hC hR hn hdis (va_runIN (As := []) (rest := rest) (n := 0) ⟨hx, hb, hml, hown, hts⟩ (hM l dd H.size) ⟨va_cnB (host := host) 0 hts (gGoodWs hcode) rfl rfl rfl (hK.2.2.2 _ hl) (hts _ hini) ⟨hd0.2.1, hd0.2.2.1, hd0.2.2.2⟩ ⟨?_, ?_⟩, hd0.1, hts _ hi⟩ ⟨jBlind, jPre (hP.sub isC (map_filterMap hC)) (hD.sub isC hnC hC) hK⟩ rfl rfl hl0.1 rfl (lv_room hcat) hdg ⟨by omega, by omega⟩) kk
  · show d' + 1 ≤ R.frames; omega
  · show 8 + (maxL + 11) + 40 * d' ≤ R.locals; omega
theorem J.callV (C : Jk X ca cc own nl d mc ms) {y : MethodName} {bytes : ByteArray} {maxL d' index a ci : Nat} {rest : List Value} {wc wr : va_W} {post : va_W → Prop} {fs : List Value} {cl0 : vw_C} (q0 : Nat) (isC isR : List Nat) (hM : CtI y bytes maxL d' 0 0 ca [.ref a] wc post) (hy : gMV y bytes maxL none 0) (hl : Cond.methodLink own index y ∈ gTs) (he : ws[q0]? = some (a, .inr (ci, fs))) (hc : vwCl[ci]? = some cl0) (hcl : cl0.1 = y.cls)
    (hC : isC.map (fun i => ws[i]?) = wc.map some) (hnC : va_nd isC = true) (hR : isR.map (fun i => ws[i]?) = wr.map some) (hn : va_nd isR = true) (hdis : ∀ i ∈ isR, i ∉ isC) (hcat : (rest.map fun v => v.category).sum ≤ 8) (hd : d' + 1 ≤ d) (h1 : kc ≤ mc) (h2 : ks ≤ ms)
    (hdg : decode cc pc = .ok (.invokevirtual index, 3)) (kk : ∀ w1, post w1 → J X kc ks (pc + 3) nl lv rest (wr ++ w1)) : J X kc ks pc nl lv (.ref a :: rest) ws := by
  obtain ⟨p, l, e, R, s, m, args, below, meth, c, Q, A, H0, dd⟩ := X
  obtain ⟨hx, hb, hml, hown, hts, hK, hA, hfr, hlo, hkc, hks⟩ := C
  intro H locs ls hP hD hS hl0
  obtain ⟨g1, g2, g3, g4, g5, g6⟩ := hy
  refine jBack hA hP hD hS hl0 isC isR hC hR hn hdis (va_runV (As := []) (rest := rest) ⟨hx, hb, hml, hown, hts⟩ (hM l dd H.size) (cwV (C := y.cls) 0 hts (fun w hw => ?_) rfl rfl rfl ⟨rfl, g5⟩ ⟨?_, ?_⟩) ⟨jBlind, ?_, jPre (hP.sub isC (map_filterMap hC)) (hD.sub isC hnC hC) hK⟩ rfl rfl hl0.1 rfl (lv_room hcat) hdg ⟨by omega, by omega⟩) kk
  · simp only [wsV, List.mem_append, List.mem_cons, List.not_mem_nil, or_false] at hw
    rcases hw with (rfl | rfl | rfl | rfl) | (rfl | hw)
    · exact gGood hl
    · exact gGood g1
    · exact gGood g2
    · exact gGood g3
    · exact gGood g4
    · exact gGood hw
  · show d' + 1 ≤ R.frames; omega
  · show 8 + (maxL + 11) + 40 * d' ≤ R.locals; omega
  · rw [← hcl]
    exact va_recv hK.1 hP hc (q0 := q0) he
theorem J.callS (C : Jk X ca cc own nl d mc ms) {y : MethodName} {bytes : ByteArray} {maxL d' n index : Nat} {wc wr : va_W} {post : va_W → Prop} (As rest : List Value) (isC isR : List Nat) (hM : CtI y bytes maxL d' 0 0 ca As wc post) (hy : gMS y bytes maxL none n) (hl : Cond.methodLink own index y ∈ gTs) (hnl : As.length = n) (hst : st = As.reverse ++ rest)
    (hC : isC.map (fun i => ws[i]?) = wc.map some) (hnC : va_nd isC = true) (hR : isR.map (fun i => ws[i]?) = wr.map some) (hn : va_nd isR = true) (hdis : ∀ i ∈ isR, i ∉ isC) (hcat : (rest.map fun v => v.category).sum ≤ 8) (hd : d' + 1 ≤ d) (h1 : kc ≤ mc) (h2 : ks ≤ ms)
    (hdg : decode cc pc = .ok (.invokestatic index, 3)) (kk : ∀ w1, post w1 → J X kc ks (pc + 3) nl lv rest (wr ++ w1)) : J X kc ks pc nl lv st ws := by
  obtain ⟨p, l, e, R, s, m, args, below, meth, c, Q, A, H0, dd⟩ := X
  obtain ⟨hx, hb, hml, hown, hts, hK, hA, hfr, hlo, hkc, hks⟩ := C
  intro H locs ls hP hD hS hl0
  obtain ⟨g1, g3, g4, g5, g6⟩ := hy
  refine jBack hA hP hD hS hl0 isC isR hC hR hn hdis (va_runS (As := As) (rest := rest) ⟨hx, hb, hml, hown, hts⟩ (hM l dd H.size) (va_cwS n hts (fun w hw => ?_) rfl rfl rfl g5 ⟨?_, ?_⟩) ⟨jBlind, jPre (hP.sub isC (map_filterMap hC)) (hD.sub isC hnC hC) hK⟩ rfl hnl hl0.1 hst (lv_room hcat) hdg ⟨by omega, by omega⟩) kk
  · simp only [va_wsS, List.mem_append, List.mem_cons, List.not_mem_nil, or_false] at hw
    rcases hw with (rfl | rfl | rfl) | (rfl | hw)
    · exact gGood hl
    · exact gGood g1
    · exact gGood g3
    · exact gGood g4
    · exact gGood hw
  · show d' + 1 ≤ R.frames; omega
  · show 8 + (maxL + 11) + 40 * d' ≤ R.locals; omega
theorem J.vret (C : Jk X ca cc own nl d mc ms) {wc : va_W} {sz : Nat} {post : va_W → Prop} (R : Jr X mc ms wc sz post) (hp : post ws) (h1 : kc ≤ mc) (h2 : ks ≤ ms) (hdg : decode cc pc = .ok (.return_, 1)) : J X kc ks pc nl lv [] ws := by
  obtain ⟨p, l, e, R, s, m, args, below, meth, c, Q, A, H0, dd⟩ := X
  obtain ⟨hx, hb, hml, hown, hts, hK, hA, hfr, hlo, hkc, hks⟩ := C
  obtain ⟨r1, r2, rfl, rfl, rfl⟩ := R
  intro H locs ls hP hD hS hl0
  refine W.widen h1 h2 ?_
  exact W.vret hx hb r1 (fun t ht _ => ⟨rfl, ⟨ws, hp, by rw [ht]; exact hP, hD⟩, hS.F ht⟩) hS.2.2 hdg r2
end JR
theorem CtI.of {y : MethodName} {bytes : ByteArray} {maxL d' mc' ms' : Nat} {ca : Nat → ClassId} {as : List Value} {wc : va_W} {post : va_W → Prop} (hy : plainName y.cls = true) (hlen : (lg_sl as).length ≤ maxL)
    (h : ∀ (X : Gj) (sz : Nat), Jk X ca bytes y.cls maxL d' mc' ms' → (y.name = "<init>" → Ji X) → Jr X mc' ms' wc sz post → J X 0 0 0 maxL (lv_args 0 as) [] wc) : CtI y bytes maxL d' mc' ms' ca as wc post := by
  intro l dd sz
  refine Met.ofW (cc := bytes) (maxL := maxL) (ret := none) (ws' := gTs) hy rfl ?_
  intro p e s m args below meth c s₁ B hml hv
  obtain ⟨rfl, hsz, hP, hD0, hK⟩ := hv
  subst hsz
  have hD := hD0.self (sz := s.heap.size)
  have hts := atoms_spec (ws := Cond.code y bytes maxL none :: gTs) B.pre
  have hg := h (p, l, e, (headSpec (Cond.code y bytes maxL none :: gTs) { frames := d', cells := mc', slots := ms', locals := 40 * d' }).room, s, m, as.toArray, below, meth, c, MQ below (jQ dd wc s.heap.size post) as.toArray s mc' ms' (va_A wc s.heap.size), va_A wc s.heap.size, s.heap, dd) s.heap.size
    ⟨B.exec, B.bytes, hml, findClass_of_methodNamed B.named, fun w hw => hts w (List.mem_cons_of_mem _ hw), hK, fun q h => Or.inr h, Nat.le_refl _, Nat.le_refl _, Nat.le_refl _, Nat.le_refl _⟩
    (fun hi => by
      have := (name_of_methodNamed B.named B.method).1
      exact this.trans hi)
    ⟨B.returns, B.notSynchronized, rfl, rfl, rfl⟩
  rw [lg_entry_eq]
  exact hg s.heap [] _ hP hD va_S.rf (lv_entry as hlen)
