theorem J.sub {X : Gj} {kc ks pc nl : Nat} {lv lv' : List (Nat × Value)} {st : List Value} {ws : va_W} (is : List Nat) (hl : lv_pick lv is = lv') (kk : J X kc ks pc nl lv' st ws) : J X kc ks pc nl lv st ws := by
  obtain ⟨p, l, e, R, s, m, args, below, meth, c, Q, A, H0, dd⟩ := X
  exact fun H locs ls hP hD hS h => kk H locs ls hP hD hS (lv_sub h is hl)
def jFill (n : Nat) (v : Int32) (f : Nat → Int32) : Nat → Int32 := fun j => if j < n then v else f j
theorem vp_cellq {cA : ClassId} {n : Nat} {f g : Nat → Option Nat} (h : ∀ j, j < n → f j = g j) : vp_cell cA (n, .inr (.inr (.inr (.inr f)))) = vp_cell cA (n, .inr (.inr (.inr (.inr g)))) := by
  rw [vp_cell_q, vp_cell_q]
  unfold arrV
  congr 2
  funext j
  show va_rf (f j.val) = va_rf (g j.val)
  rw [h j.val j.isLt]
theorem J.arrq {X : Gj} {kc ks pc nl a n : Nat} {cA : ClassId} {lv : List (Nat × Value)} {st : List Value} {ws ws' : va_W} {f g : Nat → Option Nat} (q0 : Nat) (he : ws[q0]? = some (a, .inl (cA, n, .inr (.inr (.inr (.inr f)))))) (h : ∀ j, j < n → f j = g j) (hw : ws.set q0 (a, .inl (cA, n, .inr (.inr (.inr (.inr g))))) = ws') (kk : J X kc ks pc nl lv st ws') : J X kc ks pc nl lv st ws := by
  subst hw
  obtain ⟨p, l, e, R, s, m, args, below, meth, c, Q, A, H0, dd⟩ := X
  exact fun H locs ls hP hD hS hl => kk H locs ls (hP.set hD he (by
    have h1 := hP q0 _ he
    show H[a]? = some (vp_cell cA (n, .inr (.inr (.inr (.inr g)))))
    rw [← vp_cellq h]; exact h1) (fun _ _ => rfl)) (hD.set he) hS hl
theorem upd_fill {v : Int32} {f : Nat → Int32} {i : Nat} : upd (jFill i v f) i v = jFill (i + 1) v f := by
  funext j
  unfold upd jFill
  by_cases h : j = i
  · subst h; rw [if_pos rfl, if_pos (by omega)]
  · rw [if_neg h]
    by_cases h2 : j < i
    · rw [if_pos h2, if_pos (by omega)]
    · rw [if_neg h2, if_neg (by omega)]
set_option maxRecDepth 100000 in
set_option maxHeartbeats 4000000 in
theorem ci_fill (ca : Nat → ClassId) (h0 n : Nat) (f : Nat → Int32) (v : Int32) (hn : n < 2 ^ 31 := by decide) : CtI yJ7_fill_53178 cJ7_fill_53178 4 1 0 0 ca [.ref h0, .int v] [(h0, .inl (ca 0, n, .inl f))] (fun w => w = [(h0, .inl (ca 0, n, .inl (jFill n v f)))]) := by
  refine CtI.of (by decide +kernel) (Nat.le_of_ble_eq_true rfl) (fun X sz C hI R => ?_)
  have C : Jk X ca cJ7_fill_53178 "java/util/Arrays" 4 1 0 0 := C
  refine J.iconst (v := 0) C dJ7_fill_53178_0 (by decide) ?_
  refine J.istore_n (lv' := [(2, .int 0), (0, .ref h0), (1, .int v)]) C dJ7_fill_53178_1 rfl (by decide) rfl ?_
  refine J.aload_n (pl := 1) C dJ7_fill_53178_2 rfl rfl ?_
  refine J.alen (t := 0) (v := nI n) C 0 rfl rfl rfl dJ7_fill_53178_3 ?_
  refine J.istore_n (lv' := [(3, .int (nI n)), (2, .int 0), (0, .ref h0), (1, .int v)]) C dJ7_fill_53178_4 rfl (by decide) rfl ?_
  have key : ∀ (k i : Nat), i + k = n → J X 0 0 5 4 [(3, .int (nI n)), (2, .int (nI i)), (0, .ref h0), (1, .int v)] [] [(h0, .inl (ca 0, n, .inl (jFill i v f)))] := by
    intro k
    induction k with
    | zero =>
      intro i hi
      refine J.iload_n (pl := 1) C dJ7_fill_53178_5 rfl rfl ?_
      refine J.iload_n (pl := 0) C dJ7_fill_53178_6 rfl rfl ?_
      have hi : i = n := by omega
      subst hi
      refine J.ge_t (tgt := 20) C (Int32.le_refl _) dJ7_fill_53178_7 (by decide) ?_
      exact J.vret C R rfl (Nat.le_refl _) (Nat.le_refl _) dJ7_fill_53178_20
    | succ k ih =>
      intro i hi
      refine J.iload_n (pl := 1) C dJ7_fill_53178_5 rfl rfl ?_
      refine J.iload_n (pl := 0) C dJ7_fill_53178_6 rfl rfl ?_
      refine J.ge_f (tgt := 20) C (nI_ge (by omega) (by omega)) dJ7_fill_53178_7 (by decide) ?_
      refine J.aload_n (pl := 2) C dJ7_fill_53178_10 rfl rfl ?_
      refine J.iload_n (pl := 1) C dJ7_fill_53178_11 rfl rfl ?_
      refine J.iload_n (pl := 3) C dJ7_fill_53178_12 rfl rfl ?_
      refine J.iast (ws' := [(h0, .inl (ca 0, n, .inl (jFill (i + 1) v f)))]) C 0 rfl (vp_in_nI (by omega) (by omega)) (by rw [nI_clamp (by omega), upd_fill]; rfl) dJ7_fill_53178_13 ?_
      refine J.iinc (pl := 1) (v := nI (i + 1)) (lv' := [(2, .int (nI (i + 1))), (3, .int (nI n)), (0, .ref h0), (1, .int v)]) C dJ7_fill_53178_14 rfl (by rw [nI_succ]; rfl) (by decide) rfl ?_
      refine J.goto (tgt := 5) C dJ7_fill_53178_17 (by decide) ?_
      refine J.sub [1, 0, 2, 3] rfl ?_
      exact ih (i + 1) (by omega)
  have := key n 0 (by omega)
  have h0 : jFill 0 v f = f := by funext j; simp [jFill]
  rw [h0] at this
  exact this
set_option maxRecDepth 100000 in
set_option maxHeartbeats 4000000 in
theorem ci_empty (ca : Nat → ClassId) (h0 h1 h2 h3 : Nat) : CtI yX7_empty cX7_empty 1 2 0 0 ca [.ref h0] [(h0, .inr (7, [.int 0, .ref h1, .ref h2, .ref h3])), (h3, .inl (ca 0, 4, .inl (fun _ => 0)))] (fun w => w = [(h0, .inr (7, [.int 0, .ref h1, .ref h2, .ref h3])), (h3, .inl (ca 0, 4, .inl (jFill 4 (-1) (fun _ => 0))))]) := by
  refine CtI.of (by decide +kernel) (Nat.le_of_ble_eq_true rfl) (fun X sz C hI R => ?_)
  have C : Jk X ca cX7_empty "NineTongues$State" 1 2 0 0 := C
  refine J.aload_n (pl := 0) C dX7_empty_0 rfl rfl ?_
  refine J.iconst (v := 0) C dX7_empty_1 (by decide) ?_
  refine J.put (ws' := [(h0, .inr (7, [.int 0, .ref h1, .ref h2, .ref h3])), (h3, .inl (ca 0, 4, .inl (fun _ => 0)))]) (T := TX7) (k := 0) C 0 tyX7 tyX7_ok nmX7 rfl (ci := 7) rfl inG7 (by decide) k1_88 rfl (tyX7_ok 0 (by decide)) rfl rfl (by simp) rfl dX7_empty_2 ?_
  refine J.aload_n (pl := 0) C dX7_empty_5 rfl rfl ?_
  refine J.get (T := TX7) (k := 3) C 0 rfl (ci := 7) rfl inG7 (by decide) k1_101 rfl dX7_empty_6 ?_
  refine J.iconst (v := (-1)) C dX7_empty_9 (by decide) ?_
  refine J.callS (wr := [(h0, .inr (7, [.int 0, .ref h1, .ref h2, .ref h3]))]) C [.ref h3, .int (-1)] [] [1] [0] (ci_fill ca h3 4 (fun _ => 0) (-1)) mv_J7_fill_53178 k1_85 rfl rfl rfl (by decide) rfl (by decide) (by decide) (Nat.le_of_ble_eq_true rfl) (by decide) (Nat.le_refl _) (Nat.le_refl _) dX7_empty_10 (fun w1 hp => ?_)
  subst hp
  exact J.vret C R rfl (Nat.le_refl _) (Nat.le_refl _) dX7_empty_13
def ch0 (ca : Nat → ClassId) (q : Nat → Nat) : va_W := [(q 0, .inr (0, [.ref (q 1), .ref (q 2)])), (q 1, .inl (ca 0, 6, .inl (fun _ => 0))), (q 2, .inl (ca 0, 4, .inl (jFill 4 (-2) (fun _ => 0))))]
set_option maxRecDepth 100000 in
set_option maxHeartbeats 4000000 in
theorem ci_X0_init (ca : Nat → ClassId) (h0 : Nat) : CtI yX0_init cX0_init 1 2 2 10 ca [.ref h0] [(h0, .inr (0, [.null, .null]))] (fun w => ∃ q : Nat → Nat, q 0 = h0 ∧ w = ch0 ca q) := by
  refine CtI.of (by decide +kernel) (Nat.le_of_ble_eq_true rfl) (fun X sz C hI R => ?_)
  have I := hI rfl
  have C : Jk X ca cX0_init "NineTongues$End" 1 2 2 10 := C
  refine J.aload_n (pl := 0) C dX0_init_0 rfl rfl ?_
  refine J.objInit C k1_138 k1_22 k1_23 (by decide) (Nat.le_of_ble_eq_true rfl) dX0_init_1 ?_
  refine J.aload_n (pl := 0) C dX0_init_4 rfl rfl ?_
  refine J.bipush (v := 6) C dX0_init_5 (by decide) ?_
  refine J.newa (N' := 6) C k1_74 (by decide) (by decide) (Nat.le_of_ble_eq_true rfl) (Nat.le_of_ble_eq_true rfl) (Nat.le_of_ble_eq_true rfl) dX0_init_7 (fun a1 => ?_)
  refine J.wsE (ws' := [(h0, .inr (0, [.null, .null])), (a1, .inl (ca 0, 6, .inl (fun _ => 0)))]) rfl ?_
  refine J.putF (ws' := [(h0, .inr (0, [.ref a1, .null])), (a1, .inl (ca 0, 6, .inl (fun _ => 0)))]) (T := TX0) (k := 0) C I 0 tyX0 tyX0_ok nmX0 rfl (ci := 0) rfl inG0 (by decide) k1_140 rfl rfl (tyX0_ok 0 (by decide)) rfl rfl (by simp) rfl dX0_init_9 ?_
  refine J.aload_n (pl := 0) C dX0_init_12 rfl rfl ?_
  refine J.iconst (v := 4) C dX0_init_13 (by decide) ?_
  refine J.newa (N' := 4) C k1_74 (by decide) (by decide) (Nat.le_of_ble_eq_true rfl) (Nat.le_of_ble_eq_true rfl) (Nat.le_of_ble_eq_true rfl) dX0_init_14 (fun a2 => ?_)
  refine J.wsE (ws' := [(h0, .inr (0, [.ref a1, .null])), (a1, .inl (ca 0, 6, .inl (fun _ => 0))), (a2, .inl (ca 0, 4, .inl (fun _ => 0)))]) rfl ?_
  refine J.putF (ws' := [(h0, .inr (0, [.ref a1, .ref a2])), (a1, .inl (ca 0, 6, .inl (fun _ => 0))), (a2, .inl (ca 0, 4, .inl (fun _ => 0)))]) (T := TX0) (k := 1) C I 0 tyX0 tyX0_ok nmX0 rfl (ci := 0) rfl inG0 (by decide) k1_143 rfl rfl (tyX0_ok 1 (by decide)) rfl rfl (by simp) rfl dX0_init_16 ?_
  refine J.aload_n (pl := 0) C dX0_init_19 rfl rfl ?_
  refine J.get (T := TX0) (k := 1) C 0 rfl (ci := 0) rfl inG0 (by decide) k1_143 rfl dX0_init_20 ?_
  refine J.bipush (v := (-2)) C dX0_init_23 (by decide) ?_
  refine J.callS (wr := [(h0, .inr (0, [.ref a1, .ref a2])), (a1, .inl (ca 0, 6, .inl (fun _ => 0)))]) C [.ref a2, .int (-2)] [] [2] [0, 1] (ci_fill ca a2 4 (fun _ => 0) (-2)) mv_J7_fill_53178 k1_139 rfl rfl rfl (by decide) rfl (by decide) (by decide) (Nat.le_of_ble_eq_true rfl) (by decide) (Nat.le_of_ble_eq_true rfl) (Nat.le_of_ble_eq_true rfl) dX0_init_25 (fun w1 hp => ?_)
  subst hp
  refine J.wsE (ws' := [(h0, .inr (0, [.ref a1, .ref a2])), (a1, .inl (ca 0, 6, .inl (fun _ => 0))), (a2, .inl (ca 0, 4, .inl (jFill 4 (-2) (fun _ => 0))))]) rfl ?_
  refine J.perm (ws' := ch0 ca (fun k => ([h0, a1, a2] : List Nat).getD k 0)) [0, 1, 2] (by decide) rfl rfl ?_
  exact J.vret C R ⟨_, rfl, rfl⟩ (Nat.le_of_ble_eq_true rfl) (Nat.le_of_ble_eq_true rfl) dX0_init_28
def ch1 (ca : Nat → ClassId) (q : Nat → Nat) : va_W := [(q 0, .inr (1, [.int 0, .int 2, .int 1, .ref (q 1), .ref (q 2), .ref (q 3), .ref (q 4), .ref (q 5), .ref (q 6), .ref (q 7)])), (q 1, .inl (ca 0, 6, .inl (fun _ => 0))), (q 2, .inl (ca 0, 6, .inl (fun _ => 0))), (q 3, .inl (ca 0, 6, .inl (fun _ => 0))), (q 4, .inl (ca 0, 6, .inl (fun _ => 0))), (q 5, .inl (ca 0, 48, .inl (fun _ => 0))), (q 6, .inl (ca 0, 48, .inl (fun _ => 0))), (q 7, .inl (ca 0, 48, .inl (fun _ => 0)))]
set_option maxRecDepth 100000 in
set_option maxHeartbeats 4000000 in
theorem ci_X1_init (ca : Nat → ClassId) (h0 : Nat) : CtI yX1_init cX1_init 1 1 7 168 ca [.ref h0] [(h0, .inr (1, [.int 0, .int 0, .int 0, .null, .null, .null, .null, .null, .null, .null]))] (fun w => ∃ q : Nat → Nat, q 0 = h0 ∧ w = ch1 ca q) := by
  refine CtI.of (by decide +kernel) (Nat.le_of_ble_eq_true rfl) (fun X sz C hI R => ?_)
  have I := hI rfl
  have C : Jk X ca cX1_init "NineTongues$Lexicon" 1 1 7 168 := C
  refine J.aload_n (pl := 0) C dX1_init_0 rfl rfl ?_
  refine J.objInit C k1_35 k1_22 k1_23 (by decide) (Nat.le_of_ble_eq_true rfl) dX1_init_1 ?_
  refine J.aload_n (pl := 0) C dX1_init_4 rfl rfl ?_
  refine J.iconst (v := 0) C dX1_init_5 (by decide) ?_
  refine J.put (ws' := [(h0, .inr (1, [.int 0, .int 0, .int 0, .null, .null, .null, .null, .null, .null, .null]))]) (T := TX1) (k := 0) C 0 tyX1 tyX1_ok nmX1 rfl (ci := 1) rfl inG1 (by decide) k1_36 rfl (tyX1_ok 0 (by decide)) rfl rfl (by simp) rfl dX1_init_6 ?_
  refine J.aload_n (pl := 0) C dX1_init_9 rfl rfl ?_
  refine J.iconst (v := 2) C dX1_init_10 (by decide) ?_
  refine J.put (ws' := [(h0, .inr (1, [.int 0, .int 2, .int 0, .null, .null, .null, .null, .null, .null, .null]))]) (T := TX1) (k := 1) C 0 tyX1 tyX1_ok nmX1 rfl (ci := 1) rfl inG1 (by decide) k1_39 rfl (tyX1_ok 1 (by decide)) rfl rfl (by simp) rfl dX1_init_11 ?_
  refine J.aload_n (pl := 0) C dX1_init_14 rfl rfl ?_
  refine J.iconst (v := 1) C dX1_init_15 (by decide) ?_
  refine J.put (ws' := [(h0, .inr (1, [.int 0, .int 2, .int 1, .null, .null, .null, .null, .null, .null, .null]))]) (T := TX1) (k := 2) C 0 tyX1 tyX1_ok nmX1 rfl (ci := 1) rfl inG1 (by decide) k1_41 rfl (tyX1_ok 2 (by decide)) rfl rfl (by simp) rfl dX1_init_16 ?_
  refine J.aload_n (pl := 0) C dX1_init_19 rfl rfl ?_
  refine J.bipush (v := 6) C dX1_init_20 (by decide) ?_
  refine J.newa (N' := 6) C k1_74 (by decide) (by decide) (Nat.le_of_ble_eq_true rfl) (Nat.le_of_ble_eq_true rfl) (Nat.le_of_ble_eq_true rfl) dX1_init_22 (fun a1 => ?_)
  refine J.wsE (ws' := [(h0, .inr (1, [.int 0, .int 2, .int 1, .null, .null, .null, .null, .null, .null, .null])), (a1, .inl (ca 0, 6, .inl (fun _ => 0)))]) rfl ?_
  refine J.putF (ws' := [(h0, .inr (1, [.int 0, .int 2, .int 1, .ref a1, .null, .null, .null, .null, .null, .null])), (a1, .inl (ca 0, 6, .inl (fun _ => 0)))]) (T := TX1) (k := 3) C I 0 tyX1 tyX1_ok nmX1 rfl (ci := 1) rfl inG1 (by decide) k1_43 rfl rfl (tyX1_ok 3 (by decide)) rfl rfl (by simp) rfl dX1_init_24 ?_
  refine J.aload_n (pl := 0) C dX1_init_27 rfl rfl ?_
  refine J.bipush (v := 6) C dX1_init_28 (by decide) ?_
  refine J.newa (N' := 6) C k1_74 (by decide) (by decide) (Nat.le_of_ble_eq_true rfl) (Nat.le_of_ble_eq_true rfl) (Nat.le_of_ble_eq_true rfl) dX1_init_30 (fun a2 => ?_)
  refine J.wsE (ws' := [(h0, .inr (1, [.int 0, .int 2, .int 1, .ref a1, .null, .null, .null, .null, .null, .null])), (a1, .inl (ca 0, 6, .inl (fun _ => 0))), (a2, .inl (ca 0, 6, .inl (fun _ => 0)))]) rfl ?_
  refine J.putF (ws' := [(h0, .inr (1, [.int 0, .int 2, .int 1, .ref a1, .ref a2, .null, .null, .null, .null, .null])), (a1, .inl (ca 0, 6, .inl (fun _ => 0))), (a2, .inl (ca 0, 6, .inl (fun _ => 0)))]) (T := TX1) (k := 4) C I 0 tyX1 tyX1_ok nmX1 rfl (ci := 1) rfl inG1 (by decide) k1_44 rfl rfl (tyX1_ok 4 (by decide)) rfl rfl (by simp) rfl dX1_init_32 ?_
  refine J.aload_n (pl := 0) C dX1_init_35 rfl rfl ?_
  refine J.bipush (v := 6) C dX1_init_36 (by decide) ?_
  refine J.newa (N' := 6) C k1_74 (by decide) (by decide) (Nat.le_of_ble_eq_true rfl) (Nat.le_of_ble_eq_true rfl) (Nat.le_of_ble_eq_true rfl) dX1_init_38 (fun a3 => ?_)
  refine J.wsE (ws' := [(h0, .inr (1, [.int 0, .int 2, .int 1, .ref a1, .ref a2, .null, .null, .null, .null, .null])), (a1, .inl (ca 0, 6, .inl (fun _ => 0))), (a2, .inl (ca 0, 6, .inl (fun _ => 0))), (a3, .inl (ca 0, 6, .inl (fun _ => 0)))]) rfl ?_
  refine J.putF (ws' := [(h0, .inr (1, [.int 0, .int 2, .int 1, .ref a1, .ref a2, .ref a3, .null, .null, .null, .null])), (a1, .inl (ca 0, 6, .inl (fun _ => 0))), (a2, .inl (ca 0, 6, .inl (fun _ => 0))), (a3, .inl (ca 0, 6, .inl (fun _ => 0)))]) (T := TX1) (k := 5) C I 0 tyX1 tyX1_ok nmX1 rfl (ci := 1) rfl inG1 (by decide) k1_45 rfl rfl (tyX1_ok 5 (by decide)) rfl rfl (by simp) rfl dX1_init_40 ?_
  refine J.aload_n (pl := 0) C dX1_init_43 rfl rfl ?_
  refine J.bipush (v := 6) C dX1_init_44 (by decide) ?_
  refine J.newa (N' := 6) C k1_74 (by decide) (by decide) (Nat.le_of_ble_eq_true rfl) (Nat.le_of_ble_eq_true rfl) (Nat.le_of_ble_eq_true rfl) dX1_init_46 (fun a4 => ?_)
  refine J.wsE (ws' := [(h0, .inr (1, [.int 0, .int 2, .int 1, .ref a1, .ref a2, .ref a3, .null, .null, .null, .null])), (a1, .inl (ca 0, 6, .inl (fun _ => 0))), (a2, .inl (ca 0, 6, .inl (fun _ => 0))), (a3, .inl (ca 0, 6, .inl (fun _ => 0))), (a4, .inl (ca 0, 6, .inl (fun _ => 0)))]) rfl ?_
  refine J.putF (ws' := [(h0, .inr (1, [.int 0, .int 2, .int 1, .ref a1, .ref a2, .ref a3, .ref a4, .null, .null, .null])), (a1, .inl (ca 0, 6, .inl (fun _ => 0))), (a2, .inl (ca 0, 6, .inl (fun _ => 0))), (a3, .inl (ca 0, 6, .inl (fun _ => 0))), (a4, .inl (ca 0, 6, .inl (fun _ => 0)))]) (T := TX1) (k := 6) C I 0 tyX1 tyX1_ok nmX1 rfl (ci := 1) rfl inG1 (by decide) k1_46 rfl rfl (tyX1_ok 6 (by decide)) rfl rfl (by simp) rfl dX1_init_48 ?_
  refine J.aload_n (pl := 0) C dX1_init_51 rfl rfl ?_
  refine J.bipush (v := 48) C dX1_init_52 (by decide) ?_
  refine J.newa (N' := 48) C k1_74 (by decide) (by decide) (Nat.le_of_ble_eq_true rfl) (Nat.le_of_ble_eq_true rfl) (Nat.le_of_ble_eq_true rfl) dX1_init_54 (fun a5 => ?_)
  refine J.wsE (ws' := [(h0, .inr (1, [.int 0, .int 2, .int 1, .ref a1, .ref a2, .ref a3, .ref a4, .null, .null, .null])), (a1, .inl (ca 0, 6, .inl (fun _ => 0))), (a2, .inl (ca 0, 6, .inl (fun _ => 0))), (a3, .inl (ca 0, 6, .inl (fun _ => 0))), (a4, .inl (ca 0, 6, .inl (fun _ => 0))), (a5, .inl (ca 0, 48, .inl (fun _ => 0)))]) rfl ?_
  refine J.putF (ws' := [(h0, .inr (1, [.int 0, .int 2, .int 1, .ref a1, .ref a2, .ref a3, .ref a4, .ref a5, .null, .null])), (a1, .inl (ca 0, 6, .inl (fun _ => 0))), (a2, .inl (ca 0, 6, .inl (fun _ => 0))), (a3, .inl (ca 0, 6, .inl (fun _ => 0))), (a4, .inl (ca 0, 6, .inl (fun _ => 0))), (a5, .inl (ca 0, 48, .inl (fun _ => 0)))]) (T := TX1) (k := 7) C I 0 tyX1 tyX1_ok nmX1 rfl (ci := 1) rfl inG1 (by decide) k1_49 rfl rfl (tyX1_ok 7 (by decide)) rfl rfl (by simp) rfl dX1_init_56 ?_
  refine J.aload_n (pl := 0) C dX1_init_59 rfl rfl ?_
  refine J.bipush (v := 48) C dX1_init_60 (by decide) ?_
  refine J.newa (N' := 48) C k1_74 (by decide) (by decide) (Nat.le_of_ble_eq_true rfl) (Nat.le_of_ble_eq_true rfl) (Nat.le_of_ble_eq_true rfl) dX1_init_62 (fun a6 => ?_)
  refine J.wsE (ws' := [(h0, .inr (1, [.int 0, .int 2, .int 1, .ref a1, .ref a2, .ref a3, .ref a4, .ref a5, .null, .null])), (a1, .inl (ca 0, 6, .inl (fun _ => 0))), (a2, .inl (ca 0, 6, .inl (fun _ => 0))), (a3, .inl (ca 0, 6, .inl (fun _ => 0))), (a4, .inl (ca 0, 6, .inl (fun _ => 0))), (a5, .inl (ca 0, 48, .inl (fun _ => 0))), (a6, .inl (ca 0, 48, .inl (fun _ => 0)))]) rfl ?_
  refine J.putF (ws' := [(h0, .inr (1, [.int 0, .int 2, .int 1, .ref a1, .ref a2, .ref a3, .ref a4, .ref a5, .ref a6, .null])), (a1, .inl (ca 0, 6, .inl (fun _ => 0))), (a2, .inl (ca 0, 6, .inl (fun _ => 0))), (a3, .inl (ca 0, 6, .inl (fun _ => 0))), (a4, .inl (ca 0, 6, .inl (fun _ => 0))), (a5, .inl (ca 0, 48, .inl (fun _ => 0))), (a6, .inl (ca 0, 48, .inl (fun _ => 0)))]) (T := TX1) (k := 8) C I 0 tyX1 tyX1_ok nmX1 rfl (ci := 1) rfl inG1 (by decide) k1_51 rfl rfl (tyX1_ok 8 (by decide)) rfl rfl (by simp) rfl dX1_init_64 ?_
  refine J.aload_n (pl := 0) C dX1_init_67 rfl rfl ?_
  refine J.bipush (v := 48) C dX1_init_68 (by decide) ?_
  refine J.newa (N' := 48) C k1_74 (by decide) (by decide) (Nat.le_of_ble_eq_true rfl) (Nat.le_of_ble_eq_true rfl) (Nat.le_of_ble_eq_true rfl) dX1_init_70 (fun a7 => ?_)
  refine J.wsE (ws' := [(h0, .inr (1, [.int 0, .int 2, .int 1, .ref a1, .ref a2, .ref a3, .ref a4, .ref a5, .ref a6, .null])), (a1, .inl (ca 0, 6, .inl (fun _ => 0))), (a2, .inl (ca 0, 6, .inl (fun _ => 0))), (a3, .inl (ca 0, 6, .inl (fun _ => 0))), (a4, .inl (ca 0, 6, .inl (fun _ => 0))), (a5, .inl (ca 0, 48, .inl (fun _ => 0))), (a6, .inl (ca 0, 48, .inl (fun _ => 0))), (a7, .inl (ca 0, 48, .inl (fun _ => 0)))]) rfl ?_
  refine J.putF (ws' := [(h0, .inr (1, [.int 0, .int 2, .int 1, .ref a1, .ref a2, .ref a3, .ref a4, .ref a5, .ref a6, .ref a7])), (a1, .inl (ca 0, 6, .inl (fun _ => 0))), (a2, .inl (ca 0, 6, .inl (fun _ => 0))), (a3, .inl (ca 0, 6, .inl (fun _ => 0))), (a4, .inl (ca 0, 6, .inl (fun _ => 0))), (a5, .inl (ca 0, 48, .inl (fun _ => 0))), (a6, .inl (ca 0, 48, .inl (fun _ => 0))), (a7, .inl (ca 0, 48, .inl (fun _ => 0)))]) (T := TX1) (k := 9) C I 0 tyX1 tyX1_ok nmX1 rfl (ci := 1) rfl inG1 (by decide) k1_52 rfl rfl (tyX1_ok 9 (by decide)) rfl rfl (by simp) rfl dX1_init_72 ?_
  refine J.perm (ws' := ch1 ca (fun k => ([h0, a1, a2, a3, a4, a5, a6, a7] : List Nat).getD k 0)) [0, 1, 2, 3, 4, 5, 6, 7] (by decide) rfl rfl ?_
  exact J.vret C R ⟨_, rfl, rfl⟩ (Nat.le_of_ble_eq_true rfl) (Nat.le_of_ble_eq_true rfl) dX1_init_75
def ch2 (ca : Nat → ClassId) (q : Nat → Nat) : va_W := [(q 0, .inr (2, [.int 0, .ref (q 1), .ref (q 2)])), (q 1, .inl (ca 0, 24, .inl (fun _ => 0))), (q 2, .inl (ca 0, 24, .inl (fun _ => 0)))]
set_option maxRecDepth 100000 in
set_option maxHeartbeats 4000000 in
theorem ci_X2_init (ca : Nat → ClassId) (h0 : Nat) : CtI yX2_init cX2_init 1 1 2 48 ca [.ref h0] [(h0, .inr (2, [.int 0, .null, .null]))] (fun w => ∃ q : Nat → Nat, q 0 = h0 ∧ w = ch2 ca q) := by
  refine CtI.of (by decide +kernel) (Nat.le_of_ble_eq_true rfl) (fun X sz C hI R => ?_)
  have I := hI rfl
  have C : Jk X ca cX2_init "NineTongues$Pairs" 1 1 2 48 := C
  refine J.aload_n (pl := 0) C dX2_init_0 rfl rfl ?_
  refine J.objInit C k1_156 k1_22 k1_23 (by decide) (Nat.le_of_ble_eq_true rfl) dX2_init_1 ?_
  refine J.aload_n (pl := 0) C dX2_init_4 rfl rfl ?_
  refine J.iconst (v := 0) C dX2_init_5 (by decide) ?_
  refine J.put (ws' := [(h0, .inr (2, [.int 0, .null, .null]))]) (T := TX2) (k := 0) C 0 tyX2 tyX2_ok nmX2 rfl (ci := 2) rfl inG2 (by decide) k1_157 rfl (tyX2_ok 0 (by decide)) rfl rfl (by simp) rfl dX2_init_6 ?_
  refine J.aload_n (pl := 0) C dX2_init_9 rfl rfl ?_
  refine J.bipush (v := 24) C dX2_init_10 (by decide) ?_
  refine J.newa (N' := 24) C k1_74 (by decide) (by decide) (Nat.le_of_ble_eq_true rfl) (Nat.le_of_ble_eq_true rfl) (Nat.le_of_ble_eq_true rfl) dX2_init_12 (fun a1 => ?_)
  refine J.wsE (ws' := [(h0, .inr (2, [.int 0, .null, .null])), (a1, .inl (ca 0, 24, .inl (fun _ => 0)))]) rfl ?_
  refine J.putF (ws' := [(h0, .inr (2, [.int 0, .ref a1, .null])), (a1, .inl (ca 0, 24, .inl (fun _ => 0)))]) (T := TX2) (k := 1) C I 0 tyX2 tyX2_ok nmX2 rfl (ci := 2) rfl inG2 (by decide) k1_161 rfl rfl (tyX2_ok 1 (by decide)) rfl rfl (by simp) rfl dX2_init_14 ?_
  refine J.aload_n (pl := 0) C dX2_init_17 rfl rfl ?_
  refine J.bipush (v := 24) C dX2_init_18 (by decide) ?_
  refine J.newa (N' := 24) C k1_74 (by decide) (by decide) (Nat.le_of_ble_eq_true rfl) (Nat.le_of_ble_eq_true rfl) (Nat.le_of_ble_eq_true rfl) dX2_init_20 (fun a2 => ?_)
  refine J.wsE (ws' := [(h0, .inr (2, [.int 0, .ref a1, .null])), (a1, .inl (ca 0, 24, .inl (fun _ => 0))), (a2, .inl (ca 0, 24, .inl (fun _ => 0)))]) rfl ?_
  refine J.putF (ws' := [(h0, .inr (2, [.int 0, .ref a1, .ref a2])), (a1, .inl (ca 0, 24, .inl (fun _ => 0))), (a2, .inl (ca 0, 24, .inl (fun _ => 0)))]) (T := TX2) (k := 2) C I 0 tyX2 tyX2_ok nmX2 rfl (ci := 2) rfl inG2 (by decide) k1_163 rfl rfl (tyX2_ok 2 (by decide)) rfl rfl (by simp) rfl dX2_init_22 ?_
  refine J.perm (ws' := ch2 ca (fun k => ([h0, a1, a2] : List Nat).getD k 0)) [0, 1, 2] (by decide) rfl rfl ?_
  exact J.vret C R ⟨_, rfl, rfl⟩ (Nat.le_of_ble_eq_true rfl) (Nat.le_of_ble_eq_true rfl) dX2_init_25
def ch3 (ca : Nat → ClassId) (q : Nat → Nat) : va_W := [(q 0, .inr (3, [.int 0, .ref (q 1)])), (q 1, .inl (ca 0, 60, .inl (fun _ => 0)))]
set_option maxRecDepth 100000 in
set_option maxHeartbeats 4000000 in
theorem ci_X3_init (ca : Nat → ClassId) (h0 : Nat) : CtI yX3_init cX3_init 1 1 1 60 ca [.ref h0] [(h0, .inr (3, [.int 0, .null]))] (fun w => ∃ q : Nat → Nat, q 0 = h0 ∧ w = ch3 ca q) := by
  refine CtI.of (by decide +kernel) (Nat.le_of_ble_eq_true rfl) (fun X sz C hI R => ?_)
  have I := hI rfl
  have C : Jk X ca cX3_init "NineTongues$Path" 1 1 1 60 := C
  refine J.aload_n (pl := 0) C dX3_init_0 rfl rfl ?_
  refine J.objInit C k1_120 k1_22 k1_23 (by decide) (Nat.le_of_ble_eq_true rfl) dX3_init_1 ?_
  refine J.aload_n (pl := 0) C dX3_init_4 rfl rfl ?_
  refine J.iconst (v := 0) C dX3_init_5 (by decide) ?_
  refine J.put (ws' := [(h0, .inr (3, [.int 0, .null]))]) (T := TX3) (k := 0) C 0 tyX3 tyX3_ok nmX3 rfl (ci := 3) rfl inG3 (by decide) k1_121 rfl (tyX3_ok 0 (by decide)) rfl rfl (by simp) rfl dX3_init_6 ?_
  refine J.aload_n (pl := 0) C dX3_init_9 rfl rfl ?_
  refine J.bipush (v := 60) C dX3_init_10 (by decide) ?_
  refine J.newa (N' := 60) C k1_74 (by decide) (by decide) (Nat.le_of_ble_eq_true rfl) (Nat.le_of_ble_eq_true rfl) (Nat.le_of_ble_eq_true rfl) dX3_init_12 (fun a1 => ?_)
  refine J.wsE (ws' := [(h0, .inr (3, [.int 0, .null])), (a1, .inl (ca 0, 60, .inl (fun _ => 0)))]) rfl ?_
  refine J.putF (ws' := [(h0, .inr (3, [.int 0, .ref a1])), (a1, .inl (ca 0, 60, .inl (fun _ => 0)))]) (T := TX3) (k := 1) C I 0 tyX3 tyX3_ok nmX3 rfl (ci := 3) rfl inG3 (by decide) k1_125 rfl rfl (tyX3_ok 1 (by decide)) rfl rfl (by simp) rfl dX3_init_14 ?_
  refine J.perm (ws' := ch3 ca (fun k => ([h0, a1] : List Nat).getD k 0)) [0, 1] (by decide) rfl rfl ?_
  exact J.vret C R ⟨_, rfl, rfl⟩ (Nat.le_of_ble_eq_true rfl) (Nat.le_of_ble_eq_true rfl) dX3_init_17
def ch4 (ca : Nat → ClassId) (q : Nat → Nat) : va_W := [(q 0, .inr (4, [.int 0, .int 0, .ref (q 1), .ref (q 2), .ref (q 3)])), (q 1, .inl (ca 0, 24, .inl (fun _ => 0))), (q 2, .inl (ca 0, 24, .inl (fun _ => 0))), (q 3, .inl (ca 0, 48, .inl (fun _ => 0)))]
set_option maxRecDepth 100000 in
set_option maxHeartbeats 4000000 in
theorem ci_X4_init (ca : Nat → ClassId) (h0 : Nat) : CtI yX4_init cX4_init 1 1 3 96 ca [.ref h0] [(h0, .inr (4, [.int 0, .int 0, .null, .null, .null]))] (fun w => ∃ q : Nat → Nat, q 0 = h0 ∧ w = ch4 ca q) := by
  refine CtI.of (by decide +kernel) (Nat.le_of_ble_eq_true rfl) (fun X sz C hI R => ?_)
  have I := hI rfl
  have C : Jk X ca cX4_init "NineTongues$Rings" 1 1 3 96 := C
  refine J.aload_n (pl := 0) C dX4_init_0 rfl rfl ?_
  refine J.objInit C k2_20 k1_22 k1_23 (by decide) (Nat.le_of_ble_eq_true rfl) dX4_init_1 ?_
  refine J.aload_n (pl := 0) C dX4_init_4 rfl rfl ?_
  refine J.iconst (v := 0) C dX4_init_5 (by decide) ?_
  refine J.put (ws' := [(h0, .inr (4, [.int 0, .int 0, .null, .null, .null]))]) (T := TX4) (k := 0) C 0 tyX4 tyX4_ok nmX4 rfl (ci := 4) rfl inG4 (by decide) k2_21 rfl (tyX4_ok 0 (by decide)) rfl rfl (by simp) rfl dX4_init_6 ?_
  refine J.aload_n (pl := 0) C dX4_init_9 rfl rfl ?_
  refine J.iconst (v := 0) C dX4_init_10 (by decide) ?_
  refine J.put (ws' := [(h0, .inr (4, [.int 0, .int 0, .null, .null, .null]))]) (T := TX4) (k := 1) C 0 tyX4 tyX4_ok nmX4 rfl (ci := 4) rfl inG4 (by decide) k2_23 rfl (tyX4_ok 1 (by decide)) rfl rfl (by simp) rfl dX4_init_11 ?_
  refine J.aload_n (pl := 0) C dX4_init_14 rfl rfl ?_
  refine J.bipush (v := 24) C dX4_init_15 (by decide) ?_
  refine J.newa (N' := 24) C k1_74 (by decide) (by decide) (Nat.le_of_ble_eq_true rfl) (Nat.le_of_ble_eq_true rfl) (Nat.le_of_ble_eq_true rfl) dX4_init_17 (fun a1 => ?_)
  refine J.wsE (ws' := [(h0, .inr (4, [.int 0, .int 0, .null, .null, .null])), (a1, .inl (ca 0, 24, .inl (fun _ => 0)))]) rfl ?_
  refine J.putF (ws' := [(h0, .inr (4, [.int 0, .int 0, .ref a1, .null, .null])), (a1, .inl (ca 0, 24, .inl (fun _ => 0)))]) (T := TX4) (k := 2) C I 0 tyX4 tyX4_ok nmX4 rfl (ci := 4) rfl inG4 (by decide) k2_25 rfl rfl (tyX4_ok 2 (by decide)) rfl rfl (by simp) rfl dX4_init_19 ?_
  refine J.aload_n (pl := 0) C dX4_init_22 rfl rfl ?_
  refine J.bipush (v := 24) C dX4_init_23 (by decide) ?_
  refine J.newa (N' := 24) C k1_74 (by decide) (by decide) (Nat.le_of_ble_eq_true rfl) (Nat.le_of_ble_eq_true rfl) (Nat.le_of_ble_eq_true rfl) dX4_init_25 (fun a2 => ?_)
  refine J.wsE (ws' := [(h0, .inr (4, [.int 0, .int 0, .ref a1, .null, .null])), (a1, .inl (ca 0, 24, .inl (fun _ => 0))), (a2, .inl (ca 0, 24, .inl (fun _ => 0)))]) rfl ?_
  refine J.putF (ws' := [(h0, .inr (4, [.int 0, .int 0, .ref a1, .ref a2, .null])), (a1, .inl (ca 0, 24, .inl (fun _ => 0))), (a2, .inl (ca 0, 24, .inl (fun _ => 0)))]) (T := TX4) (k := 3) C I 0 tyX4 tyX4_ok nmX4 rfl (ci := 4) rfl inG4 (by decide) k2_27 rfl rfl (tyX4_ok 3 (by decide)) rfl rfl (by simp) rfl dX4_init_27 ?_
  refine J.aload_n (pl := 0) C dX4_init_30 rfl rfl ?_
  refine J.bipush (v := 48) C dX4_init_31 (by decide) ?_
  refine J.newa (N' := 48) C k1_74 (by decide) (by decide) (Nat.le_of_ble_eq_true rfl) (Nat.le_of_ble_eq_true rfl) (Nat.le_of_ble_eq_true rfl) dX4_init_33 (fun a3 => ?_)
  refine J.wsE (ws' := [(h0, .inr (4, [.int 0, .int 0, .ref a1, .ref a2, .null])), (a1, .inl (ca 0, 24, .inl (fun _ => 0))), (a2, .inl (ca 0, 24, .inl (fun _ => 0))), (a3, .inl (ca 0, 48, .inl (fun _ => 0)))]) rfl ?_
  refine J.putF (ws' := [(h0, .inr (4, [.int 0, .int 0, .ref a1, .ref a2, .ref a3])), (a1, .inl (ca 0, 24, .inl (fun _ => 0))), (a2, .inl (ca 0, 24, .inl (fun _ => 0))), (a3, .inl (ca 0, 48, .inl (fun _ => 0)))]) (T := TX4) (k := 4) C I 0 tyX4 tyX4_ok nmX4 rfl (ci := 4) rfl inG4 (by decide) k2_29 rfl rfl (tyX4_ok 4 (by decide)) rfl rfl (by simp) rfl dX4_init_35 ?_
  refine J.perm (ws' := ch4 ca (fun k => ([h0, a1, a2, a3] : List Nat).getD k 0)) [0, 1, 2, 3] (by decide) rfl rfl ?_
  exact J.vret C R ⟨_, rfl, rfl⟩ (Nat.le_of_ble_eq_true rfl) (Nat.le_of_ble_eq_true rfl) dX4_init_38
def ch5 (ca : Nat → ClassId) (q : Nat → Nat) : va_W := [(q 0, .inr (5, [.int (-1), .int 0, .int 0, .int 0, .ref (q 1), .ref (q 2), .ref (q 3)])), (q 1, .inl (ca 0, 4, .inl (fun _ => 0))), (q 2, .inl (ca 0, 200, .inl (fun _ => 0))), (q 3, .inl (ca 0, 200, .inl (fun _ => 0)))]
set_option maxRecDepth 100000 in
set_option maxHeartbeats 4000000 in
theorem ci_X5_init (ca : Nat → ClassId) (h0 : Nat) : CtI yX5_init cX5_init 1 1 3 404 ca [.ref h0] [(h0, .inr (5, [.int 0, .int 0, .int 0, .int 0, .null, .null, .null]))] (fun w => ∃ q : Nat → Nat, q 0 = h0 ∧ w = ch5 ca q) := by
  refine CtI.of (by decide +kernel) (Nat.le_of_ble_eq_true rfl) (fun X sz C hI R => ?_)
  have I := hI rfl
  have C : Jk X ca cX5_init "NineTongues$Route" 1 1 3 404 := C
  refine J.aload_n (pl := 0) C dX5_init_0 rfl rfl ?_
  refine J.objInit C k1_201 k1_22 k1_23 (by decide) (Nat.le_of_ble_eq_true rfl) dX5_init_1 ?_
  refine J.aload_n (pl := 0) C dX5_init_4 rfl rfl ?_
  refine J.iconst (v := (-1)) C dX5_init_5 (by decide) ?_
  refine J.put (ws' := [(h0, .inr (5, [.int (-1), .int 0, .int 0, .int 0, .null, .null, .null]))]) (T := TX5) (k := 0) C 0 tyX5 tyX5_ok nmX5 rfl (ci := 5) rfl inG5 (by decide) k1_202 rfl (tyX5_ok 0 (by decide)) rfl rfl (by simp) rfl dX5_init_6 ?_
  refine J.aload_n (pl := 0) C dX5_init_9 rfl rfl ?_
  refine J.iconst (v := 0) C dX5_init_10 (by decide) ?_
  refine J.put (ws' := [(h0, .inr (5, [.int (-1), .int 0, .int 0, .int 0, .null, .null, .null]))]) (T := TX5) (k := 1) C 0 tyX5 tyX5_ok nmX5 rfl (ci := 5) rfl inG5 (by decide) k1_204 rfl (tyX5_ok 1 (by decide)) rfl rfl (by simp) rfl dX5_init_11 ?_
  refine J.aload_n (pl := 0) C dX5_init_14 rfl rfl ?_
  refine J.iconst (v := 0) C dX5_init_15 (by decide) ?_
  refine J.put (ws' := [(h0, .inr (5, [.int (-1), .int 0, .int 0, .int 0, .null, .null, .null]))]) (T := TX5) (k := 2) C 0 tyX5 tyX5_ok nmX5 rfl (ci := 5) rfl inG5 (by decide) k1_206 rfl (tyX5_ok 2 (by decide)) rfl rfl (by simp) rfl dX5_init_16 ?_
  refine J.aload_n (pl := 0) C dX5_init_19 rfl rfl ?_
  refine J.iconst (v := 0) C dX5_init_20 (by decide) ?_
  refine J.put (ws' := [(h0, .inr (5, [.int (-1), .int 0, .int 0, .int 0, .null, .null, .null]))]) (T := TX5) (k := 3) C 0 tyX5 tyX5_ok nmX5 rfl (ci := 5) rfl inG5 (by decide) k1_207 rfl (tyX5_ok 3 (by decide)) rfl rfl (by simp) rfl dX5_init_21 ?_
  refine J.aload_n (pl := 0) C dX5_init_24 rfl rfl ?_
  refine J.iconst (v := 4) C dX5_init_25 (by decide) ?_
  refine J.newa (N' := 4) C k1_74 (by decide) (by decide) (Nat.le_of_ble_eq_true rfl) (Nat.le_of_ble_eq_true rfl) (Nat.le_of_ble_eq_true rfl) dX5_init_26 (fun a1 => ?_)
  refine J.wsE (ws' := [(h0, .inr (5, [.int (-1), .int 0, .int 0, .int 0, .null, .null, .null])), (a1, .inl (ca 0, 4, .inl (fun _ => 0)))]) rfl ?_
  refine J.putF (ws' := [(h0, .inr (5, [.int (-1), .int 0, .int 0, .int 0, .ref a1, .null, .null])), (a1, .inl (ca 0, 4, .inl (fun _ => 0)))]) (T := TX5) (k := 4) C I 0 tyX5 tyX5_ok nmX5 rfl (ci := 5) rfl inG5 (by decide) k1_208 rfl rfl (tyX5_ok 4 (by decide)) rfl rfl (by simp) rfl dX5_init_28 ?_
  refine J.aload_n (pl := 0) C dX5_init_31 rfl rfl ?_
  refine J.sipush (v := 200) C dX5_init_32 (by decide) ?_
  refine J.newa (N' := 200) C k1_74 (by decide) (by decide) (Nat.le_of_ble_eq_true rfl) (Nat.le_of_ble_eq_true rfl) (Nat.le_of_ble_eq_true rfl) dX5_init_35 (fun a2 => ?_)
  refine J.wsE (ws' := [(h0, .inr (5, [.int (-1), .int 0, .int 0, .int 0, .ref a1, .null, .null])), (a1, .inl (ca 0, 4, .inl (fun _ => 0))), (a2, .inl (ca 0, 200, .inl (fun _ => 0)))]) rfl ?_
  refine J.putF (ws' := [(h0, .inr (5, [.int (-1), .int 0, .int 0, .int 0, .ref a1, .ref a2, .null])), (a1, .inl (ca 0, 4, .inl (fun _ => 0))), (a2, .inl (ca 0, 200, .inl (fun _ => 0)))]) (T := TX5) (k := 5) C I 0 tyX5 tyX5_ok nmX5 rfl (ci := 5) rfl inG5 (by decide) k1_209 rfl rfl (tyX5_ok 5 (by decide)) rfl rfl (by simp) rfl dX5_init_37 ?_
  refine J.aload_n (pl := 0) C dX5_init_40 rfl rfl ?_
  refine J.sipush (v := 200) C dX5_init_41 (by decide) ?_
  refine J.newa (N' := 200) C k1_74 (by decide) (by decide) (Nat.le_of_ble_eq_true rfl) (Nat.le_of_ble_eq_true rfl) (Nat.le_of_ble_eq_true rfl) dX5_init_44 (fun a3 => ?_)
  refine J.wsE (ws' := [(h0, .inr (5, [.int (-1), .int 0, .int 0, .int 0, .ref a1, .ref a2, .null])), (a1, .inl (ca 0, 4, .inl (fun _ => 0))), (a2, .inl (ca 0, 200, .inl (fun _ => 0))), (a3, .inl (ca 0, 200, .inl (fun _ => 0)))]) rfl ?_
  refine J.putF (ws' := [(h0, .inr (5, [.int (-1), .int 0, .int 0, .int 0, .ref a1, .ref a2, .ref a3])), (a1, .inl (ca 0, 4, .inl (fun _ => 0))), (a2, .inl (ca 0, 200, .inl (fun _ => 0))), (a3, .inl (ca 0, 200, .inl (fun _ => 0)))]) (T := TX5) (k := 6) C I 0 tyX5 tyX5_ok nmX5 rfl (ci := 5) rfl inG5 (by decide) k1_210 rfl rfl (tyX5_ok 6 (by decide)) rfl rfl (by simp) rfl dX5_init_46 ?_
  refine J.perm (ws' := ch5 ca (fun k => ([h0, a1, a2, a3] : List Nat).getD k 0)) [0, 1, 2, 3] (by decide) rfl rfl ?_
  exact J.vret C R ⟨_, rfl, rfl⟩ (Nat.le_of_ble_eq_true rfl) (Nat.le_of_ble_eq_true rfl) dX5_init_49
def ch7 (ca : Nat → ClassId) (q : Nat → Nat) : va_W := [(q 0, .inr (7, [.int 0, .ref (q 1), .ref (q 2), .ref (q 3)])), (q 1, .inl (ca 0, 6, .inl (fun _ => 0))), (q 2, .inl (ca 0, 6, .inl (fun _ => 0))), (q 3, .inl (ca 0, 4, .inl (jFill 4 (-1) (fun _ => 0))))]
set_option maxRecDepth 100000 in
set_option maxHeartbeats 4000000 in
theorem ci_X7_init (ca : Nat → ClassId) (h0 : Nat) : CtI yX7_init cX7_init 1 3 3 16 ca [.ref h0] [(h0, .inr (7, [.int 0, .null, .null, .null]))] (fun w => ∃ q : Nat → Nat, q 0 = h0 ∧ w = ch7 ca q) := by
  refine CtI.of (by decide +kernel) (Nat.le_of_ble_eq_true rfl) (fun X sz C hI R => ?_)
  have I := hI rfl
  have C : Jk X ca cX7_init "NineTongues$State" 1 3 3 16 := C
  refine J.aload_n (pl := 0) C dX7_init_0 rfl rfl ?_
  refine J.objInit C k1_80 k1_22 k1_23 (by decide) (Nat.le_of_ble_eq_true rfl) dX7_init_1 ?_
  refine J.aload_n (pl := 0) C dX7_init_4 rfl rfl ?_
  refine J.iconst (v := 0) C dX7_init_5 (by decide) ?_
  refine J.put (ws' := [(h0, .inr (7, [.int 0, .null, .null, .null]))]) (T := TX7) (k := 0) C 0 tyX7 tyX7_ok nmX7 rfl (ci := 7) rfl inG7 (by decide) k1_88 rfl (tyX7_ok 0 (by decide)) rfl rfl (by simp) rfl dX7_init_6 ?_
  refine J.aload_n (pl := 0) C dX7_init_9 rfl rfl ?_
  refine J.bipush (v := 6) C dX7_init_10 (by decide) ?_
  refine J.newa (N' := 6) C k1_74 (by decide) (by decide) (Nat.le_of_ble_eq_true rfl) (Nat.le_of_ble_eq_true rfl) (Nat.le_of_ble_eq_true rfl) dX7_init_12 (fun a1 => ?_)
  refine J.wsE (ws' := [(h0, .inr (7, [.int 0, .null, .null, .null])), (a1, .inl (ca 0, 6, .inl (fun _ => 0)))]) rfl ?_
  refine J.putF (ws' := [(h0, .inr (7, [.int 0, .ref a1, .null, .null])), (a1, .inl (ca 0, 6, .inl (fun _ => 0)))]) (T := TX7) (k := 1) C I 0 tyX7 tyX7_ok nmX7 rfl (ci := 7) rfl inG7 (by decide) k1_93 rfl rfl (tyX7_ok 1 (by decide)) rfl rfl (by simp) rfl dX7_init_14 ?_
  refine J.aload_n (pl := 0) C dX7_init_17 rfl rfl ?_
  refine J.bipush (v := 6) C dX7_init_18 (by decide) ?_
  refine J.newa (N' := 6) C k1_74 (by decide) (by decide) (Nat.le_of_ble_eq_true rfl) (Nat.le_of_ble_eq_true rfl) (Nat.le_of_ble_eq_true rfl) dX7_init_20 (fun a2 => ?_)
  refine J.wsE (ws' := [(h0, .inr (7, [.int 0, .ref a1, .null, .null])), (a1, .inl (ca 0, 6, .inl (fun _ => 0))), (a2, .inl (ca 0, 6, .inl (fun _ => 0)))]) rfl ?_
  refine J.putF (ws' := [(h0, .inr (7, [.int 0, .ref a1, .ref a2, .null])), (a1, .inl (ca 0, 6, .inl (fun _ => 0))), (a2, .inl (ca 0, 6, .inl (fun _ => 0)))]) (T := TX7) (k := 2) C I 0 tyX7 tyX7_ok nmX7 rfl (ci := 7) rfl inG7 (by decide) k1_98 rfl rfl (tyX7_ok 2 (by decide)) rfl rfl (by simp) rfl dX7_init_22 ?_
  refine J.aload_n (pl := 0) C dX7_init_25 rfl rfl ?_
  refine J.iconst (v := 4) C dX7_init_26 (by decide) ?_
  refine J.newa (N' := 4) C k1_74 (by decide) (by decide) (Nat.le_of_ble_eq_true rfl) (Nat.le_of_ble_eq_true rfl) (Nat.le_of_ble_eq_true rfl) dX7_init_27 (fun a3 => ?_)
  refine J.wsE (ws' := [(h0, .inr (7, [.int 0, .ref a1, .ref a2, .null])), (a1, .inl (ca 0, 6, .inl (fun _ => 0))), (a2, .inl (ca 0, 6, .inl (fun _ => 0))), (a3, .inl (ca 0, 4, .inl (fun _ => 0)))]) rfl ?_
  refine J.putF (ws' := [(h0, .inr (7, [.int 0, .ref a1, .ref a2, .ref a3])), (a1, .inl (ca 0, 6, .inl (fun _ => 0))), (a2, .inl (ca 0, 6, .inl (fun _ => 0))), (a3, .inl (ca 0, 4, .inl (fun _ => 0)))]) (T := TX7) (k := 3) C I 0 tyX7 tyX7_ok nmX7 rfl (ci := 7) rfl inG7 (by decide) k1_101 rfl rfl (tyX7_ok 3 (by decide)) rfl rfl (by simp) rfl dX7_init_29 ?_
  refine J.aload_n (pl := 0) C dX7_init_32 rfl rfl ?_
  refine J.callV (wr := [(a1, .inl (ca 0, 6, .inl (fun _ => 0))), (a2, .inl (ca 0, 6, .inl (fun _ => 0)))]) C 0 [0, 3] [1, 2] (ci_empty ca h0 a1 a2 a3) mv_X7_empty k1_81 rfl (ci := 7) rfl rfl rfl (by decide) rfl (by decide) (by decide) (Nat.le_of_ble_eq_true rfl) (by decide) (Nat.le_of_ble_eq_true rfl) (Nat.le_of_ble_eq_true rfl) dX7_init_33 (fun w1 hp => ?_)
  subst hp
  refine J.wsE (ws' := [(a1, .inl (ca 0, 6, .inl (fun _ => 0))), (a2, .inl (ca 0, 6, .inl (fun _ => 0))), (h0, .inr (7, [.int 0, .ref a1, .ref a2, .ref a3])), (a3, .inl (ca 0, 4, .inl (jFill 4 (-1) (fun _ => 0))))]) rfl ?_
  refine J.perm (ws' := ch7 ca (fun k => ([h0, a1, a2, a3] : List Nat).getD k 0)) [2, 0, 1, 3] (by decide) rfl rfl ?_
  exact J.vret C R ⟨_, rfl, rfl⟩ (Nat.le_of_ble_eq_true rfl) (Nat.le_of_ble_eq_true rfl) dX7_init_36
