/-! what the law asks of the two programs' functions -/
def pu {α : Type} (f : Mem → Option α) : Mem → Option (α × Mem) := fun M => match f M with
  | none => none
  | some a => some (a, M)
theorem pu_some {α : Type} {f : Mem → Option α} {M M1 : Mem} {r : α} (h : pu f M = some (r, M1)) : f M = some r ∧ M1 = M := by
  unfold pu at h
  split at h
  · cases h
  · rename_i a ha
    cases h
    exact ⟨ha, rfl⟩
def opI {α : Type} (Rel : Mem → Prop) (fx fm : Mem → Option (α × Mem)) : Prop := ∀ M, Rel M → ∃ r M1 M2, fx M = some (r, M1) ∧ fm M1 = some (r, M2) ∧ Rel M2
def LawOk (Rel : Mem → Prop) : Prop := (∀ (a0 : Int32) (a1 : Int32) (a2 : Int32), opI Rel (f_X9_tongue a0 a1 a2) (f_X10_tongue a0 a1 a2)) ∧ (∀ (a0 : Int32) (a1 : Int32) (a2 : Int32) (a3 : Int32), opI Rel (f_X9_word a0 a1 a2 a3) (f_X10_word a0 a1 a2 a3)) ∧ (∀ (a0 : Int32) (a1 : Int32), opI Rel (f_X9_put a0 a1) (f_X10_put a0 a1)) ∧ (∀ (a0 : Int32), opI Rel (f_X9_say a0) (f_X10_say a0)) ∧ (∀ (a0 : Int32) (a1 : Int32), opI Rel (f_X9_form a0 a1) (f_X10_form a0 a1)) ∧ (opI Rel (f_X9_hush) (f_X10_hush)) ∧ (∀ (a0 : Int32) (a1 : Int32) (a2 : Int32) (a3 : Int32), opI Rel (f_X9_cost a0 a1 a2 a3) (f_X10_cost a0 a1 a2 a3)) ∧ (∀ (a0 : Int64) (a1 : Int32), opI Rel (f_X9_type a0 a1) (f_X10_type a0 a1)) ∧ (opI Rel (f_X9_clear) (f_X10_clear)) ∧ (opI Rel (f_X9_fault) (f_X10_fault)) ∧ (opI Rel (f_X9_length) (f_X10_length)) ∧ (∀ (a0 : Int32) (a1 : Int32), opI Rel (f_X9_parts a0 a1) (f_X10_parts a0 a1)) ∧ (∀ (a0 : Int32) (a1 : Int32), opI Rel (f_X9_formOf a0 a1) (f_X10_formOf a0 a1)) ∧ (∀ (a0 : Int32) (a1 : Int32), opI Rel (f_X9_step a0 a1) (f_X10_step a0 a1)) ∧ (∀ (a0 : Int32) (a1 : Int32), opI Rel (f_X9_unlike a0 a1) (f_X10_unlike a0 a1)) ∧ (∀ (a0 : Int32) (a1 : Int32), opI Rel (f_X9_gone a0 a1) (f_X10_gone a0 a1)) ∧ (∀ (a0 : Int32) (a1 : Int32) (a2 : Int32) (a3 : Int32), opI Rel (f_X9_best a0 a1 a2 a3) (f_X10_best a0 a1 a2 a3)) ∧ (∀ (a0 : Int32) (a1 : Int32), opI Rel (f_X9_third a0 a1) (f_X10_third a0 a1)) ∧ (∀ (a0 : Int32) (a1 : Int32) (a2 : Int32) (a3 : Int32), opI Rel (f_X9_round a0 a1 a2 a3) (f_X10_round a0 a1 a2 a3)) ∧ (∀ (a0 : Int32) (a1 : Int32), opI Rel (f_X9_common a0 a1) (f_X10_common a0 a1)) ∧ (∀ (a0 : Int32) (a1 : Int32) (a2 : Int32), opI Rel (f_X9_bears a0 a1 a2) (f_X10_bears a0 a1 a2)) ∧ (opI Rel (pu (f_X9_middle)) (pu (f_X10_middle))) ∧ (∀ (a0 : Int32) (a1 : Int32), opI Rel (f_X9_end a0 a1) (f_X10_end a0 a1)) ∧ (∀ (a0 : Int32) (a1 : Int32), opI Rel (f_X9_endForm a0 a1) (f_X10_endForm a0 a1)) ∧ (∀ (a0 : Int32) (a1 : Int32) (a2 : Int32), opI Rel (f_X9_which a0 a1 a2) (f_X10_which a0 a1 a2)) ∧ (∀ (a0 : Int32) (a1 : Int32) (a2 : Int32) (a3 : Int32), opI Rel (f_X9_pair a0 a1 a2 a3) (f_X10_pair a0 a1 a2 a3)) ∧ (∀ (a0 : Int32), opI Rel (f_X9_rings a0) (f_X10_rings a0)) ∧ (∀ (a0 : Int32), opI Rel (f_X9_atFault a0) (f_X10_atFault a0)) ∧ (opI Rel (f_X9_worst) (f_X10_worst)) ∧ (opI Rel (f_X9_sets) (f_X10_sets)) ∧ (∀ (a0 : Int32) (a1 : Int32) (a2 : Int32) (a3 : Int32), opI Rel (f_X9_alike a0 a1 a2 a3) (f_X10_alike a0 a1 a2 a3)) ∧ (∀ (a0 : Int32), opI Rel (f_X9_part a0) (f_X10_part a0)) ∧ (∀ (a0 : Int32), opI Rel (f_X9_image a0) (f_X10_image a0)) ∧ (∀ (a0 : Int32), opI Rel (f_X9_from a0) (f_X10_from a0)) ∧ (∀ (a0 : Int32), opI Rel (f_X9_status a0) (f_X10_status a0)) ∧ (∀ (a0 : Int32), opI Rel (f_X9_count a0) (f_X10_count a0)) ∧ (opI Rel (pu (f_X9_digest)) (f_X10_digest))
def Gs (X : Gc) (b L : Nat) (xs : Nat → Int32) : Prop := match X with
  | (_, _, _, _, s, _, _, _, _, _, _, A, H0, _, _, _, _) => va_X b L xs s H0 ∧ b < H0.size ∧ ¬ A b
def Gl (X : Gc) (b : Nat) : Prop := match X with
  | (_, _, _, R, s, _, args, below, meth, _, Q, A, H0, _, _, kc, ks) => args = #[Value.ref b] ∧ R = room_1 ∧ meth.sig.returnType = ret ∧ meth.locks = false ∧ Q = lw_Z below #[Value.ref b] s ∧ A = (fun q : Nat => s.heap.size ≤ q) ∧ H0 = s.heap ∧ kc = 600000 ∧ ks = 7302250
theorem G.sld {X : Gc} {ad : Nat → Nat} {cc : ByteArray} {own : String} {nl d pc : Nat} {lv : List (Nat × Value)} {st : List Value} {M : Mem} {b L : Nat} {xs : Nat → Int32} (C : Gk X ad cc own nl d) (S : Gs X b L xs) {i v : Int32} (hin : vp_in i L) (hv : xs i.toNatClampNeg = v) (hdg : decode cc pc = .ok (.iaload, 1)) (kk : G X ad (pc + 1) nl lv (.int v :: st) M) : G X ad pc nl lv (.int i :: .ref b :: st) M := by
  subst hv
  obtain ⟨p, l, e, R, s, m, args, below, meth, c, Q, A, H0, dd, ca, kc, ks⟩ := X
  obtain ⟨hx, hb, hml, hown, hts, hK, hN, hI, hA, hfr, hlo, hkc, hks⟩ := C
  obtain ⟨hX, hbl, hbA⟩ := S
  exact fun H locs ls hP hS hl0 => va_sld hx hb hX hbl hbA hS hin hdg (kk H locs ls hP hS hl0)
theorem G.slen {X : Gc} {ad : Nat → Nat} {cc : ByteArray} {own : String} {nl d pc : Nat} {lv : List (Nat × Value)} {st : List Value} {M : Mem} {b L : Nat} {xs : Nat → Int32} (C : Gk X ad cc own nl d) (S : Gs X b L xs) (hdg : decode cc pc = .ok (.arraylength, 1)) (kk : G X ad (pc + 1) nl lv (.int (nI L) :: st) M) : G X ad pc nl lv (.ref b :: st) M := by
  obtain ⟨p, l, e, R, s, m, args, below, meth, c, Q, A, H0, dd, ca, kc, ks⟩ := X
  obtain ⟨hx, hb, hml, hown, hts, hK, hN, hI, hA, hfr, hlo, hkc, hks⟩ := C
  obtain ⟨hX, hbl, hbA⟩ := S
  exact fun H locs ls hP hS hl0 => va_slen hx hb hX hbl hbA hS hdg (kk H locs ls hP hS hl0)
theorem G.lawret {X : Gc} {ad : Nat → Nat} {nl d pc : Nat} {own : String} {lv : List (Nat × Value)} {M : Mem} {b : Nat} (C : Gk X ad cL_law own nl d) (R0 : Gl X b) (hdg : decode cL_law pc = .ok (.ireturn, 1)) : G X ad pc nl lv [.int 1] M := by
  obtain ⟨p, l, e, R, s, m, args, below, meth, c, Q, A, H0, dd, ca, kc, ks⟩ := X
  obtain ⟨hx, hb, hml, hown, hts, hK, hN, hI, hA, hfr, hlo, hkc, hks⟩ := C
  obtain ⟨rfl, rfl, r1, r2, rfl, rfl, rfl, rfl, rfl⟩ := R0
  intro H locs ls hP hS hl0
  exact va_forget (fun q hq => hS.2.2 q hq) (lw_ret hx hb r1 r2 hdg)
theorem lg_cmp_self (x : Int64) : lg_cmp x x = 0 := by
  unfold lg_cmp
  first | (simp; done) | (split <;> simp_all)
set_option maxRecDepth 100000 in
set_option maxHeartbeats 4000000 in
theorem law_0 {Rel : Mem → Prop} {X : Gc} {ad : Nat → Nat} {b L i : Nat} {xs : Nat → Int32} {M : Mem} {s1 s2 s3 s4 : Int32} (C : Gk X ad cL_law "NineTonguesLaw" 4 10) (S : Gs X b L xs) (hi1 : vp_in (nI i + 1) L) (hi2 : vp_in (nI i + 2) L) (hi3 : vp_in (nI i + 3) L) (hi4 : vp_in (nI i + 4) L) (hv1 : xs (nI i + 1).toNatClampNeg = s1) (hv2 : xs (nI i + 2).toNatClampNeg = s2) (hv3 : xs (nI i + 3).toNatClampNeg = s3) (hv4 : xs (nI i + 4).toNatClampNeg = s4) (hO : opI Rel (f_X9_tongue s1 s2 s3) (f_X10_tongue s1 s2 s3)) (hR : Rel M) (ih : ∀ M2, Rel M2 → G X ad 1358 4 [(0, .ref b), (1, .ref (ad 0)), (2, .ref (ad 108)), (3, .int (nI i))] [] M2) : G X ad 196 4 [(0, .ref b), (1, .ref (ad 0)), (2, .ref (ad 108)), (3, .int (nI i))] [] M := by
  obtain ⟨r, M1, M2, h1, h2, h3⟩ := hO M hR
  refine G.aload_n (pl := 1) C dL_law_196 rfl rfl ?_
  refine G.aload_n (pl := 0) C dL_law_197 rfl rfl ?_
  refine G.iload_n (pl := 3) C dL_law_198 rfl rfl ?_
  refine G.iconst (v := 1) C dL_law_199 (by decide) ?_
  refine G.iadd C dL_law_200 ?_
  refine G.sld C S hi1 hv1 dL_law_201 ?_
  refine G.aload_n (pl := 0) C dL_law_202 rfl rfl ?_
  refine G.iload_n (pl := 3) C dL_law_203 rfl rfl ?_
  refine G.iconst (v := 2) C dL_law_204 (by decide) ?_
  refine G.iadd C dL_law_205 ?_
  refine G.sld C S hi2 hv2 dL_law_206 ?_
  refine G.aload_n (pl := 0) C dL_law_207 rfl rfl ?_
  refine G.iload_n (pl := 3) C dL_law_208 rfl rfl ?_
  refine G.iconst (v := 3) C dL_law_209 (by decide) ?_
  refine G.iadd C dL_law_210 ?_
  refine G.sld C S hi3 hv3 dL_law_211 ?_
  refine G.callV (st1 := [.int r]) C [.int s1, .int s2, .int s3] [] (c_X9_tongue h1) mv_X9_tongue k2_81 o_0.1 (fun _ => gShp_19 o_0) rfl rfl rfl rfl rfl (Nat.le_of_ble_eq_true rfl) (by decide) dL_law_212 rfl ?_
  refine G.aload_n (pl := 2) C dL_law_215 rfl rfl ?_
  refine G.aload_n (pl := 0) C dL_law_216 rfl rfl ?_
  refine G.iload_n (pl := 3) C dL_law_217 rfl rfl ?_
  refine G.iconst (v := 1) C dL_law_218 (by decide) ?_
  refine G.iadd C dL_law_219 ?_
  refine G.sld C S hi1 hv1 dL_law_220 ?_
  refine G.aload_n (pl := 0) C dL_law_221 rfl rfl ?_
  refine G.iload_n (pl := 3) C dL_law_222 rfl rfl ?_
  refine G.iconst (v := 2) C dL_law_223 (by decide) ?_
  refine G.iadd C dL_law_224 ?_
  refine G.sld C S hi2 hv2 dL_law_225 ?_
  refine G.aload_n (pl := 0) C dL_law_226 rfl rfl ?_
  refine G.iload_n (pl := 3) C dL_law_227 rfl rfl ?_
  refine G.iconst (v := 3) C dL_law_228 (by decide) ?_
  refine G.iadd C dL_law_229 ?_
  refine G.sld C S hi3 hv3 dL_law_230 ?_
  refine G.callV (st1 := [.int r, .int r]) C [.int s1, .int s2, .int s3] [.int r] (c_X10_tongue h2) mv_X10_tongue k4_185 o_108.1 (fun _ => gShp_20 o_108) rfl rfl rfl rfl rfl (Nat.le_of_ble_eq_true rfl) (by decide) dL_law_231 rfl ?_
  exact G.icmp_eq (tgt := 1358) C dL_law_234 (by decide) (fun _ => ih M2 h3) (fun h => absurd rfl h)
set_option maxRecDepth 100000 in
set_option maxHeartbeats 4000000 in
theorem law_1 {Rel : Mem → Prop} {X : Gc} {ad : Nat → Nat} {b L i : Nat} {xs : Nat → Int32} {M : Mem} {s1 s2 s3 s4 : Int32} (C : Gk X ad cL_law "NineTonguesLaw" 4 10) (S : Gs X b L xs) (hi1 : vp_in (nI i + 1) L) (hi2 : vp_in (nI i + 2) L) (hi3 : vp_in (nI i + 3) L) (hi4 : vp_in (nI i + 4) L) (hv1 : xs (nI i + 1).toNatClampNeg = s1) (hv2 : xs (nI i + 2).toNatClampNeg = s2) (hv3 : xs (nI i + 3).toNatClampNeg = s3) (hv4 : xs (nI i + 4).toNatClampNeg = s4) (hO : opI Rel (f_X9_word s1 s2 s3 s4) (f_X10_word s1 s2 s3 s4)) (hR : Rel M) (ih : ∀ M2, Rel M2 → G X ad 1358 4 [(0, .ref b), (1, .ref (ad 0)), (2, .ref (ad 108)), (3, .int (nI i))] [] M2) : G X ad 239 4 [(0, .ref b), (1, .ref (ad 0)), (2, .ref (ad 108)), (3, .int (nI i))] [] M := by
  obtain ⟨r, M1, M2, h1, h2, h3⟩ := hO M hR
  refine G.aload_n (pl := 1) C dL_law_239 rfl rfl ?_
  refine G.aload_n (pl := 0) C dL_law_240 rfl rfl ?_
  refine G.iload_n (pl := 3) C dL_law_241 rfl rfl ?_
  refine G.iconst (v := 1) C dL_law_242 (by decide) ?_
  refine G.iadd C dL_law_243 ?_
  refine G.sld C S hi1 hv1 dL_law_244 ?_
  refine G.aload_n (pl := 0) C dL_law_245 rfl rfl ?_
  refine G.iload_n (pl := 3) C dL_law_246 rfl rfl ?_
  refine G.iconst (v := 2) C dL_law_247 (by decide) ?_
  refine G.iadd C dL_law_248 ?_
  refine G.sld C S hi2 hv2 dL_law_249 ?_
  refine G.aload_n (pl := 0) C dL_law_250 rfl rfl ?_
  refine G.iload_n (pl := 3) C dL_law_251 rfl rfl ?_
  refine G.iconst (v := 3) C dL_law_252 (by decide) ?_
  refine G.iadd C dL_law_253 ?_
  refine G.sld C S hi3 hv3 dL_law_254 ?_
  refine G.aload_n (pl := 0) C dL_law_255 rfl rfl ?_
  refine G.iload_n (pl := 3) C dL_law_256 rfl rfl ?_
  refine G.iconst (v := 4) C dL_law_257 (by decide) ?_
  refine G.iadd C dL_law_258 ?_
  refine G.sld C S hi4 hv4 dL_law_259 ?_
  refine G.callV (st1 := [.int r]) C [.int s1, .int s2, .int s3, .int s4] [] (c_X9_word h1) mv_X9_word k2_100 o_0.1 (fun _ => gShp_19 o_0) rfl rfl rfl rfl rfl (Nat.le_of_ble_eq_true rfl) (by decide) dL_law_260 rfl ?_
  refine G.aload_n (pl := 2) C dL_law_263 rfl rfl ?_
  refine G.aload_n (pl := 0) C dL_law_264 rfl rfl ?_
  refine G.iload_n (pl := 3) C dL_law_265 rfl rfl ?_
  refine G.iconst (v := 1) C dL_law_266 (by decide) ?_
  refine G.iadd C dL_law_267 ?_
  refine G.sld C S hi1 hv1 dL_law_268 ?_
  refine G.aload_n (pl := 0) C dL_law_269 rfl rfl ?_
  refine G.iload_n (pl := 3) C dL_law_270 rfl rfl ?_
  refine G.iconst (v := 2) C dL_law_271 (by decide) ?_
  refine G.iadd C dL_law_272 ?_
  refine G.sld C S hi2 hv2 dL_law_273 ?_
  refine G.aload_n (pl := 0) C dL_law_274 rfl rfl ?_
  refine G.iload_n (pl := 3) C dL_law_275 rfl rfl ?_
  refine G.iconst (v := 3) C dL_law_276 (by decide) ?_
  refine G.iadd C dL_law_277 ?_
  refine G.sld C S hi3 hv3 dL_law_278 ?_
  refine G.aload_n (pl := 0) C dL_law_279 rfl rfl ?_
  refine G.iload_n (pl := 3) C dL_law_280 rfl rfl ?_
  refine G.iconst (v := 4) C dL_law_281 (by decide) ?_
  refine G.iadd C dL_law_282 ?_
  refine G.sld C S hi4 hv4 dL_law_283 ?_
  refine G.callV (st1 := [.int r, .int r]) C [.int s1, .int s2, .int s3, .int s4] [.int r] (c_X10_word h2) mv_X10_word k4_200 o_108.1 (fun _ => gShp_20 o_108) rfl rfl rfl rfl rfl (Nat.le_of_ble_eq_true rfl) (by decide) dL_law_284 rfl ?_
  exact G.icmp_eq (tgt := 1358) C dL_law_287 (by decide) (fun _ => ih M2 h3) (fun h => absurd rfl h)
set_option maxRecDepth 100000 in
set_option maxHeartbeats 4000000 in
theorem law_2 {Rel : Mem → Prop} {X : Gc} {ad : Nat → Nat} {b L i : Nat} {xs : Nat → Int32} {M : Mem} {s1 s2 s3 s4 : Int32} (C : Gk X ad cL_law "NineTonguesLaw" 4 10) (S : Gs X b L xs) (hi1 : vp_in (nI i + 1) L) (hi2 : vp_in (nI i + 2) L) (hi3 : vp_in (nI i + 3) L) (hi4 : vp_in (nI i + 4) L) (hv1 : xs (nI i + 1).toNatClampNeg = s1) (hv2 : xs (nI i + 2).toNatClampNeg = s2) (hv3 : xs (nI i + 3).toNatClampNeg = s3) (hv4 : xs (nI i + 4).toNatClampNeg = s4) (hO : opI Rel (f_X9_put s1 s2) (f_X10_put s1 s2)) (hR : Rel M) (ih : ∀ M2, Rel M2 → G X ad 1358 4 [(0, .ref b), (1, .ref (ad 0)), (2, .ref (ad 108)), (3, .int (nI i))] [] M2) : G X ad 292 4 [(0, .ref b), (1, .ref (ad 0)), (2, .ref (ad 108)), (3, .int (nI i))] [] M := by
  obtain ⟨r, M1, M2, h1, h2, h3⟩ := hO M hR
  refine G.aload_n (pl := 1) C dL_law_292 rfl rfl ?_
  refine G.aload_n (pl := 0) C dL_law_293 rfl rfl ?_
  refine G.iload_n (pl := 3) C dL_law_294 rfl rfl ?_
  refine G.iconst (v := 1) C dL_law_295 (by decide) ?_
  refine G.iadd C dL_law_296 ?_
  refine G.sld C S hi1 hv1 dL_law_297 ?_
  refine G.aload_n (pl := 0) C dL_law_298 rfl rfl ?_
  refine G.iload_n (pl := 3) C dL_law_299 rfl rfl ?_
  refine G.iconst (v := 2) C dL_law_300 (by decide) ?_
  refine G.iadd C dL_law_301 ?_
  refine G.sld C S hi2 hv2 dL_law_302 ?_
  refine G.callV (st1 := [.int r]) C [.int s1, .int s2] [] (c_X9_put h1) mv_X9_put k2_113 o_0.1 (fun _ => gShp_19 o_0) rfl rfl rfl rfl rfl (Nat.le_of_ble_eq_true rfl) (by decide) dL_law_303 rfl ?_
  refine G.aload_n (pl := 2) C dL_law_306 rfl rfl ?_
  refine G.aload_n (pl := 0) C dL_law_307 rfl rfl ?_
  refine G.iload_n (pl := 3) C dL_law_308 rfl rfl ?_
  refine G.iconst (v := 1) C dL_law_309 (by decide) ?_
  refine G.iadd C dL_law_310 ?_
  refine G.sld C S hi1 hv1 dL_law_311 ?_
  refine G.aload_n (pl := 0) C dL_law_312 rfl rfl ?_
  refine G.iload_n (pl := 3) C dL_law_313 rfl rfl ?_
  refine G.iconst (v := 2) C dL_law_314 (by decide) ?_
  refine G.iadd C dL_law_315 ?_
  refine G.sld C S hi2 hv2 dL_law_316 ?_
  refine G.callV (st1 := [.int r, .int r]) C [.int s1, .int s2] [.int r] (c_X10_put h2) mv_X10_put k4_208 o_108.1 (fun _ => gShp_20 o_108) rfl rfl rfl rfl rfl (Nat.le_of_ble_eq_true rfl) (by decide) dL_law_317 rfl ?_
  exact G.icmp_eq (tgt := 1358) C dL_law_320 (by decide) (fun _ => ih M2 h3) (fun h => absurd rfl h)
set_option maxRecDepth 100000 in
set_option maxHeartbeats 4000000 in
theorem law_3 {Rel : Mem → Prop} {X : Gc} {ad : Nat → Nat} {b L i : Nat} {xs : Nat → Int32} {M : Mem} {s1 s2 s3 s4 : Int32} (C : Gk X ad cL_law "NineTonguesLaw" 4 10) (S : Gs X b L xs) (hi1 : vp_in (nI i + 1) L) (hi2 : vp_in (nI i + 2) L) (hi3 : vp_in (nI i + 3) L) (hi4 : vp_in (nI i + 4) L) (hv1 : xs (nI i + 1).toNatClampNeg = s1) (hv2 : xs (nI i + 2).toNatClampNeg = s2) (hv3 : xs (nI i + 3).toNatClampNeg = s3) (hv4 : xs (nI i + 4).toNatClampNeg = s4) (hO : opI Rel (f_X9_say s1) (f_X10_say s1)) (hR : Rel M) (ih : ∀ M2, Rel M2 → G X ad 1358 4 [(0, .ref b), (1, .ref (ad 0)), (2, .ref (ad 108)), (3, .int (nI i))] [] M2) : G X ad 325 4 [(0, .ref b), (1, .ref (ad 0)), (2, .ref (ad 108)), (3, .int (nI i))] [] M := by
  obtain ⟨r, M1, M2, h1, h2, h3⟩ := hO M hR
  refine G.aload_n (pl := 1) C dL_law_325 rfl rfl ?_
  refine G.aload_n (pl := 0) C dL_law_326 rfl rfl ?_
  refine G.iload_n (pl := 3) C dL_law_327 rfl rfl ?_
  refine G.iconst (v := 1) C dL_law_328 (by decide) ?_
  refine G.iadd C dL_law_329 ?_
  refine G.sld C S hi1 hv1 dL_law_330 ?_
  refine G.callV (st1 := [.int r]) C [.int s1] [] (c_X9_say h1) mv_X9_say k2_117 o_0.1 (fun _ => gShp_19 o_0) rfl rfl rfl rfl rfl (Nat.le_of_ble_eq_true rfl) (by decide) dL_law_331 rfl ?_
  refine G.aload_n (pl := 2) C dL_law_334 rfl rfl ?_
  refine G.aload_n (pl := 0) C dL_law_335 rfl rfl ?_
  refine G.iload_n (pl := 3) C dL_law_336 rfl rfl ?_
  refine G.iconst (v := 1) C dL_law_337 (by decide) ?_
  refine G.iadd C dL_law_338 ?_
  refine G.sld C S hi1 hv1 dL_law_339 ?_
  refine G.callV (st1 := [.int r, .int r]) C [.int s1] [.int r] (c_X10_say h2) mv_X10_say k4_212 o_108.1 (fun _ => gShp_20 o_108) rfl rfl rfl rfl rfl (Nat.le_of_ble_eq_true rfl) (by decide) dL_law_340 rfl ?_
  exact G.icmp_eq (tgt := 1358) C dL_law_343 (by decide) (fun _ => ih M2 h3) (fun h => absurd rfl h)
set_option maxRecDepth 100000 in
set_option maxHeartbeats 4000000 in
theorem law_4 {Rel : Mem → Prop} {X : Gc} {ad : Nat → Nat} {b L i : Nat} {xs : Nat → Int32} {M : Mem} {s1 s2 s3 s4 : Int32} (C : Gk X ad cL_law "NineTonguesLaw" 4 10) (S : Gs X b L xs) (hi1 : vp_in (nI i + 1) L) (hi2 : vp_in (nI i + 2) L) (hi3 : vp_in (nI i + 3) L) (hi4 : vp_in (nI i + 4) L) (hv1 : xs (nI i + 1).toNatClampNeg = s1) (hv2 : xs (nI i + 2).toNatClampNeg = s2) (hv3 : xs (nI i + 3).toNatClampNeg = s3) (hv4 : xs (nI i + 4).toNatClampNeg = s4) (hO : opI Rel (f_X9_form s1 s2) (f_X10_form s1 s2)) (hR : Rel M) (ih : ∀ M2, Rel M2 → G X ad 1358 4 [(0, .ref b), (1, .ref (ad 0)), (2, .ref (ad 108)), (3, .int (nI i))] [] M2) : G X ad 348 4 [(0, .ref b), (1, .ref (ad 0)), (2, .ref (ad 108)), (3, .int (nI i))] [] M := by
  obtain ⟨r, M1, M2, h1, h2, h3⟩ := hO M hR
  refine G.aload_n (pl := 1) C dL_law_348 rfl rfl ?_
  refine G.aload_n (pl := 0) C dL_law_349 rfl rfl ?_
  refine G.iload_n (pl := 3) C dL_law_350 rfl rfl ?_
  refine G.iconst (v := 1) C dL_law_351 (by decide) ?_
  refine G.iadd C dL_law_352 ?_
  refine G.sld C S hi1 hv1 dL_law_353 ?_
  refine G.aload_n (pl := 0) C dL_law_354 rfl rfl ?_
  refine G.iload_n (pl := 3) C dL_law_355 rfl rfl ?_
  refine G.iconst (v := 2) C dL_law_356 (by decide) ?_
  refine G.iadd C dL_law_357 ?_
  refine G.sld C S hi2 hv2 dL_law_358 ?_
  refine G.callV (st1 := [.int r]) C [.int s1, .int s2] [] (c_X9_form h1) mv_X9_form k2_125 o_0.1 (fun _ => gShp_19 o_0) rfl rfl rfl rfl rfl (Nat.le_of_ble_eq_true rfl) (by decide) dL_law_359 rfl ?_
  refine G.aload_n (pl := 2) C dL_law_362 rfl rfl ?_
  refine G.aload_n (pl := 0) C dL_law_363 rfl rfl ?_
  refine G.iload_n (pl := 3) C dL_law_364 rfl rfl ?_
  refine G.iconst (v := 1) C dL_law_365 (by decide) ?_
  refine G.iadd C dL_law_366 ?_
  refine G.sld C S hi1 hv1 dL_law_367 ?_
  refine G.aload_n (pl := 0) C dL_law_368 rfl rfl ?_
  refine G.iload_n (pl := 3) C dL_law_369 rfl rfl ?_
  refine G.iconst (v := 2) C dL_law_370 (by decide) ?_
  refine G.iadd C dL_law_371 ?_
  refine G.sld C S hi2 hv2 dL_law_372 ?_
  refine G.callV (st1 := [.int r, .int r]) C [.int s1, .int s2] [.int r] (c_X10_form h2) mv_X10_form k4_216 o_108.1 (fun _ => gShp_20 o_108) rfl rfl rfl rfl rfl (Nat.le_of_ble_eq_true rfl) (by decide) dL_law_373 rfl ?_
  exact G.icmp_eq (tgt := 1358) C dL_law_376 (by decide) (fun _ => ih M2 h3) (fun h => absurd rfl h)
set_option maxRecDepth 100000 in
set_option maxHeartbeats 4000000 in
theorem law_5 {Rel : Mem → Prop} {X : Gc} {ad : Nat → Nat} {b L i : Nat} {xs : Nat → Int32} {M : Mem} {s1 s2 s3 s4 : Int32} (C : Gk X ad cL_law "NineTonguesLaw" 4 10) (S : Gs X b L xs) (hi1 : vp_in (nI i + 1) L) (hi2 : vp_in (nI i + 2) L) (hi3 : vp_in (nI i + 3) L) (hi4 : vp_in (nI i + 4) L) (hv1 : xs (nI i + 1).toNatClampNeg = s1) (hv2 : xs (nI i + 2).toNatClampNeg = s2) (hv3 : xs (nI i + 3).toNatClampNeg = s3) (hv4 : xs (nI i + 4).toNatClampNeg = s4) (hO : opI Rel (f_X9_hush) (f_X10_hush)) (hR : Rel M) (ih : ∀ M2, Rel M2 → G X ad 1358 4 [(0, .ref b), (1, .ref (ad 0)), (2, .ref (ad 108)), (3, .int (nI i))] [] M2) : G X ad 381 4 [(0, .ref b), (1, .ref (ad 0)), (2, .ref (ad 108)), (3, .int (nI i))] [] M := by
  obtain ⟨r, M1, M2, h1, h2, h3⟩ := hO M hR
  refine G.aload_n (pl := 1) C dL_law_381 rfl rfl ?_
  refine G.callV (st1 := [.int r]) C [] [] (c_X9_hush h1) mv_X9_hush k2_129 o_0.1 (fun _ => gShp_19 o_0) rfl rfl rfl rfl rfl (Nat.le_of_ble_eq_true rfl) (by decide) dL_law_382 rfl ?_
  refine G.aload_n (pl := 2) C dL_law_385 rfl rfl ?_
  refine G.callV (st1 := [.int r, .int r]) C [] [.int r] (c_X10_hush h2) mv_X10_hush k4_220 o_108.1 (fun _ => gShp_20 o_108) rfl rfl rfl rfl rfl (Nat.le_of_ble_eq_true rfl) (by decide) dL_law_386 rfl ?_
  exact G.icmp_eq (tgt := 1358) C dL_law_389 (by decide) (fun _ => ih M2 h3) (fun h => absurd rfl h)
set_option maxRecDepth 100000 in
set_option maxHeartbeats 4000000 in
theorem law_6 {Rel : Mem → Prop} {X : Gc} {ad : Nat → Nat} {b L i : Nat} {xs : Nat → Int32} {M : Mem} {s1 s2 s3 s4 : Int32} (C : Gk X ad cL_law "NineTonguesLaw" 4 10) (S : Gs X b L xs) (hi1 : vp_in (nI i + 1) L) (hi2 : vp_in (nI i + 2) L) (hi3 : vp_in (nI i + 3) L) (hi4 : vp_in (nI i + 4) L) (hv1 : xs (nI i + 1).toNatClampNeg = s1) (hv2 : xs (nI i + 2).toNatClampNeg = s2) (hv3 : xs (nI i + 3).toNatClampNeg = s3) (hv4 : xs (nI i + 4).toNatClampNeg = s4) (hO : opI Rel (f_X9_cost s1 s2 s3 s4) (f_X10_cost s1 s2 s3 s4)) (hR : Rel M) (ih : ∀ M2, Rel M2 → G X ad 1358 4 [(0, .ref b), (1, .ref (ad 0)), (2, .ref (ad 108)), (3, .int (nI i))] [] M2) : G X ad 394 4 [(0, .ref b), (1, .ref (ad 0)), (2, .ref (ad 108)), (3, .int (nI i))] [] M := by
  obtain ⟨r, M1, M2, h1, h2, h3⟩ := hO M hR
  refine G.aload_n (pl := 1) C dL_law_394 rfl rfl ?_
  refine G.aload_n (pl := 0) C dL_law_395 rfl rfl ?_
  refine G.iload_n (pl := 3) C dL_law_396 rfl rfl ?_
  refine G.iconst (v := 1) C dL_law_397 (by decide) ?_
  refine G.iadd C dL_law_398 ?_
  refine G.sld C S hi1 hv1 dL_law_399 ?_
  refine G.aload_n (pl := 0) C dL_law_400 rfl rfl ?_
  refine G.iload_n (pl := 3) C dL_law_401 rfl rfl ?_
  refine G.iconst (v := 2) C dL_law_402 (by decide) ?_
  refine G.iadd C dL_law_403 ?_
  refine G.sld C S hi2 hv2 dL_law_404 ?_
  refine G.aload_n (pl := 0) C dL_law_405 rfl rfl ?_
  refine G.iload_n (pl := 3) C dL_law_406 rfl rfl ?_
  refine G.iconst (v := 3) C dL_law_407 (by decide) ?_
  refine G.iadd C dL_law_408 ?_
  refine G.sld C S hi3 hv3 dL_law_409 ?_
  refine G.aload_n (pl := 0) C dL_law_410 rfl rfl ?_
  refine G.iload_n (pl := 3) C dL_law_411 rfl rfl ?_
  refine G.iconst (v := 4) C dL_law_412 (by decide) ?_
  refine G.iadd C dL_law_413 ?_
  refine G.sld C S hi4 hv4 dL_law_414 ?_
  refine G.callV (st1 := [.int r]) C [.int s1, .int s2, .int s3, .int s4] [] (c_X9_cost h1) mv_X9_cost k2_134 o_0.1 (fun _ => gShp_19 o_0) rfl rfl rfl rfl rfl (Nat.le_of_ble_eq_true rfl) (by decide) dL_law_415 rfl ?_
  refine G.aload_n (pl := 2) C dL_law_418 rfl rfl ?_
  refine G.aload_n (pl := 0) C dL_law_419 rfl rfl ?_
  refine G.iload_n (pl := 3) C dL_law_420 rfl rfl ?_
  refine G.iconst (v := 1) C dL_law_421 (by decide) ?_
  refine G.iadd C dL_law_422 ?_
  refine G.sld C S hi1 hv1 dL_law_423 ?_
  refine G.aload_n (pl := 0) C dL_law_424 rfl rfl ?_
  refine G.iload_n (pl := 3) C dL_law_425 rfl rfl ?_
  refine G.iconst (v := 2) C dL_law_426 (by decide) ?_
  refine G.iadd C dL_law_427 ?_
  refine G.sld C S hi2 hv2 dL_law_428 ?_
  refine G.aload_n (pl := 0) C dL_law_429 rfl rfl ?_
  refine G.iload_n (pl := 3) C dL_law_430 rfl rfl ?_
  refine G.iconst (v := 3) C dL_law_431 (by decide) ?_
  refine G.iadd C dL_law_432 ?_
  refine G.sld C S hi3 hv3 dL_law_433 ?_
  refine G.aload_n (pl := 0) C dL_law_434 rfl rfl ?_
  refine G.iload_n (pl := 3) C dL_law_435 rfl rfl ?_
  refine G.iconst (v := 4) C dL_law_436 (by decide) ?_
  refine G.iadd C dL_law_437 ?_
  refine G.sld C S hi4 hv4 dL_law_438 ?_
  refine G.callV (st1 := [.int r, .int r]) C [.int s1, .int s2, .int s3, .int s4] [.int r] (c_X10_cost h2) mv_X10_cost k4_224 o_108.1 (fun _ => gShp_20 o_108) rfl rfl rfl rfl rfl (Nat.le_of_ble_eq_true rfl) (by decide) dL_law_439 rfl ?_
  exact G.icmp_eq (tgt := 1358) C dL_law_442 (by decide) (fun _ => ih M2 h3) (fun h => absurd rfl h)
set_option maxRecDepth 100000 in
set_option maxHeartbeats 4000000 in
theorem law_7 {Rel : Mem → Prop} {X : Gc} {ad : Nat → Nat} {b L i : Nat} {xs : Nat → Int32} {M : Mem} {s1 s2 s3 s4 : Int32} (C : Gk X ad cL_law "NineTonguesLaw" 4 10) (S : Gs X b L xs) (hi1 : vp_in (nI i + 1) L) (hi2 : vp_in (nI i + 2) L) (hi3 : vp_in (nI i + 3) L) (hi4 : vp_in (nI i + 4) L) (hv1 : xs (nI i + 1).toNatClampNeg = s1) (hv2 : xs (nI i + 2).toNatClampNeg = s2) (hv3 : xs (nI i + 3).toNatClampNeg = s3) (hv4 : xs (nI i + 4).toNatClampNeg = s4) (hO : opI Rel (f_X9_type ((s1.toInt64 <<< ((32 : Int32).toInt64 &&& 63)) ||| (s2.toInt64 &&& 4294967295)) s3) (f_X10_type ((s1.toInt64 <<< ((32 : Int32).toInt64 &&& 63)) ||| (s2.toInt64 &&& 4294967295)) s3)) (hR : Rel M) (ih : ∀ M2, Rel M2 → G X ad 1358 4 [(0, .ref b), (1, .ref (ad 0)), (2, .ref (ad 108)), (3, .int (nI i))] [] M2) : G X ad 447 4 [(0, .ref b), (1, .ref (ad 0)), (2, .ref (ad 108)), (3, .int (nI i))] [] M := by
  obtain ⟨r, M1, M2, h1, h2, h3⟩ := hO M hR
  refine G.aload_n (pl := 1) C dL_law_447 rfl rfl ?_
  refine G.aload_n (pl := 0) C dL_law_448 rfl rfl ?_
  refine G.iload_n (pl := 3) C dL_law_449 rfl rfl ?_
  refine G.iconst (v := 1) C dL_law_450 (by decide) ?_
  refine G.iadd C dL_law_451 ?_
  refine G.sld C S hi1 hv1 dL_law_452 ?_
  refine G.i2l C dL_law_453 ?_
  refine G.bipush (v := 32) C dL_law_454 (by decide) ?_
  refine G.lshl C dL_law_456 ?_
  refine G.aload_n (pl := 0) C dL_law_457 rfl rfl ?_
  refine G.iload_n (pl := 3) C dL_law_458 rfl rfl ?_
  refine G.iconst (v := 2) C dL_law_459 (by decide) ?_
  refine G.iadd C dL_law_460 ?_
  refine G.sld C S hi2 hv2 dL_law_461 ?_
  refine G.i2l C dL_law_462 ?_
  refine G.ldc2 C k6_1 dL_law_463 ?_
  refine G.land C dL_law_466 ?_
  refine G.lor C dL_law_467 ?_
  refine G.aload_n (pl := 0) C dL_law_468 rfl rfl ?_
  refine G.iload_n (pl := 3) C dL_law_469 rfl rfl ?_
  refine G.iconst (v := 3) C dL_law_470 (by decide) ?_
  refine G.iadd C dL_law_471 ?_
  refine G.sld C S hi3 hv3 dL_law_472 ?_
  refine G.callV (st1 := [.int r]) C [.long ((s1.toInt64 <<< ((32 : Int32).toInt64 &&& 63)) ||| (s2.toInt64 &&& 4294967295)), .int s3] [] (c_X9_type h1) mv_X9_type k2_163 o_0.1 (fun _ => gShp_19 o_0) rfl rfl rfl rfl rfl (Nat.le_of_ble_eq_true rfl) (by decide) dL_law_473 rfl ?_
  refine G.aload_n (pl := 2) C dL_law_476 rfl rfl ?_
  refine G.aload_n (pl := 0) C dL_law_477 rfl rfl ?_
  refine G.iload_n (pl := 3) C dL_law_478 rfl rfl ?_
  refine G.iconst (v := 1) C dL_law_479 (by decide) ?_
  refine G.iadd C dL_law_480 ?_
  refine G.sld C S hi1 hv1 dL_law_481 ?_
  refine G.i2l C dL_law_482 ?_
  refine G.bipush (v := 32) C dL_law_483 (by decide) ?_
  refine G.lshl C dL_law_485 ?_
  refine G.aload_n (pl := 0) C dL_law_486 rfl rfl ?_
  refine G.iload_n (pl := 3) C dL_law_487 rfl rfl ?_
  refine G.iconst (v := 2) C dL_law_488 (by decide) ?_
  refine G.iadd C dL_law_489 ?_
  refine G.sld C S hi2 hv2 dL_law_490 ?_
  refine G.i2l C dL_law_491 ?_
  refine G.ldc2 C k6_1 dL_law_492 ?_
  refine G.land C dL_law_495 ?_
  refine G.lor C dL_law_496 ?_
  refine G.aload_n (pl := 0) C dL_law_497 rfl rfl ?_
  refine G.iload_n (pl := 3) C dL_law_498 rfl rfl ?_
  refine G.iconst (v := 3) C dL_law_499 (by decide) ?_
  refine G.iadd C dL_law_500 ?_
  refine G.sld C S hi3 hv3 dL_law_501 ?_
  refine G.callV (st1 := [.int r, .int r]) C [.long ((s1.toInt64 <<< ((32 : Int32).toInt64 &&& 63)) ||| (s2.toInt64 &&& 4294967295)), .int s3] [.int r] (c_X10_type h2) mv_X10_type k4_239 o_108.1 (fun _ => gShp_20 o_108) rfl rfl rfl rfl rfl (Nat.le_of_ble_eq_true rfl) (by decide) dL_law_502 rfl ?_
  exact G.icmp_eq (tgt := 1358) C dL_law_505 (by decide) (fun _ => ih M2 h3) (fun h => absurd rfl h)
set_option maxRecDepth 100000 in
set_option maxHeartbeats 4000000 in
theorem law_8 {Rel : Mem → Prop} {X : Gc} {ad : Nat → Nat} {b L i : Nat} {xs : Nat → Int32} {M : Mem} {s1 s2 s3 s4 : Int32} (C : Gk X ad cL_law "NineTonguesLaw" 4 10) (S : Gs X b L xs) (hi1 : vp_in (nI i + 1) L) (hi2 : vp_in (nI i + 2) L) (hi3 : vp_in (nI i + 3) L) (hi4 : vp_in (nI i + 4) L) (hv1 : xs (nI i + 1).toNatClampNeg = s1) (hv2 : xs (nI i + 2).toNatClampNeg = s2) (hv3 : xs (nI i + 3).toNatClampNeg = s3) (hv4 : xs (nI i + 4).toNatClampNeg = s4) (hO : opI Rel (f_X9_clear) (f_X10_clear)) (hR : Rel M) (ih : ∀ M2, Rel M2 → G X ad 1358 4 [(0, .ref b), (1, .ref (ad 0)), (2, .ref (ad 108)), (3, .int (nI i))] [] M2) : G X ad 510 4 [(0, .ref b), (1, .ref (ad 0)), (2, .ref (ad 108)), (3, .int (nI i))] [] M := by
  obtain ⟨r, M1, M2, h1, h2, h3⟩ := hO M hR
  refine G.aload_n (pl := 1) C dL_law_510 rfl rfl ?_
  refine G.callV (st1 := [.int r]) C [] [] (c_X9_clear h1) mv_X9_clear k2_172 o_0.1 (fun _ => gShp_19 o_0) rfl rfl rfl rfl rfl (Nat.le_of_ble_eq_true rfl) (by decide) dL_law_511 rfl ?_
  refine G.aload_n (pl := 2) C dL_law_514 rfl rfl ?_
  refine G.callV (st1 := [.int r, .int r]) C [] [.int r] (c_X10_clear h2) mv_X10_clear k5_4 o_108.1 (fun _ => gShp_20 o_108) rfl rfl rfl rfl rfl (Nat.le_of_ble_eq_true rfl) (by decide) dL_law_515 rfl ?_
  exact G.icmp_eq (tgt := 1358) C dL_law_518 (by decide) (fun _ => ih M2 h3) (fun h => absurd rfl h)
set_option maxRecDepth 100000 in
set_option maxHeartbeats 4000000 in
theorem law_9 {Rel : Mem → Prop} {X : Gc} {ad : Nat → Nat} {b L i : Nat} {xs : Nat → Int32} {M : Mem} {s1 s2 s3 s4 : Int32} (C : Gk X ad cL_law "NineTonguesLaw" 4 10) (S : Gs X b L xs) (hi1 : vp_in (nI i + 1) L) (hi2 : vp_in (nI i + 2) L) (hi3 : vp_in (nI i + 3) L) (hi4 : vp_in (nI i + 4) L) (hv1 : xs (nI i + 1).toNatClampNeg = s1) (hv2 : xs (nI i + 2).toNatClampNeg = s2) (hv3 : xs (nI i + 3).toNatClampNeg = s3) (hv4 : xs (nI i + 4).toNatClampNeg = s4) (hO : opI Rel (f_X9_fault) (f_X10_fault)) (hR : Rel M) (ih : ∀ M2, Rel M2 → G X ad 1358 4 [(0, .ref b), (1, .ref (ad 0)), (2, .ref (ad 108)), (3, .int (nI i))] [] M2) : G X ad 523 4 [(0, .ref b), (1, .ref (ad 0)), (2, .ref (ad 108)), (3, .int (nI i))] [] M := by
  obtain ⟨r, M1, M2, h1, h2, h3⟩ := hO M hR
  refine G.aload_n (pl := 1) C dL_law_523 rfl rfl ?_
  refine G.callV (st1 := [.int r]) C [] [] (c_X9_fault h1) mv_X9_fault k2_176 o_0.1 (fun _ => gShp_19 o_0) rfl rfl rfl rfl rfl (Nat.le_of_ble_eq_true rfl) (by decide) dL_law_524 rfl ?_
  refine G.aload_n (pl := 2) C dL_law_527 rfl rfl ?_
  refine G.callV (st1 := [.int r, .int r]) C [] [.int r] (c_X10_fault h2) mv_X10_fault k5_8 o_108.1 (fun _ => gShp_20 o_108) rfl rfl rfl rfl rfl (Nat.le_of_ble_eq_true rfl) (by decide) dL_law_528 rfl ?_
  exact G.icmp_eq (tgt := 1358) C dL_law_531 (by decide) (fun _ => ih M2 h3) (fun h => absurd rfl h)
set_option maxRecDepth 100000 in
set_option maxHeartbeats 4000000 in
theorem law_10 {Rel : Mem → Prop} {X : Gc} {ad : Nat → Nat} {b L i : Nat} {xs : Nat → Int32} {M : Mem} {s1 s2 s3 s4 : Int32} (C : Gk X ad cL_law "NineTonguesLaw" 4 10) (S : Gs X b L xs) (hi1 : vp_in (nI i + 1) L) (hi2 : vp_in (nI i + 2) L) (hi3 : vp_in (nI i + 3) L) (hi4 : vp_in (nI i + 4) L) (hv1 : xs (nI i + 1).toNatClampNeg = s1) (hv2 : xs (nI i + 2).toNatClampNeg = s2) (hv3 : xs (nI i + 3).toNatClampNeg = s3) (hv4 : xs (nI i + 4).toNatClampNeg = s4) (hO : opI Rel (f_X9_length) (f_X10_length)) (hR : Rel M) (ih : ∀ M2, Rel M2 → G X ad 1358 4 [(0, .ref b), (1, .ref (ad 0)), (2, .ref (ad 108)), (3, .int (nI i))] [] M2) : G X ad 536 4 [(0, .ref b), (1, .ref (ad 0)), (2, .ref (ad 108)), (3, .int (nI i))] [] M := by
  obtain ⟨r, M1, M2, h1, h2, h3⟩ := hO M hR
  refine G.aload_n (pl := 1) C dL_law_536 rfl rfl ?_
  refine G.callV (st1 := [.int r]) C [] [] (c_X9_length h1) mv_X9_length k2_221 o_0.1 (fun _ => gShp_19 o_0) rfl rfl rfl rfl rfl (Nat.le_of_ble_eq_true rfl) (by decide) dL_law_537 rfl ?_
  refine G.aload_n (pl := 2) C dL_law_540 rfl rfl ?_
  refine G.callV (st1 := [.int r, .int r]) C [] [.int r] (c_X10_length h2) mv_X10_length k5_32 o_108.1 (fun _ => gShp_20 o_108) rfl rfl rfl rfl rfl (Nat.le_of_ble_eq_true rfl) (by decide) dL_law_541 rfl ?_
  exact G.icmp_eq (tgt := 1358) C dL_law_544 (by decide) (fun _ => ih M2 h3) (fun h => absurd rfl h)
set_option maxRecDepth 100000 in
set_option maxHeartbeats 4000000 in
theorem law_11 {Rel : Mem → Prop} {X : Gc} {ad : Nat → Nat} {b L i : Nat} {xs : Nat → Int32} {M : Mem} {s1 s2 s3 s4 : Int32} (C : Gk X ad cL_law "NineTonguesLaw" 4 10) (S : Gs X b L xs) (hi1 : vp_in (nI i + 1) L) (hi2 : vp_in (nI i + 2) L) (hi3 : vp_in (nI i + 3) L) (hi4 : vp_in (nI i + 4) L) (hv1 : xs (nI i + 1).toNatClampNeg = s1) (hv2 : xs (nI i + 2).toNatClampNeg = s2) (hv3 : xs (nI i + 3).toNatClampNeg = s3) (hv4 : xs (nI i + 4).toNatClampNeg = s4) (hO : opI Rel (f_X9_parts s1 s2) (f_X10_parts s1 s2)) (hR : Rel M) (ih : ∀ M2, Rel M2 → G X ad 1358 4 [(0, .ref b), (1, .ref (ad 0)), (2, .ref (ad 108)), (3, .int (nI i))] [] M2) : G X ad 549 4 [(0, .ref b), (1, .ref (ad 0)), (2, .ref (ad 108)), (3, .int (nI i))] [] M := by
  obtain ⟨r, M1, M2, h1, h2, h3⟩ := hO M hR
  refine G.aload_n (pl := 1) C dL_law_549 rfl rfl ?_
  refine G.aload_n (pl := 0) C dL_law_550 rfl rfl ?_
  refine G.iload_n (pl := 3) C dL_law_551 rfl rfl ?_
  refine G.iconst (v := 1) C dL_law_552 (by decide) ?_
  refine G.iadd C dL_law_553 ?_
  refine G.sld C S hi1 hv1 dL_law_554 ?_
  refine G.aload_n (pl := 0) C dL_law_555 rfl rfl ?_
  refine G.iload_n (pl := 3) C dL_law_556 rfl rfl ?_
  refine G.iconst (v := 2) C dL_law_557 (by decide) ?_
  refine G.iadd C dL_law_558 ?_
  refine G.sld C S hi2 hv2 dL_law_559 ?_
  refine G.callV (st1 := [.int r]) C [.int s1, .int s2] [] (c_X9_parts h1) mv_X9_parts k2_229 o_0.1 (fun _ => gShp_19 o_0) rfl rfl rfl rfl rfl (Nat.le_of_ble_eq_true rfl) (by decide) dL_law_560 rfl ?_
  refine G.aload_n (pl := 2) C dL_law_563 rfl rfl ?_
  refine G.aload_n (pl := 0) C dL_law_564 rfl rfl ?_
  refine G.iload_n (pl := 3) C dL_law_565 rfl rfl ?_
  refine G.iconst (v := 1) C dL_law_566 (by decide) ?_
  refine G.iadd C dL_law_567 ?_
  refine G.sld C S hi1 hv1 dL_law_568 ?_
  refine G.aload_n (pl := 0) C dL_law_569 rfl rfl ?_
  refine G.iload_n (pl := 3) C dL_law_570 rfl rfl ?_
  refine G.iconst (v := 2) C dL_law_571 (by decide) ?_
  refine G.iadd C dL_law_572 ?_
  refine G.sld C S hi2 hv2 dL_law_573 ?_
  refine G.callV (st1 := [.int r, .int r]) C [.int s1, .int s2] [.int r] (c_X10_parts h2) mv_X10_parts k5_44 o_108.1 (fun _ => gShp_20 o_108) rfl rfl rfl rfl rfl (Nat.le_of_ble_eq_true rfl) (by decide) dL_law_574 rfl ?_
  exact G.icmp_eq (tgt := 1358) C dL_law_577 (by decide) (fun _ => ih M2 h3) (fun h => absurd rfl h)
set_option maxRecDepth 100000 in
set_option maxHeartbeats 4000000 in
theorem law_12 {Rel : Mem → Prop} {X : Gc} {ad : Nat → Nat} {b L i : Nat} {xs : Nat → Int32} {M : Mem} {s1 s2 s3 s4 : Int32} (C : Gk X ad cL_law "NineTonguesLaw" 4 10) (S : Gs X b L xs) (hi1 : vp_in (nI i + 1) L) (hi2 : vp_in (nI i + 2) L) (hi3 : vp_in (nI i + 3) L) (hi4 : vp_in (nI i + 4) L) (hv1 : xs (nI i + 1).toNatClampNeg = s1) (hv2 : xs (nI i + 2).toNatClampNeg = s2) (hv3 : xs (nI i + 3).toNatClampNeg = s3) (hv4 : xs (nI i + 4).toNatClampNeg = s4) (hO : opI Rel (f_X9_formOf s1 s2) (f_X10_formOf s1 s2)) (hR : Rel M) (ih : ∀ M2, Rel M2 → G X ad 1358 4 [(0, .ref b), (1, .ref (ad 0)), (2, .ref (ad 108)), (3, .int (nI i))] [] M2) : G X ad 582 4 [(0, .ref b), (1, .ref (ad 0)), (2, .ref (ad 108)), (3, .int (nI i))] [] M := by
  obtain ⟨r, M1, M2, h1, h2, h3⟩ := hO M hR
  refine G.aload_n (pl := 1) C dL_law_582 rfl rfl ?_
  refine G.aload_n (pl := 0) C dL_law_583 rfl rfl ?_
  refine G.iload_n (pl := 3) C dL_law_584 rfl rfl ?_
  refine G.iconst (v := 1) C dL_law_585 (by decide) ?_
  refine G.iadd C dL_law_586 ?_
  refine G.sld C S hi1 hv1 dL_law_587 ?_
  refine G.aload_n (pl := 0) C dL_law_588 rfl rfl ?_
  refine G.iload_n (pl := 3) C dL_law_589 rfl rfl ?_
  refine G.iconst (v := 2) C dL_law_590 (by decide) ?_
  refine G.iadd C dL_law_591 ?_
  refine G.sld C S hi2 hv2 dL_law_592 ?_
  refine G.callV (st1 := [.int r]) C [.int s1, .int s2] [] (c_X9_formOf h1) mv_X9_formOf k3_30 o_0.1 (fun _ => gShp_19 o_0) rfl rfl rfl rfl rfl (Nat.le_of_ble_eq_true rfl) (by decide) dL_law_593 rfl ?_
  refine G.aload_n (pl := 2) C dL_law_596 rfl rfl ?_
  refine G.aload_n (pl := 0) C dL_law_597 rfl rfl ?_
  refine G.iload_n (pl := 3) C dL_law_598 rfl rfl ?_
  refine G.iconst (v := 1) C dL_law_599 (by decide) ?_
  refine G.iadd C dL_law_600 ?_
  refine G.sld C S hi1 hv1 dL_law_601 ?_
  refine G.aload_n (pl := 0) C dL_law_602 rfl rfl ?_
  refine G.iload_n (pl := 3) C dL_law_603 rfl rfl ?_
  refine G.iconst (v := 2) C dL_law_604 (by decide) ?_
  refine G.iadd C dL_law_605 ?_
  refine G.sld C S hi2 hv2 dL_law_606 ?_
  refine G.callV (st1 := [.int r, .int r]) C [.int s1, .int s2] [.int r] (c_X10_formOf h2) mv_X10_formOf k5_60 o_108.1 (fun _ => gShp_20 o_108) rfl rfl rfl rfl rfl (Nat.le_of_ble_eq_true rfl) (by decide) dL_law_607 rfl ?_
  exact G.icmp_eq (tgt := 1358) C dL_law_610 (by decide) (fun _ => ih M2 h3) (fun h => absurd rfl h)
set_option maxRecDepth 100000 in
set_option maxHeartbeats 4000000 in
theorem law_13 {Rel : Mem → Prop} {X : Gc} {ad : Nat → Nat} {b L i : Nat} {xs : Nat → Int32} {M : Mem} {s1 s2 s3 s4 : Int32} (C : Gk X ad cL_law "NineTonguesLaw" 4 10) (S : Gs X b L xs) (hi1 : vp_in (nI i + 1) L) (hi2 : vp_in (nI i + 2) L) (hi3 : vp_in (nI i + 3) L) (hi4 : vp_in (nI i + 4) L) (hv1 : xs (nI i + 1).toNatClampNeg = s1) (hv2 : xs (nI i + 2).toNatClampNeg = s2) (hv3 : xs (nI i + 3).toNatClampNeg = s3) (hv4 : xs (nI i + 4).toNatClampNeg = s4) (hO : opI Rel (f_X9_step s1 s2) (f_X10_step s1 s2)) (hR : Rel M) (ih : ∀ M2, Rel M2 → G X ad 1358 4 [(0, .ref b), (1, .ref (ad 0)), (2, .ref (ad 108)), (3, .int (nI i))] [] M2) : G X ad 615 4 [(0, .ref b), (1, .ref (ad 0)), (2, .ref (ad 108)), (3, .int (nI i))] [] M := by
  obtain ⟨r, M1, M2, h1, h2, h3⟩ := hO M hR
  refine G.aload_n (pl := 1) C dL_law_615 rfl rfl ?_
  refine G.aload_n (pl := 0) C dL_law_616 rfl rfl ?_
  refine G.iload_n (pl := 3) C dL_law_617 rfl rfl ?_
  refine G.iconst (v := 1) C dL_law_618 (by decide) ?_
  refine G.iadd C dL_law_619 ?_
  refine G.sld C S hi1 hv1 dL_law_620 ?_
  refine G.aload_n (pl := 0) C dL_law_621 rfl rfl ?_
  refine G.iload_n (pl := 3) C dL_law_622 rfl rfl ?_
  refine G.iconst (v := 2) C dL_law_623 (by decide) ?_
  refine G.iadd C dL_law_624 ?_
  refine G.sld C S hi2 hv2 dL_law_625 ?_
  refine G.callV (st1 := [.int r]) C [.int s1, .int s2] [] (c_X9_step h1) mv_X9_step k3_34 o_0.1 (fun _ => gShp_19 o_0) rfl rfl rfl rfl rfl (Nat.le_of_ble_eq_true rfl) (by decide) dL_law_626 rfl ?_
  refine G.aload_n (pl := 2) C dL_law_629 rfl rfl ?_
  refine G.aload_n (pl := 0) C dL_law_630 rfl rfl ?_
  refine G.iload_n (pl := 3) C dL_law_631 rfl rfl ?_
  refine G.iconst (v := 1) C dL_law_632 (by decide) ?_
  refine G.iadd C dL_law_633 ?_
  refine G.sld C S hi1 hv1 dL_law_634 ?_
  refine G.aload_n (pl := 0) C dL_law_635 rfl rfl ?_
  refine G.iload_n (pl := 3) C dL_law_636 rfl rfl ?_
  refine G.iconst (v := 2) C dL_law_637 (by decide) ?_
  refine G.iadd C dL_law_638 ?_
  refine G.sld C S hi2 hv2 dL_law_639 ?_
  refine G.callV (st1 := [.int r, .int r]) C [.int s1, .int s2] [.int r] (c_X10_step h2) mv_X10_step k5_64 o_108.1 (fun _ => gShp_20 o_108) rfl rfl rfl rfl rfl (Nat.le_of_ble_eq_true rfl) (by decide) dL_law_640 rfl ?_
  exact G.icmp_eq (tgt := 1358) C dL_law_643 (by decide) (fun _ => ih M2 h3) (fun h => absurd rfl h)
set_option maxRecDepth 100000 in
set_option maxHeartbeats 4000000 in
theorem law_14 {Rel : Mem → Prop} {X : Gc} {ad : Nat → Nat} {b L i : Nat} {xs : Nat → Int32} {M : Mem} {s1 s2 s3 s4 : Int32} (C : Gk X ad cL_law "NineTonguesLaw" 4 10) (S : Gs X b L xs) (hi1 : vp_in (nI i + 1) L) (hi2 : vp_in (nI i + 2) L) (hi3 : vp_in (nI i + 3) L) (hi4 : vp_in (nI i + 4) L) (hv1 : xs (nI i + 1).toNatClampNeg = s1) (hv2 : xs (nI i + 2).toNatClampNeg = s2) (hv3 : xs (nI i + 3).toNatClampNeg = s3) (hv4 : xs (nI i + 4).toNatClampNeg = s4) (hO : opI Rel (f_X9_unlike s1 s2) (f_X10_unlike s1 s2)) (hR : Rel M) (ih : ∀ M2, Rel M2 → G X ad 1358 4 [(0, .ref b), (1, .ref (ad 0)), (2, .ref (ad 108)), (3, .int (nI i))] [] M2) : G X ad 648 4 [(0, .ref b), (1, .ref (ad 0)), (2, .ref (ad 108)), (3, .int (nI i))] [] M := by
  obtain ⟨r, M1, M2, h1, h2, h3⟩ := hO M hR
  refine G.aload_n (pl := 1) C dL_law_648 rfl rfl ?_
  refine G.aload_n (pl := 0) C dL_law_649 rfl rfl ?_
  refine G.iload_n (pl := 3) C dL_law_650 rfl rfl ?_
  refine G.iconst (v := 1) C dL_law_651 (by decide) ?_
  refine G.iadd C dL_law_652 ?_
  refine G.sld C S hi1 hv1 dL_law_653 ?_
  refine G.aload_n (pl := 0) C dL_law_654 rfl rfl ?_
  refine G.iload_n (pl := 3) C dL_law_655 rfl rfl ?_
  refine G.iconst (v := 2) C dL_law_656 (by decide) ?_
  refine G.iadd C dL_law_657 ?_
  refine G.sld C S hi2 hv2 dL_law_658 ?_
  refine G.callV (st1 := [.int r]) C [.int s1, .int s2] [] (c_X9_unlike h1) mv_X9_unlike k3_47 o_0.1 (fun _ => gShp_19 o_0) rfl rfl rfl rfl rfl (Nat.le_of_ble_eq_true rfl) (by decide) dL_law_659 rfl ?_
  refine G.aload_n (pl := 2) C dL_law_662 rfl rfl ?_
  refine G.aload_n (pl := 0) C dL_law_663 rfl rfl ?_
  refine G.iload_n (pl := 3) C dL_law_664 rfl rfl ?_
  refine G.iconst (v := 1) C dL_law_665 (by decide) ?_
  refine G.iadd C dL_law_666 ?_
  refine G.sld C S hi1 hv1 dL_law_667 ?_
  refine G.aload_n (pl := 0) C dL_law_668 rfl rfl ?_
  refine G.iload_n (pl := 3) C dL_law_669 rfl rfl ?_
  refine G.iconst (v := 2) C dL_law_670 (by decide) ?_
  refine G.iadd C dL_law_671 ?_
  refine G.sld C S hi2 hv2 dL_law_672 ?_
  refine G.callV (st1 := [.int r, .int r]) C [.int s1, .int s2] [.int r] (c_X10_unlike h2) mv_X10_unlike k5_68 o_108.1 (fun _ => gShp_20 o_108) rfl rfl rfl rfl rfl (Nat.le_of_ble_eq_true rfl) (by decide) dL_law_673 rfl ?_
  exact G.icmp_eq (tgt := 1358) C dL_law_676 (by decide) (fun _ => ih M2 h3) (fun h => absurd rfl h)
set_option maxRecDepth 100000 in
set_option maxHeartbeats 4000000 in
theorem law_15 {Rel : Mem → Prop} {X : Gc} {ad : Nat → Nat} {b L i : Nat} {xs : Nat → Int32} {M : Mem} {s1 s2 s3 s4 : Int32} (C : Gk X ad cL_law "NineTonguesLaw" 4 10) (S : Gs X b L xs) (hi1 : vp_in (nI i + 1) L) (hi2 : vp_in (nI i + 2) L) (hi3 : vp_in (nI i + 3) L) (hi4 : vp_in (nI i + 4) L) (hv1 : xs (nI i + 1).toNatClampNeg = s1) (hv2 : xs (nI i + 2).toNatClampNeg = s2) (hv3 : xs (nI i + 3).toNatClampNeg = s3) (hv4 : xs (nI i + 4).toNatClampNeg = s4) (hO : opI Rel (f_X9_gone s1 s2) (f_X10_gone s1 s2)) (hR : Rel M) (ih : ∀ M2, Rel M2 → G X ad 1358 4 [(0, .ref b), (1, .ref (ad 0)), (2, .ref (ad 108)), (3, .int (nI i))] [] M2) : G X ad 681 4 [(0, .ref b), (1, .ref (ad 0)), (2, .ref (ad 108)), (3, .int (nI i))] [] M := by
  obtain ⟨r, M1, M2, h1, h2, h3⟩ := hO M hR
  refine G.aload_n (pl := 1) C dL_law_681 rfl rfl ?_
  refine G.aload_n (pl := 0) C dL_law_682 rfl rfl ?_
  refine G.iload_n (pl := 3) C dL_law_683 rfl rfl ?_
  refine G.iconst (v := 1) C dL_law_684 (by decide) ?_
  refine G.iadd C dL_law_685 ?_
  refine G.sld C S hi1 hv1 dL_law_686 ?_
  refine G.aload_n (pl := 0) C dL_law_687 rfl rfl ?_
  refine G.iload_n (pl := 3) C dL_law_688 rfl rfl ?_
  refine G.iconst (v := 2) C dL_law_689 (by decide) ?_
  refine G.iadd C dL_law_690 ?_
  refine G.sld C S hi2 hv2 dL_law_691 ?_
  refine G.callV (st1 := [.int r]) C [.int s1, .int s2] [] (c_X9_gone h1) mv_X9_gone k3_56 o_0.1 (fun _ => gShp_19 o_0) rfl rfl rfl rfl rfl (Nat.le_of_ble_eq_true rfl) (by decide) dL_law_692 rfl ?_
  refine G.aload_n (pl := 2) C dL_law_695 rfl rfl ?_
  refine G.aload_n (pl := 0) C dL_law_696 rfl rfl ?_
  refine G.iload_n (pl := 3) C dL_law_697 rfl rfl ?_
  refine G.iconst (v := 1) C dL_law_698 (by decide) ?_
  refine G.iadd C dL_law_699 ?_
  refine G.sld C S hi1 hv1 dL_law_700 ?_
  refine G.aload_n (pl := 0) C dL_law_701 rfl rfl ?_
  refine G.iload_n (pl := 3) C dL_law_702 rfl rfl ?_
  refine G.iconst (v := 2) C dL_law_703 (by decide) ?_
  refine G.iadd C dL_law_704 ?_
  refine G.sld C S hi2 hv2 dL_law_705 ?_
  refine G.callV (st1 := [.int r, .int r]) C [.int s1, .int s2] [.int r] (c_X10_gone h2) mv_X10_gone k5_76 o_108.1 (fun _ => gShp_20 o_108) rfl rfl rfl rfl rfl (Nat.le_of_ble_eq_true rfl) (by decide) dL_law_706 rfl ?_
  exact G.icmp_eq (tgt := 1358) C dL_law_709 (by decide) (fun _ => ih M2 h3) (fun h => absurd rfl h)
set_option maxRecDepth 100000 in
set_option maxHeartbeats 4000000 in
theorem law_16 {Rel : Mem → Prop} {X : Gc} {ad : Nat → Nat} {b L i : Nat} {xs : Nat → Int32} {M : Mem} {s1 s2 s3 s4 : Int32} (C : Gk X ad cL_law "NineTonguesLaw" 4 10) (S : Gs X b L xs) (hi1 : vp_in (nI i + 1) L) (hi2 : vp_in (nI i + 2) L) (hi3 : vp_in (nI i + 3) L) (hi4 : vp_in (nI i + 4) L) (hv1 : xs (nI i + 1).toNatClampNeg = s1) (hv2 : xs (nI i + 2).toNatClampNeg = s2) (hv3 : xs (nI i + 3).toNatClampNeg = s3) (hv4 : xs (nI i + 4).toNatClampNeg = s4) (hO : opI Rel (f_X9_best s1 s2 s3 s4) (f_X10_best s1 s2 s3 s4)) (hR : Rel M) (ih : ∀ M2, Rel M2 → G X ad 1358 4 [(0, .ref b), (1, .ref (ad 0)), (2, .ref (ad 108)), (3, .int (nI i))] [] M2) : G X ad 714 4 [(0, .ref b), (1, .ref (ad 0)), (2, .ref (ad 108)), (3, .int (nI i))] [] M := by
  obtain ⟨r, M1, M2, h1, h2, h3⟩ := hO M hR
  refine G.aload_n (pl := 1) C dL_law_714 rfl rfl ?_
  refine G.aload_n (pl := 0) C dL_law_715 rfl rfl ?_
  refine G.iload_n (pl := 3) C dL_law_716 rfl rfl ?_
  refine G.iconst (v := 1) C dL_law_717 (by decide) ?_
  refine G.iadd C dL_law_718 ?_
  refine G.sld C S hi1 hv1 dL_law_719 ?_
  refine G.aload_n (pl := 0) C dL_law_720 rfl rfl ?_
  refine G.iload_n (pl := 3) C dL_law_721 rfl rfl ?_
  refine G.iconst (v := 2) C dL_law_722 (by decide) ?_
  refine G.iadd C dL_law_723 ?_
  refine G.sld C S hi2 hv2 dL_law_724 ?_
  refine G.aload_n (pl := 0) C dL_law_725 rfl rfl ?_
  refine G.iload_n (pl := 3) C dL_law_726 rfl rfl ?_
  refine G.iconst (v := 3) C dL_law_727 (by decide) ?_
  refine G.iadd C dL_law_728 ?_
  refine G.sld C S hi3 hv3 dL_law_729 ?_
  refine G.aload_n (pl := 0) C dL_law_730 rfl rfl ?_
  refine G.iload_n (pl := 3) C dL_law_731 rfl rfl ?_
  refine G.iconst (v := 4) C dL_law_732 (by decide) ?_
  refine G.iadd C dL_law_733 ?_
  refine G.sld C S hi4 hv4 dL_law_734 ?_
  refine G.callV (st1 := [.int r]) C [.int s1, .int s2, .int s3, .int s4] [] (c_X9_best h1) mv_X9_best k3_60 o_0.1 (fun _ => gShp_19 o_0) rfl rfl rfl rfl rfl (Nat.le_of_ble_eq_true rfl) (by decide) dL_law_735 rfl ?_
  refine G.aload_n (pl := 2) C dL_law_738 rfl rfl ?_
  refine G.aload_n (pl := 0) C dL_law_739 rfl rfl ?_
  refine G.iload_n (pl := 3) C dL_law_740 rfl rfl ?_
  refine G.iconst (v := 1) C dL_law_741 (by decide) ?_
  refine G.iadd C dL_law_742 ?_
  refine G.sld C S hi1 hv1 dL_law_743 ?_
  refine G.aload_n (pl := 0) C dL_law_744 rfl rfl ?_
  refine G.iload_n (pl := 3) C dL_law_745 rfl rfl ?_
  refine G.iconst (v := 2) C dL_law_746 (by decide) ?_
  refine G.iadd C dL_law_747 ?_
  refine G.sld C S hi2 hv2 dL_law_748 ?_
  refine G.aload_n (pl := 0) C dL_law_749 rfl rfl ?_
  refine G.iload_n (pl := 3) C dL_law_750 rfl rfl ?_
  refine G.iconst (v := 3) C dL_law_751 (by decide) ?_
  refine G.iadd C dL_law_752 ?_
  refine G.sld C S hi3 hv3 dL_law_753 ?_
  refine G.aload_n (pl := 0) C dL_law_754 rfl rfl ?_
  refine G.iload_n (pl := 3) C dL_law_755 rfl rfl ?_
  refine G.iconst (v := 4) C dL_law_756 (by decide) ?_
  refine G.iadd C dL_law_757 ?_
  refine G.sld C S hi4 hv4 dL_law_758 ?_
  refine G.callV (st1 := [.int r, .int r]) C [.int s1, .int s2, .int s3, .int s4] [.int r] (c_X10_best h2) mv_X10_best k5_80 o_108.1 (fun _ => gShp_20 o_108) rfl rfl rfl rfl rfl (Nat.le_of_ble_eq_true rfl) (by decide) dL_law_759 rfl ?_
  exact G.icmp_eq (tgt := 1358) C dL_law_762 (by decide) (fun _ => ih M2 h3) (fun h => absurd rfl h)
set_option maxRecDepth 100000 in
set_option maxHeartbeats 4000000 in
theorem law_17 {Rel : Mem → Prop} {X : Gc} {ad : Nat → Nat} {b L i : Nat} {xs : Nat → Int32} {M : Mem} {s1 s2 s3 s4 : Int32} (C : Gk X ad cL_law "NineTonguesLaw" 4 10) (S : Gs X b L xs) (hi1 : vp_in (nI i + 1) L) (hi2 : vp_in (nI i + 2) L) (hi3 : vp_in (nI i + 3) L) (hi4 : vp_in (nI i + 4) L) (hv1 : xs (nI i + 1).toNatClampNeg = s1) (hv2 : xs (nI i + 2).toNatClampNeg = s2) (hv3 : xs (nI i + 3).toNatClampNeg = s3) (hv4 : xs (nI i + 4).toNatClampNeg = s4) (hO : opI Rel (f_X9_third s1 s2) (f_X10_third s1 s2)) (hR : Rel M) (ih : ∀ M2, Rel M2 → G X ad 1358 4 [(0, .ref b), (1, .ref (ad 0)), (2, .ref (ad 108)), (3, .int (nI i))] [] M2) : G X ad 767 4 [(0, .ref b), (1, .ref (ad 0)), (2, .ref (ad 108)), (3, .int (nI i))] [] M := by
  obtain ⟨r, M1, M2, h1, h2, h3⟩ := hO M hR
  refine G.aload_n (pl := 1) C dL_law_767 rfl rfl ?_
  refine G.aload_n (pl := 0) C dL_law_768 rfl rfl ?_
  refine G.iload_n (pl := 3) C dL_law_769 rfl rfl ?_
  refine G.iconst (v := 1) C dL_law_770 (by decide) ?_
  refine G.iadd C dL_law_771 ?_
  refine G.sld C S hi1 hv1 dL_law_772 ?_
  refine G.aload_n (pl := 0) C dL_law_773 rfl rfl ?_
  refine G.iload_n (pl := 3) C dL_law_774 rfl rfl ?_
  refine G.iconst (v := 2) C dL_law_775 (by decide) ?_
  refine G.iadd C dL_law_776 ?_
  refine G.sld C S hi2 hv2 dL_law_777 ?_
  refine G.callV (st1 := [.int r]) C [.int s1, .int s2] [] (c_X9_third h1) mv_X9_third k3_101 o_0.1 (fun _ => gShp_19 o_0) rfl rfl rfl rfl rfl (Nat.le_of_ble_eq_true rfl) (by decide) dL_law_778 rfl ?_
  refine G.aload_n (pl := 2) C dL_law_781 rfl rfl ?_
  refine G.aload_n (pl := 0) C dL_law_782 rfl rfl ?_
  refine G.iload_n (pl := 3) C dL_law_783 rfl rfl ?_
  refine G.iconst (v := 1) C dL_law_784 (by decide) ?_
  refine G.iadd C dL_law_785 ?_
  refine G.sld C S hi1 hv1 dL_law_786 ?_
  refine G.aload_n (pl := 0) C dL_law_787 rfl rfl ?_
  refine G.iload_n (pl := 3) C dL_law_788 rfl rfl ?_
  refine G.iconst (v := 2) C dL_law_789 (by decide) ?_
  refine G.iadd C dL_law_790 ?_
  refine G.sld C S hi2 hv2 dL_law_791 ?_
  refine G.callV (st1 := [.int r, .int r]) C [.int s1, .int s2] [.int r] (c_X10_third h2) mv_X10_third k5_99 o_108.1 (fun _ => gShp_20 o_108) rfl rfl rfl rfl rfl (Nat.le_of_ble_eq_true rfl) (by decide) dL_law_792 rfl ?_
  exact G.icmp_eq (tgt := 1358) C dL_law_795 (by decide) (fun _ => ih M2 h3) (fun h => absurd rfl h)
set_option maxRecDepth 100000 in
set_option maxHeartbeats 4000000 in
theorem law_18 {Rel : Mem → Prop} {X : Gc} {ad : Nat → Nat} {b L i : Nat} {xs : Nat → Int32} {M : Mem} {s1 s2 s3 s4 : Int32} (C : Gk X ad cL_law "NineTonguesLaw" 4 10) (S : Gs X b L xs) (hi1 : vp_in (nI i + 1) L) (hi2 : vp_in (nI i + 2) L) (hi3 : vp_in (nI i + 3) L) (hi4 : vp_in (nI i + 4) L) (hv1 : xs (nI i + 1).toNatClampNeg = s1) (hv2 : xs (nI i + 2).toNatClampNeg = s2) (hv3 : xs (nI i + 3).toNatClampNeg = s3) (hv4 : xs (nI i + 4).toNatClampNeg = s4) (hO : opI Rel (f_X9_round s1 s2 s3 s4) (f_X10_round s1 s2 s3 s4)) (hR : Rel M) (ih : ∀ M2, Rel M2 → G X ad 1358 4 [(0, .ref b), (1, .ref (ad 0)), (2, .ref (ad 108)), (3, .int (nI i))] [] M2) : G X ad 800 4 [(0, .ref b), (1, .ref (ad 0)), (2, .ref (ad 108)), (3, .int (nI i))] [] M := by
  obtain ⟨r, M1, M2, h1, h2, h3⟩ := hO M hR
  refine G.aload_n (pl := 1) C dL_law_800 rfl rfl ?_
  refine G.aload_n (pl := 0) C dL_law_801 rfl rfl ?_
  refine G.iload_n (pl := 3) C dL_law_802 rfl rfl ?_
  refine G.iconst (v := 1) C dL_law_803 (by decide) ?_
  refine G.iadd C dL_law_804 ?_
  refine G.sld C S hi1 hv1 dL_law_805 ?_
  refine G.aload_n (pl := 0) C dL_law_806 rfl rfl ?_
  refine G.iload_n (pl := 3) C dL_law_807 rfl rfl ?_
  refine G.iconst (v := 2) C dL_law_808 (by decide) ?_
  refine G.iadd C dL_law_809 ?_
  refine G.sld C S hi2 hv2 dL_law_810 ?_
  refine G.aload_n (pl := 0) C dL_law_811 rfl rfl ?_
  refine G.iload_n (pl := 3) C dL_law_812 rfl rfl ?_
  refine G.iconst (v := 3) C dL_law_813 (by decide) ?_
  refine G.iadd C dL_law_814 ?_
  refine G.sld C S hi3 hv3 dL_law_815 ?_
  refine G.aload_n (pl := 0) C dL_law_816 rfl rfl ?_
  refine G.iload_n (pl := 3) C dL_law_817 rfl rfl ?_
  refine G.iconst (v := 4) C dL_law_818 (by decide) ?_
  refine G.iadd C dL_law_819 ?_
  refine G.sld C S hi4 hv4 dL_law_820 ?_
  refine G.callV (st1 := [.int r]) C [.int s1, .int s2, .int s3, .int s4] [] (c_X9_round h1) mv_X9_round k3_105 o_0.1 (fun _ => gShp_19 o_0) rfl rfl rfl rfl rfl (Nat.le_of_ble_eq_true rfl) (by decide) dL_law_821 rfl ?_
  refine G.aload_n (pl := 2) C dL_law_824 rfl rfl ?_
  refine G.aload_n (pl := 0) C dL_law_825 rfl rfl ?_
  refine G.iload_n (pl := 3) C dL_law_826 rfl rfl ?_
  refine G.iconst (v := 1) C dL_law_827 (by decide) ?_
  refine G.iadd C dL_law_828 ?_
  refine G.sld C S hi1 hv1 dL_law_829 ?_
  refine G.aload_n (pl := 0) C dL_law_830 rfl rfl ?_
  refine G.iload_n (pl := 3) C dL_law_831 rfl rfl ?_
  refine G.iconst (v := 2) C dL_law_832 (by decide) ?_
  refine G.iadd C dL_law_833 ?_
  refine G.sld C S hi2 hv2 dL_law_834 ?_
  refine G.aload_n (pl := 0) C dL_law_835 rfl rfl ?_
  refine G.iload_n (pl := 3) C dL_law_836 rfl rfl ?_
  refine G.iconst (v := 3) C dL_law_837 (by decide) ?_
  refine G.iadd C dL_law_838 ?_
  refine G.sld C S hi3 hv3 dL_law_839 ?_
  refine G.aload_n (pl := 0) C dL_law_840 rfl rfl ?_
  refine G.iload_n (pl := 3) C dL_law_841 rfl rfl ?_
  refine G.iconst (v := 4) C dL_law_842 (by decide) ?_
  refine G.iadd C dL_law_843 ?_
  refine G.sld C S hi4 hv4 dL_law_844 ?_
  refine G.callV (st1 := [.int r, .int r]) C [.int s1, .int s2, .int s3, .int s4] [.int r] (c_X10_round h2) mv_X10_round k5_103 o_108.1 (fun _ => gShp_20 o_108) rfl rfl rfl rfl rfl (Nat.le_of_ble_eq_true rfl) (by decide) dL_law_845 rfl ?_
  exact G.icmp_eq (tgt := 1358) C dL_law_848 (by decide) (fun _ => ih M2 h3) (fun h => absurd rfl h)
set_option maxRecDepth 100000 in
set_option maxHeartbeats 4000000 in
theorem law_19 {Rel : Mem → Prop} {X : Gc} {ad : Nat → Nat} {b L i : Nat} {xs : Nat → Int32} {M : Mem} {s1 s2 s3 s4 : Int32} (C : Gk X ad cL_law "NineTonguesLaw" 4 10) (S : Gs X b L xs) (hi1 : vp_in (nI i + 1) L) (hi2 : vp_in (nI i + 2) L) (hi3 : vp_in (nI i + 3) L) (hi4 : vp_in (nI i + 4) L) (hv1 : xs (nI i + 1).toNatClampNeg = s1) (hv2 : xs (nI i + 2).toNatClampNeg = s2) (hv3 : xs (nI i + 3).toNatClampNeg = s3) (hv4 : xs (nI i + 4).toNatClampNeg = s4) (hO : opI Rel (f_X9_common s1 s2) (f_X10_common s1 s2)) (hR : Rel M) (ih : ∀ M2, Rel M2 → G X ad 1358 4 [(0, .ref b), (1, .ref (ad 0)), (2, .ref (ad 108)), (3, .int (nI i))] [] M2) : G X ad 853 4 [(0, .ref b), (1, .ref (ad 0)), (2, .ref (ad 108)), (3, .int (nI i))] [] M := by
  obtain ⟨r, M1, M2, h1, h2, h3⟩ := hO M hR
  refine G.aload_n (pl := 1) C dL_law_853 rfl rfl ?_
  refine G.aload_n (pl := 0) C dL_law_854 rfl rfl ?_
  refine G.iload_n (pl := 3) C dL_law_855 rfl rfl ?_
  refine G.iconst (v := 1) C dL_law_856 (by decide) ?_
  refine G.iadd C dL_law_857 ?_
  refine G.sld C S hi1 hv1 dL_law_858 ?_
  refine G.aload_n (pl := 0) C dL_law_859 rfl rfl ?_
  refine G.iload_n (pl := 3) C dL_law_860 rfl rfl ?_
  refine G.iconst (v := 2) C dL_law_861 (by decide) ?_
  refine G.iadd C dL_law_862 ?_
  refine G.sld C S hi2 hv2 dL_law_863 ?_
  refine G.callV (st1 := [.int r]) C [.int s1, .int s2] [] (c_X9_common h1) mv_X9_common k3_122 o_0.1 (fun _ => gShp_19 o_0) rfl rfl rfl rfl rfl (Nat.le_of_ble_eq_true rfl) (by decide) dL_law_864 rfl ?_
  refine G.aload_n (pl := 2) C dL_law_867 rfl rfl ?_
  refine G.aload_n (pl := 0) C dL_law_868 rfl rfl ?_
  refine G.iload_n (pl := 3) C dL_law_869 rfl rfl ?_
  refine G.iconst (v := 1) C dL_law_870 (by decide) ?_
  refine G.iadd C dL_law_871 ?_
  refine G.sld C S hi1 hv1 dL_law_872 ?_
  refine G.aload_n (pl := 0) C dL_law_873 rfl rfl ?_
  refine G.iload_n (pl := 3) C dL_law_874 rfl rfl ?_
  refine G.iconst (v := 2) C dL_law_875 (by decide) ?_
  refine G.iadd C dL_law_876 ?_
  refine G.sld C S hi2 hv2 dL_law_877 ?_
  refine G.callV (st1 := [.int r, .int r]) C [.int s1, .int s2] [.int r] (c_X10_common h2) mv_X10_common k5_111 o_108.1 (fun _ => gShp_20 o_108) rfl rfl rfl rfl rfl (Nat.le_of_ble_eq_true rfl) (by decide) dL_law_878 rfl ?_
  exact G.icmp_eq (tgt := 1358) C dL_law_881 (by decide) (fun _ => ih M2 h3) (fun h => absurd rfl h)
set_option maxRecDepth 100000 in
set_option maxHeartbeats 4000000 in
theorem law_20 {Rel : Mem → Prop} {X : Gc} {ad : Nat → Nat} {b L i : Nat} {xs : Nat → Int32} {M : Mem} {s1 s2 s3 s4 : Int32} (C : Gk X ad cL_law "NineTonguesLaw" 4 10) (S : Gs X b L xs) (hi1 : vp_in (nI i + 1) L) (hi2 : vp_in (nI i + 2) L) (hi3 : vp_in (nI i + 3) L) (hi4 : vp_in (nI i + 4) L) (hv1 : xs (nI i + 1).toNatClampNeg = s1) (hv2 : xs (nI i + 2).toNatClampNeg = s2) (hv3 : xs (nI i + 3).toNatClampNeg = s3) (hv4 : xs (nI i + 4).toNatClampNeg = s4) (hO : opI Rel (f_X9_bears s1 s2 s3) (f_X10_bears s1 s2 s3)) (hR : Rel M) (ih : ∀ M2, Rel M2 → G X ad 1358 4 [(0, .ref b), (1, .ref (ad 0)), (2, .ref (ad 108)), (3, .int (nI i))] [] M2) : G X ad 886 4 [(0, .ref b), (1, .ref (ad 0)), (2, .ref (ad 108)), (3, .int (nI i))] [] M := by
  obtain ⟨r, M1, M2, h1, h2, h3⟩ := hO M hR
  refine G.aload_n (pl := 1) C dL_law_886 rfl rfl ?_
  refine G.aload_n (pl := 0) C dL_law_887 rfl rfl ?_
  refine G.iload_n (pl := 3) C dL_law_888 rfl rfl ?_
  refine G.iconst (v := 1) C dL_law_889 (by decide) ?_
  refine G.iadd C dL_law_890 ?_
  refine G.sld C S hi1 hv1 dL_law_891 ?_
  refine G.aload_n (pl := 0) C dL_law_892 rfl rfl ?_
  refine G.iload_n (pl := 3) C dL_law_893 rfl rfl ?_
  refine G.iconst (v := 2) C dL_law_894 (by decide) ?_
  refine G.iadd C dL_law_895 ?_
  refine G.sld C S hi2 hv2 dL_law_896 ?_
  refine G.aload_n (pl := 0) C dL_law_897 rfl rfl ?_
  refine G.iload_n (pl := 3) C dL_law_898 rfl rfl ?_
  refine G.iconst (v := 3) C dL_law_899 (by decide) ?_
  refine G.iadd C dL_law_900 ?_
  refine G.sld C S hi3 hv3 dL_law_901 ?_
  refine G.callV (st1 := [.int r]) C [.int s1, .int s2, .int s3] [] (c_X9_bears h1) mv_X9_bears k3_128 o_0.1 (fun _ => gShp_19 o_0) rfl rfl rfl rfl rfl (Nat.le_of_ble_eq_true rfl) (by decide) dL_law_902 rfl ?_
  refine G.aload_n (pl := 2) C dL_law_905 rfl rfl ?_
  refine G.aload_n (pl := 0) C dL_law_906 rfl rfl ?_
  refine G.iload_n (pl := 3) C dL_law_907 rfl rfl ?_
  refine G.iconst (v := 1) C dL_law_908 (by decide) ?_
  refine G.iadd C dL_law_909 ?_
  refine G.sld C S hi1 hv1 dL_law_910 ?_
  refine G.aload_n (pl := 0) C dL_law_911 rfl rfl ?_
  refine G.iload_n (pl := 3) C dL_law_912 rfl rfl ?_
  refine G.iconst (v := 2) C dL_law_913 (by decide) ?_
  refine G.iadd C dL_law_914 ?_
  refine G.sld C S hi2 hv2 dL_law_915 ?_
  refine G.aload_n (pl := 0) C dL_law_916 rfl rfl ?_
  refine G.iload_n (pl := 3) C dL_law_917 rfl rfl ?_
  refine G.iconst (v := 3) C dL_law_918 (by decide) ?_
  refine G.iadd C dL_law_919 ?_
  refine G.sld C S hi3 hv3 dL_law_920 ?_
  refine G.callV (st1 := [.int r, .int r]) C [.int s1, .int s2, .int s3] [.int r] (c_X10_bears h2) mv_X10_bears k5_115 o_108.1 (fun _ => gShp_20 o_108) rfl rfl rfl rfl rfl (Nat.le_of_ble_eq_true rfl) (by decide) dL_law_921 rfl ?_
  exact G.icmp_eq (tgt := 1358) C dL_law_924 (by decide) (fun _ => ih M2 h3) (fun h => absurd rfl h)
set_option maxRecDepth 100000 in
set_option maxHeartbeats 4000000 in
theorem law_21 {Rel : Mem → Prop} {X : Gc} {ad : Nat → Nat} {b L i : Nat} {xs : Nat → Int32} {M : Mem} {s1 s2 s3 s4 : Int32} (C : Gk X ad cL_law "NineTonguesLaw" 4 10) (S : Gs X b L xs) (hi1 : vp_in (nI i + 1) L) (hi2 : vp_in (nI i + 2) L) (hi3 : vp_in (nI i + 3) L) (hi4 : vp_in (nI i + 4) L) (hv1 : xs (nI i + 1).toNatClampNeg = s1) (hv2 : xs (nI i + 2).toNatClampNeg = s2) (hv3 : xs (nI i + 3).toNatClampNeg = s3) (hv4 : xs (nI i + 4).toNatClampNeg = s4) (hO : opI Rel (pu (f_X9_middle)) (pu (f_X10_middle))) (hR : Rel M) (ih : ∀ M2, Rel M2 → G X ad 1358 4 [(0, .ref b), (1, .ref (ad 0)), (2, .ref (ad 108)), (3, .int (nI i))] [] M2) : G X ad 929 4 [(0, .ref b), (1, .ref (ad 0)), (2, .ref (ad 108)), (3, .int (nI i))] [] M := by
  obtain ⟨r, M1, M2, h1, h2, h3⟩ := hO M hR
  obtain ⟨h1, he1⟩ := pu_some h1
  subst he1
  obtain ⟨h2, he2⟩ := pu_some h2
  subst he2
  refine G.aload_n (pl := 1) C dL_law_929 rfl rfl ?_
  refine G.callV (st1 := [.int r]) C [] [] (c_X9_middle h1) mv_X9_middle k3_136 o_0.1 (fun _ => gShp_19 o_0) rfl rfl rfl rfl rfl (Nat.le_of_ble_eq_true rfl) (by decide) dL_law_930 rfl ?_
  refine G.aload_n (pl := 2) C dL_law_933 rfl rfl ?_
  refine G.callV (st1 := [.int r, .int r]) C [] [.int r] (c_X10_middle h2) mv_X10_middle k5_127 o_108.1 (fun _ => gShp_20 o_108) rfl rfl rfl rfl rfl (Nat.le_of_ble_eq_true rfl) (by decide) dL_law_934 rfl ?_
  exact G.icmp_eq (tgt := 1358) C dL_law_937 (by decide) (fun _ => ih M2 h3) (fun h => absurd rfl h)
set_option maxRecDepth 100000 in
set_option maxHeartbeats 4000000 in
theorem law_22 {Rel : Mem → Prop} {X : Gc} {ad : Nat → Nat} {b L i : Nat} {xs : Nat → Int32} {M : Mem} {s1 s2 s3 s4 : Int32} (C : Gk X ad cL_law "NineTonguesLaw" 4 10) (S : Gs X b L xs) (hi1 : vp_in (nI i + 1) L) (hi2 : vp_in (nI i + 2) L) (hi3 : vp_in (nI i + 3) L) (hi4 : vp_in (nI i + 4) L) (hv1 : xs (nI i + 1).toNatClampNeg = s1) (hv2 : xs (nI i + 2).toNatClampNeg = s2) (hv3 : xs (nI i + 3).toNatClampNeg = s3) (hv4 : xs (nI i + 4).toNatClampNeg = s4) (hO : opI Rel (f_X9_end s1 s2) (f_X10_end s1 s2)) (hR : Rel M) (ih : ∀ M2, Rel M2 → G X ad 1358 4 [(0, .ref b), (1, .ref (ad 0)), (2, .ref (ad 108)), (3, .int (nI i))] [] M2) : G X ad 942 4 [(0, .ref b), (1, .ref (ad 0)), (2, .ref (ad 108)), (3, .int (nI i))] [] M := by
  obtain ⟨r, M1, M2, h1, h2, h3⟩ := hO M hR
  refine G.aload_n (pl := 1) C dL_law_942 rfl rfl ?_
  refine G.aload_n (pl := 0) C dL_law_943 rfl rfl ?_
  refine G.iload_n (pl := 3) C dL_law_944 rfl rfl ?_
  refine G.iconst (v := 1) C dL_law_945 (by decide) ?_
  refine G.iadd C dL_law_946 ?_
  refine G.sld C S hi1 hv1 dL_law_947 ?_
  refine G.aload_n (pl := 0) C dL_law_948 rfl rfl ?_
  refine G.iload_n (pl := 3) C dL_law_949 rfl rfl ?_
  refine G.iconst (v := 2) C dL_law_950 (by decide) ?_
  refine G.iadd C dL_law_951 ?_
  refine G.sld C S hi2 hv2 dL_law_952 ?_
  refine G.callV (st1 := [.int r]) C [.int s1, .int s2] [] (c_X9_end h1) mv_X9_end k3_154 o_0.1 (fun _ => gShp_19 o_0) rfl rfl rfl rfl rfl (Nat.le_of_ble_eq_true rfl) (by decide) dL_law_953 rfl ?_
  refine G.aload_n (pl := 2) C dL_law_956 rfl rfl ?_
  refine G.aload_n (pl := 0) C dL_law_957 rfl rfl ?_
  refine G.iload_n (pl := 3) C dL_law_958 rfl rfl ?_
  refine G.iconst (v := 1) C dL_law_959 (by decide) ?_
  refine G.iadd C dL_law_960 ?_
  refine G.sld C S hi1 hv1 dL_law_961 ?_
  refine G.aload_n (pl := 0) C dL_law_962 rfl rfl ?_
  refine G.iload_n (pl := 3) C dL_law_963 rfl rfl ?_
  refine G.iconst (v := 2) C dL_law_964 (by decide) ?_
  refine G.iadd C dL_law_965 ?_
  refine G.sld C S hi2 hv2 dL_law_966 ?_
  refine G.callV (st1 := [.int r, .int r]) C [.int s1, .int s2] [.int r] (c_X10_end h2) mv_X10_end k5_135 o_108.1 (fun _ => gShp_20 o_108) rfl rfl rfl rfl rfl (Nat.le_of_ble_eq_true rfl) (by decide) dL_law_967 rfl ?_
  exact G.icmp_eq (tgt := 1358) C dL_law_970 (by decide) (fun _ => ih M2 h3) (fun h => absurd rfl h)
set_option maxRecDepth 100000 in
set_option maxHeartbeats 4000000 in
theorem law_23 {Rel : Mem → Prop} {X : Gc} {ad : Nat → Nat} {b L i : Nat} {xs : Nat → Int32} {M : Mem} {s1 s2 s3 s4 : Int32} (C : Gk X ad cL_law "NineTonguesLaw" 4 10) (S : Gs X b L xs) (hi1 : vp_in (nI i + 1) L) (hi2 : vp_in (nI i + 2) L) (hi3 : vp_in (nI i + 3) L) (hi4 : vp_in (nI i + 4) L) (hv1 : xs (nI i + 1).toNatClampNeg = s1) (hv2 : xs (nI i + 2).toNatClampNeg = s2) (hv3 : xs (nI i + 3).toNatClampNeg = s3) (hv4 : xs (nI i + 4).toNatClampNeg = s4) (hO : opI Rel (f_X9_endForm s1 s2) (f_X10_endForm s1 s2)) (hR : Rel M) (ih : ∀ M2, Rel M2 → G X ad 1358 4 [(0, .ref b), (1, .ref (ad 0)), (2, .ref (ad 108)), (3, .int (nI i))] [] M2) : G X ad 975 4 [(0, .ref b), (1, .ref (ad 0)), (2, .ref (ad 108)), (3, .int (nI i))] [] M := by
  obtain ⟨r, M1, M2, h1, h2, h3⟩ := hO M hR
  refine G.aload_n (pl := 1) C dL_law_975 rfl rfl ?_
  refine G.aload_n (pl := 0) C dL_law_976 rfl rfl ?_
  refine G.iload_n (pl := 3) C dL_law_977 rfl rfl ?_
  refine G.iconst (v := 1) C dL_law_978 (by decide) ?_
  refine G.iadd C dL_law_979 ?_
  refine G.sld C S hi1 hv1 dL_law_980 ?_
  refine G.aload_n (pl := 0) C dL_law_981 rfl rfl ?_
  refine G.iload_n (pl := 3) C dL_law_982 rfl rfl ?_
  refine G.iconst (v := 2) C dL_law_983 (by decide) ?_
  refine G.iadd C dL_law_984 ?_
  refine G.sld C S hi2 hv2 dL_law_985 ?_
  refine G.callV (st1 := [.int r]) C [.int s1, .int s2] [] (c_X9_endForm h1) mv_X9_endForm k3_158 o_0.1 (fun _ => gShp_19 o_0) rfl rfl rfl rfl rfl (Nat.le_of_ble_eq_true rfl) (by decide) dL_law_986 rfl ?_
  refine G.aload_n (pl := 2) C dL_law_989 rfl rfl ?_
  refine G.aload_n (pl := 0) C dL_law_990 rfl rfl ?_
  refine G.iload_n (pl := 3) C dL_law_991 rfl rfl ?_
  refine G.iconst (v := 1) C dL_law_992 (by decide) ?_
  refine G.iadd C dL_law_993 ?_
  refine G.sld C S hi1 hv1 dL_law_994 ?_
  refine G.aload_n (pl := 0) C dL_law_995 rfl rfl ?_
  refine G.iload_n (pl := 3) C dL_law_996 rfl rfl ?_
  refine G.iconst (v := 2) C dL_law_997 (by decide) ?_
  refine G.iadd C dL_law_998 ?_
  refine G.sld C S hi2 hv2 dL_law_999 ?_
  refine G.callV (st1 := [.int r, .int r]) C [.int s1, .int s2] [.int r] (c_X10_endForm h2) mv_X10_endForm k5_139 o_108.1 (fun _ => gShp_20 o_108) rfl rfl rfl rfl rfl (Nat.le_of_ble_eq_true rfl) (by decide) dL_law_1000 rfl ?_
  exact G.icmp_eq (tgt := 1358) C dL_law_1003 (by decide) (fun _ => ih M2 h3) (fun h => absurd rfl h)
set_option maxRecDepth 100000 in
set_option maxHeartbeats 4000000 in
theorem law_24 {Rel : Mem → Prop} {X : Gc} {ad : Nat → Nat} {b L i : Nat} {xs : Nat → Int32} {M : Mem} {s1 s2 s3 s4 : Int32} (C : Gk X ad cL_law "NineTonguesLaw" 4 10) (S : Gs X b L xs) (hi1 : vp_in (nI i + 1) L) (hi2 : vp_in (nI i + 2) L) (hi3 : vp_in (nI i + 3) L) (hi4 : vp_in (nI i + 4) L) (hv1 : xs (nI i + 1).toNatClampNeg = s1) (hv2 : xs (nI i + 2).toNatClampNeg = s2) (hv3 : xs (nI i + 3).toNatClampNeg = s3) (hv4 : xs (nI i + 4).toNatClampNeg = s4) (hO : opI Rel (f_X9_which s1 s2 s3) (f_X10_which s1 s2 s3)) (hR : Rel M) (ih : ∀ M2, Rel M2 → G X ad 1358 4 [(0, .ref b), (1, .ref (ad 0)), (2, .ref (ad 108)), (3, .int (nI i))] [] M2) : G X ad 1008 4 [(0, .ref b), (1, .ref (ad 0)), (2, .ref (ad 108)), (3, .int (nI i))] [] M := by
  obtain ⟨r, M1, M2, h1, h2, h3⟩ := hO M hR
  refine G.aload_n (pl := 1) C dL_law_1008 rfl rfl ?_
  refine G.aload_n (pl := 0) C dL_law_1009 rfl rfl ?_
  refine G.iload_n (pl := 3) C dL_law_1010 rfl rfl ?_
  refine G.iconst (v := 1) C dL_law_1011 (by decide) ?_
  refine G.iadd C dL_law_1012 ?_
  refine G.sld C S hi1 hv1 dL_law_1013 ?_
  refine G.aload_n (pl := 0) C dL_law_1014 rfl rfl ?_
  refine G.iload_n (pl := 3) C dL_law_1015 rfl rfl ?_
  refine G.iconst (v := 2) C dL_law_1016 (by decide) ?_
  refine G.iadd C dL_law_1017 ?_
  refine G.sld C S hi2 hv2 dL_law_1018 ?_
  refine G.aload_n (pl := 0) C dL_law_1019 rfl rfl ?_
  refine G.iload_n (pl := 3) C dL_law_1020 rfl rfl ?_
  refine G.iconst (v := 3) C dL_law_1021 (by decide) ?_
  refine G.iadd C dL_law_1022 ?_
  refine G.sld C S hi3 hv3 dL_law_1023 ?_
  refine G.callV (st1 := [.int r]) C [.int s1, .int s2, .int s3] [] (c_X9_which h1) mv_X9_which k3_162 o_0.1 (fun _ => gShp_19 o_0) rfl rfl rfl rfl rfl (Nat.le_of_ble_eq_true rfl) (by decide) dL_law_1024 rfl ?_
  refine G.aload_n (pl := 2) C dL_law_1027 rfl rfl ?_
  refine G.aload_n (pl := 0) C dL_law_1028 rfl rfl ?_
  refine G.iload_n (pl := 3) C dL_law_1029 rfl rfl ?_
  refine G.iconst (v := 1) C dL_law_1030 (by decide) ?_
  refine G.iadd C dL_law_1031 ?_
  refine G.sld C S hi1 hv1 dL_law_1032 ?_
  refine G.aload_n (pl := 0) C dL_law_1033 rfl rfl ?_
  refine G.iload_n (pl := 3) C dL_law_1034 rfl rfl ?_
  refine G.iconst (v := 2) C dL_law_1035 (by decide) ?_
  refine G.iadd C dL_law_1036 ?_
  refine G.sld C S hi2 hv2 dL_law_1037 ?_
  refine G.aload_n (pl := 0) C dL_law_1038 rfl rfl ?_
  refine G.iload_n (pl := 3) C dL_law_1039 rfl rfl ?_
  refine G.iconst (v := 3) C dL_law_1040 (by decide) ?_
  refine G.iadd C dL_law_1041 ?_
  refine G.sld C S hi3 hv3 dL_law_1042 ?_
  refine G.callV (st1 := [.int r, .int r]) C [.int s1, .int s2, .int s3] [.int r] (c_X10_which h2) mv_X10_which k5_143 o_108.1 (fun _ => gShp_20 o_108) rfl rfl rfl rfl rfl (Nat.le_of_ble_eq_true rfl) (by decide) dL_law_1043 rfl ?_
  exact G.icmp_eq (tgt := 1358) C dL_law_1046 (by decide) (fun _ => ih M2 h3) (fun h => absurd rfl h)
set_option maxRecDepth 100000 in
set_option maxHeartbeats 4000000 in
theorem law_25 {Rel : Mem → Prop} {X : Gc} {ad : Nat → Nat} {b L i : Nat} {xs : Nat → Int32} {M : Mem} {s1 s2 s3 s4 : Int32} (C : Gk X ad cL_law "NineTonguesLaw" 4 10) (S : Gs X b L xs) (hi1 : vp_in (nI i + 1) L) (hi2 : vp_in (nI i + 2) L) (hi3 : vp_in (nI i + 3) L) (hi4 : vp_in (nI i + 4) L) (hv1 : xs (nI i + 1).toNatClampNeg = s1) (hv2 : xs (nI i + 2).toNatClampNeg = s2) (hv3 : xs (nI i + 3).toNatClampNeg = s3) (hv4 : xs (nI i + 4).toNatClampNeg = s4) (hO : opI Rel (f_X9_pair s1 s2 s3 s4) (f_X10_pair s1 s2 s3 s4)) (hR : Rel M) (ih : ∀ M2, Rel M2 → G X ad 1358 4 [(0, .ref b), (1, .ref (ad 0)), (2, .ref (ad 108)), (3, .int (nI i))] [] M2) : G X ad 1051 4 [(0, .ref b), (1, .ref (ad 0)), (2, .ref (ad 108)), (3, .int (nI i))] [] M := by
  obtain ⟨r, M1, M2, h1, h2, h3⟩ := hO M hR
  refine G.aload_n (pl := 1) C dL_law_1051 rfl rfl ?_
  refine G.aload_n (pl := 0) C dL_law_1052 rfl rfl ?_
  refine G.iload_n (pl := 3) C dL_law_1053 rfl rfl ?_
  refine G.iconst (v := 1) C dL_law_1054 (by decide) ?_
  refine G.iadd C dL_law_1055 ?_
  refine G.sld C S hi1 hv1 dL_law_1056 ?_
  refine G.aload_n (pl := 0) C dL_law_1057 rfl rfl ?_
  refine G.iload_n (pl := 3) C dL_law_1058 rfl rfl ?_
  refine G.iconst (v := 2) C dL_law_1059 (by decide) ?_
  refine G.iadd C dL_law_1060 ?_
  refine G.sld C S hi2 hv2 dL_law_1061 ?_
  refine G.aload_n (pl := 0) C dL_law_1062 rfl rfl ?_
  refine G.iload_n (pl := 3) C dL_law_1063 rfl rfl ?_
  refine G.iconst (v := 3) C dL_law_1064 (by decide) ?_
  refine G.iadd C dL_law_1065 ?_
  refine G.sld C S hi3 hv3 dL_law_1066 ?_
  refine G.aload_n (pl := 0) C dL_law_1067 rfl rfl ?_
  refine G.iload_n (pl := 3) C dL_law_1068 rfl rfl ?_
  refine G.iconst (v := 4) C dL_law_1069 (by decide) ?_
  refine G.iadd C dL_law_1070 ?_
  refine G.sld C S hi4 hv4 dL_law_1071 ?_
  refine G.callV (st1 := [.int r]) C [.int s1, .int s2, .int s3, .int s4] [] (c_X9_pair h1) mv_X9_pair k3_182 o_0.1 (fun _ => gShp_19 o_0) rfl rfl rfl rfl rfl (Nat.le_of_ble_eq_true rfl) (by decide) dL_law_1072 rfl ?_
  refine G.aload_n (pl := 2) C dL_law_1075 rfl rfl ?_
  refine G.aload_n (pl := 0) C dL_law_1076 rfl rfl ?_
  refine G.iload_n (pl := 3) C dL_law_1077 rfl rfl ?_
  refine G.iconst (v := 1) C dL_law_1078 (by decide) ?_
  refine G.iadd C dL_law_1079 ?_
  refine G.sld C S hi1 hv1 dL_law_1080 ?_
  refine G.aload_n (pl := 0) C dL_law_1081 rfl rfl ?_
  refine G.iload_n (pl := 3) C dL_law_1082 rfl rfl ?_
  refine G.iconst (v := 2) C dL_law_1083 (by decide) ?_
  refine G.iadd C dL_law_1084 ?_
  refine G.sld C S hi2 hv2 dL_law_1085 ?_
  refine G.aload_n (pl := 0) C dL_law_1086 rfl rfl ?_
  refine G.iload_n (pl := 3) C dL_law_1087 rfl rfl ?_
  refine G.iconst (v := 3) C dL_law_1088 (by decide) ?_
  refine G.iadd C dL_law_1089 ?_
  refine G.sld C S hi3 hv3 dL_law_1090 ?_
  refine G.aload_n (pl := 0) C dL_law_1091 rfl rfl ?_
  refine G.iload_n (pl := 3) C dL_law_1092 rfl rfl ?_
  refine G.iconst (v := 4) C dL_law_1093 (by decide) ?_
  refine G.iadd C dL_law_1094 ?_
  refine G.sld C S hi4 hv4 dL_law_1095 ?_
  refine G.callV (st1 := [.int r, .int r]) C [.int s1, .int s2, .int s3, .int s4] [.int r] (c_X10_pair h2) mv_X10_pair k5_155 o_108.1 (fun _ => gShp_20 o_108) rfl rfl rfl rfl rfl (Nat.le_of_ble_eq_true rfl) (by decide) dL_law_1096 rfl ?_
  exact G.icmp_eq (tgt := 1358) C dL_law_1099 (by decide) (fun _ => ih M2 h3) (fun h => absurd rfl h)
set_option maxRecDepth 100000 in
set_option maxHeartbeats 4000000 in
theorem law_26 {Rel : Mem → Prop} {X : Gc} {ad : Nat → Nat} {b L i : Nat} {xs : Nat → Int32} {M : Mem} {s1 s2 s3 s4 : Int32} (C : Gk X ad cL_law "NineTonguesLaw" 4 10) (S : Gs X b L xs) (hi1 : vp_in (nI i + 1) L) (hi2 : vp_in (nI i + 2) L) (hi3 : vp_in (nI i + 3) L) (hi4 : vp_in (nI i + 4) L) (hv1 : xs (nI i + 1).toNatClampNeg = s1) (hv2 : xs (nI i + 2).toNatClampNeg = s2) (hv3 : xs (nI i + 3).toNatClampNeg = s3) (hv4 : xs (nI i + 4).toNatClampNeg = s4) (hO : opI Rel (f_X9_rings s1) (f_X10_rings s1)) (hR : Rel M) (ih : ∀ M2, Rel M2 → G X ad 1358 4 [(0, .ref b), (1, .ref (ad 0)), (2, .ref (ad 108)), (3, .int (nI i))] [] M2) : G X ad 1104 4 [(0, .ref b), (1, .ref (ad 0)), (2, .ref (ad 108)), (3, .int (nI i))] [] M := by
  obtain ⟨r, M1, M2, h1, h2, h3⟩ := hO M hR
  refine G.aload_n (pl := 1) C dL_law_1104 rfl rfl ?_
  refine G.aload_n (pl := 0) C dL_law_1105 rfl rfl ?_
  refine G.iload_n (pl := 3) C dL_law_1106 rfl rfl ?_
  refine G.iconst (v := 1) C dL_law_1107 (by decide) ?_
  refine G.iadd C dL_law_1108 ?_
  refine G.sld C S hi1 hv1 dL_law_1109 ?_
  refine G.callV (st1 := [.int r]) C [.int s1] [] (c_X9_rings h1) mv_X9_rings k3_198 o_0.1 (fun _ => gShp_19 o_0) rfl rfl rfl rfl rfl (Nat.le_of_ble_eq_true rfl) (by decide) dL_law_1110 rfl ?_
  refine G.aload_n (pl := 2) C dL_law_1113 rfl rfl ?_
  refine G.aload_n (pl := 0) C dL_law_1114 rfl rfl ?_
  refine G.iload_n (pl := 3) C dL_law_1115 rfl rfl ?_
  refine G.iconst (v := 1) C dL_law_1116 (by decide) ?_
  refine G.iadd C dL_law_1117 ?_
  refine G.sld C S hi1 hv1 dL_law_1118 ?_
  refine G.callV (st1 := [.int r, .int r]) C [.int s1] [.int r] (c_X10_rings h2) mv_X10_rings k5_163 o_108.1 (fun _ => gShp_20 o_108) rfl rfl rfl rfl rfl (Nat.le_of_ble_eq_true rfl) (by decide) dL_law_1119 rfl ?_
  exact G.icmp_eq (tgt := 1358) C dL_law_1122 (by decide) (fun _ => ih M2 h3) (fun h => absurd rfl h)
set_option maxRecDepth 100000 in
set_option maxHeartbeats 4000000 in
theorem law_27 {Rel : Mem → Prop} {X : Gc} {ad : Nat → Nat} {b L i : Nat} {xs : Nat → Int32} {M : Mem} {s1 s2 s3 s4 : Int32} (C : Gk X ad cL_law "NineTonguesLaw" 4 10) (S : Gs X b L xs) (hi1 : vp_in (nI i + 1) L) (hi2 : vp_in (nI i + 2) L) (hi3 : vp_in (nI i + 3) L) (hi4 : vp_in (nI i + 4) L) (hv1 : xs (nI i + 1).toNatClampNeg = s1) (hv2 : xs (nI i + 2).toNatClampNeg = s2) (hv3 : xs (nI i + 3).toNatClampNeg = s3) (hv4 : xs (nI i + 4).toNatClampNeg = s4) (hO : opI Rel (f_X9_atFault s1) (f_X10_atFault s1)) (hR : Rel M) (ih : ∀ M2, Rel M2 → G X ad 1358 4 [(0, .ref b), (1, .ref (ad 0)), (2, .ref (ad 108)), (3, .int (nI i))] [] M2) : G X ad 1127 4 [(0, .ref b), (1, .ref (ad 0)), (2, .ref (ad 108)), (3, .int (nI i))] [] M := by
  obtain ⟨r, M1, M2, h1, h2, h3⟩ := hO M hR
  refine G.aload_n (pl := 1) C dL_law_1127 rfl rfl ?_
  refine G.aload_n (pl := 0) C dL_law_1128 rfl rfl ?_
  refine G.iload_n (pl := 3) C dL_law_1129 rfl rfl ?_
  refine G.iconst (v := 1) C dL_law_1130 (by decide) ?_
  refine G.iadd C dL_law_1131 ?_
  refine G.sld C S hi1 hv1 dL_law_1132 ?_
  refine G.callV (st1 := [.int r]) C [.int s1] [] (c_X9_atFault h1) mv_X9_atFault k3_220 o_0.1 (fun _ => gShp_19 o_0) rfl rfl rfl rfl rfl (Nat.le_of_ble_eq_true rfl) (by decide) dL_law_1133 rfl ?_
  refine G.aload_n (pl := 2) C dL_law_1136 rfl rfl ?_
  refine G.aload_n (pl := 0) C dL_law_1137 rfl rfl ?_
  refine G.iload_n (pl := 3) C dL_law_1138 rfl rfl ?_
  refine G.iconst (v := 1) C dL_law_1139 (by decide) ?_
  refine G.iadd C dL_law_1140 ?_
  refine G.sld C S hi1 hv1 dL_law_1141 ?_
  refine G.callV (st1 := [.int r, .int r]) C [.int s1] [.int r] (c_X10_atFault h2) mv_X10_atFault k5_183 o_108.1 (fun _ => gShp_20 o_108) rfl rfl rfl rfl rfl (Nat.le_of_ble_eq_true rfl) (by decide) dL_law_1142 rfl ?_
  exact G.icmp_eq (tgt := 1358) C dL_law_1145 (by decide) (fun _ => ih M2 h3) (fun h => absurd rfl h)
set_option maxRecDepth 100000 in
set_option maxHeartbeats 4000000 in
theorem law_28 {Rel : Mem → Prop} {X : Gc} {ad : Nat → Nat} {b L i : Nat} {xs : Nat → Int32} {M : Mem} {s1 s2 s3 s4 : Int32} (C : Gk X ad cL_law "NineTonguesLaw" 4 10) (S : Gs X b L xs) (hi1 : vp_in (nI i + 1) L) (hi2 : vp_in (nI i + 2) L) (hi3 : vp_in (nI i + 3) L) (hi4 : vp_in (nI i + 4) L) (hv1 : xs (nI i + 1).toNatClampNeg = s1) (hv2 : xs (nI i + 2).toNatClampNeg = s2) (hv3 : xs (nI i + 3).toNatClampNeg = s3) (hv4 : xs (nI i + 4).toNatClampNeg = s4) (hO : opI Rel (f_X9_worst) (f_X10_worst)) (hR : Rel M) (ih : ∀ M2, Rel M2 → G X ad 1358 4 [(0, .ref b), (1, .ref (ad 0)), (2, .ref (ad 108)), (3, .int (nI i))] [] M2) : G X ad 1150 4 [(0, .ref b), (1, .ref (ad 0)), (2, .ref (ad 108)), (3, .int (nI i))] [] M := by
  obtain ⟨r, M1, M2, h1, h2, h3⟩ := hO M hR
  refine G.aload_n (pl := 1) C dL_law_1150 rfl rfl ?_
  refine G.callV (st1 := [.int r]) C [] [] (c_X9_worst h1) mv_X9_worst k3_224 o_0.1 (fun _ => gShp_19 o_0) rfl rfl rfl rfl rfl (Nat.le_of_ble_eq_true rfl) (by decide) dL_law_1151 rfl ?_
  refine G.aload_n (pl := 2) C dL_law_1154 rfl rfl ?_
  refine G.callV (st1 := [.int r, .int r]) C [] [.int r] (c_X10_worst h2) mv_X10_worst k5_187 o_108.1 (fun _ => gShp_20 o_108) rfl rfl rfl rfl rfl (Nat.le_of_ble_eq_true rfl) (by decide) dL_law_1155 rfl ?_
  exact G.icmp_eq (tgt := 1358) C dL_law_1158 (by decide) (fun _ => ih M2 h3) (fun h => absurd rfl h)
set_option maxRecDepth 100000 in
set_option maxHeartbeats 4000000 in
theorem law_29 {Rel : Mem → Prop} {X : Gc} {ad : Nat → Nat} {b L i : Nat} {xs : Nat → Int32} {M : Mem} {s1 s2 s3 s4 : Int32} (C : Gk X ad cL_law "NineTonguesLaw" 4 10) (S : Gs X b L xs) (hi1 : vp_in (nI i + 1) L) (hi2 : vp_in (nI i + 2) L) (hi3 : vp_in (nI i + 3) L) (hi4 : vp_in (nI i + 4) L) (hv1 : xs (nI i + 1).toNatClampNeg = s1) (hv2 : xs (nI i + 2).toNatClampNeg = s2) (hv3 : xs (nI i + 3).toNatClampNeg = s3) (hv4 : xs (nI i + 4).toNatClampNeg = s4) (hO : opI Rel (f_X9_sets) (f_X10_sets)) (hR : Rel M) (ih : ∀ M2, Rel M2 → G X ad 1358 4 [(0, .ref b), (1, .ref (ad 0)), (2, .ref (ad 108)), (3, .int (nI i))] [] M2) : G X ad 1163 4 [(0, .ref b), (1, .ref (ad 0)), (2, .ref (ad 108)), (3, .int (nI i))] [] M := by
  obtain ⟨r, M1, M2, h1, h2, h3⟩ := hO M hR
  refine G.aload_n (pl := 1) C dL_law_1163 rfl rfl ?_
  refine G.callV (st1 := [.int r]) C [] [] (c_X9_sets h1) mv_X9_sets k3_232 o_0.1 (fun _ => gShp_19 o_0) rfl rfl rfl rfl rfl (Nat.le_of_ble_eq_true rfl) (by decide) dL_law_1164 rfl ?_
  refine G.aload_n (pl := 2) C dL_law_1167 rfl rfl ?_
  refine G.callV (st1 := [.int r, .int r]) C [] [.int r] (c_X10_sets h2) mv_X10_sets k5_191 o_108.1 (fun _ => gShp_20 o_108) rfl rfl rfl rfl rfl (Nat.le_of_ble_eq_true rfl) (by decide) dL_law_1168 rfl ?_
  exact G.icmp_eq (tgt := 1358) C dL_law_1171 (by decide) (fun _ => ih M2 h3) (fun h => absurd rfl h)
set_option maxRecDepth 100000 in
set_option maxHeartbeats 4000000 in
theorem law_30 {Rel : Mem → Prop} {X : Gc} {ad : Nat → Nat} {b L i : Nat} {xs : Nat → Int32} {M : Mem} {s1 s2 s3 s4 : Int32} (C : Gk X ad cL_law "NineTonguesLaw" 4 10) (S : Gs X b L xs) (hi1 : vp_in (nI i + 1) L) (hi2 : vp_in (nI i + 2) L) (hi3 : vp_in (nI i + 3) L) (hi4 : vp_in (nI i + 4) L) (hv1 : xs (nI i + 1).toNatClampNeg = s1) (hv2 : xs (nI i + 2).toNatClampNeg = s2) (hv3 : xs (nI i + 3).toNatClampNeg = s3) (hv4 : xs (nI i + 4).toNatClampNeg = s4) (hO : opI Rel (f_X9_alike s1 s2 s3 s4) (f_X10_alike s1 s2 s3 s4)) (hR : Rel M) (ih : ∀ M2, Rel M2 → G X ad 1358 4 [(0, .ref b), (1, .ref (ad 0)), (2, .ref (ad 108)), (3, .int (nI i))] [] M2) : G X ad 1176 4 [(0, .ref b), (1, .ref (ad 0)), (2, .ref (ad 108)), (3, .int (nI i))] [] M := by
  obtain ⟨r, M1, M2, h1, h2, h3⟩ := hO M hR
  refine G.aload_n (pl := 1) C dL_law_1176 rfl rfl ?_
  refine G.aload_n (pl := 0) C dL_law_1177 rfl rfl ?_
  refine G.iload_n (pl := 3) C dL_law_1178 rfl rfl ?_
  refine G.iconst (v := 1) C dL_law_1179 (by decide) ?_
  refine G.iadd C dL_law_1180 ?_
  refine G.sld C S hi1 hv1 dL_law_1181 ?_
  refine G.aload_n (pl := 0) C dL_law_1182 rfl rfl ?_
  refine G.iload_n (pl := 3) C dL_law_1183 rfl rfl ?_
  refine G.iconst (v := 2) C dL_law_1184 (by decide) ?_
  refine G.iadd C dL_law_1185 ?_
  refine G.sld C S hi2 hv2 dL_law_1186 ?_
  refine G.aload_n (pl := 0) C dL_law_1187 rfl rfl ?_
  refine G.iload_n (pl := 3) C dL_law_1188 rfl rfl ?_
  refine G.iconst (v := 3) C dL_law_1189 (by decide) ?_
  refine G.iadd C dL_law_1190 ?_
  refine G.sld C S hi3 hv3 dL_law_1191 ?_
  refine G.aload_n (pl := 0) C dL_law_1192 rfl rfl ?_
  refine G.iload_n (pl := 3) C dL_law_1193 rfl rfl ?_
  refine G.iconst (v := 4) C dL_law_1194 (by decide) ?_
  refine G.iadd C dL_law_1195 ?_
  refine G.sld C S hi4 hv4 dL_law_1196 ?_
  refine G.callV (st1 := [.int r]) C [.int s1, .int s2, .int s3, .int s4] [] (c_X9_alike h1) mv_X9_alike k4_5 o_0.1 (fun _ => gShp_19 o_0) rfl rfl rfl rfl rfl (Nat.le_of_ble_eq_true rfl) (by decide) dL_law_1197 rfl ?_
  refine G.aload_n (pl := 2) C dL_law_1200 rfl rfl ?_
  refine G.aload_n (pl := 0) C dL_law_1201 rfl rfl ?_
  refine G.iload_n (pl := 3) C dL_law_1202 rfl rfl ?_
  refine G.iconst (v := 1) C dL_law_1203 (by decide) ?_
  refine G.iadd C dL_law_1204 ?_
  refine G.sld C S hi1 hv1 dL_law_1205 ?_
  refine G.aload_n (pl := 0) C dL_law_1206 rfl rfl ?_
  refine G.iload_n (pl := 3) C dL_law_1207 rfl rfl ?_
  refine G.iconst (v := 2) C dL_law_1208 (by decide) ?_
  refine G.iadd C dL_law_1209 ?_
  refine G.sld C S hi2 hv2 dL_law_1210 ?_
  refine G.aload_n (pl := 0) C dL_law_1211 rfl rfl ?_
  refine G.iload_n (pl := 3) C dL_law_1212 rfl rfl ?_
  refine G.iconst (v := 3) C dL_law_1213 (by decide) ?_
  refine G.iadd C dL_law_1214 ?_
  refine G.sld C S hi3 hv3 dL_law_1215 ?_
  refine G.aload_n (pl := 0) C dL_law_1216 rfl rfl ?_
  refine G.iload_n (pl := 3) C dL_law_1217 rfl rfl ?_
  refine G.iconst (v := 4) C dL_law_1218 (by decide) ?_
  refine G.iadd C dL_law_1219 ?_
  refine G.sld C S hi4 hv4 dL_law_1220 ?_
  refine G.callV (st1 := [.int r, .int r]) C [.int s1, .int s2, .int s3, .int s4] [.int r] (c_X10_alike h2) mv_X10_alike k5_199 o_108.1 (fun _ => gShp_20 o_108) rfl rfl rfl rfl rfl (Nat.le_of_ble_eq_true rfl) (by decide) dL_law_1221 rfl ?_
  exact G.icmp_eq (tgt := 1358) C dL_law_1224 (by decide) (fun _ => ih M2 h3) (fun h => absurd rfl h)
set_option maxRecDepth 100000 in
set_option maxHeartbeats 4000000 in
theorem law_31 {Rel : Mem → Prop} {X : Gc} {ad : Nat → Nat} {b L i : Nat} {xs : Nat → Int32} {M : Mem} {s1 s2 s3 s4 : Int32} (C : Gk X ad cL_law "NineTonguesLaw" 4 10) (S : Gs X b L xs) (hi1 : vp_in (nI i + 1) L) (hi2 : vp_in (nI i + 2) L) (hi3 : vp_in (nI i + 3) L) (hi4 : vp_in (nI i + 4) L) (hv1 : xs (nI i + 1).toNatClampNeg = s1) (hv2 : xs (nI i + 2).toNatClampNeg = s2) (hv3 : xs (nI i + 3).toNatClampNeg = s3) (hv4 : xs (nI i + 4).toNatClampNeg = s4) (hO : opI Rel (f_X9_part s1) (f_X10_part s1)) (hR : Rel M) (ih : ∀ M2, Rel M2 → G X ad 1358 4 [(0, .ref b), (1, .ref (ad 0)), (2, .ref (ad 108)), (3, .int (nI i))] [] M2) : G X ad 1229 4 [(0, .ref b), (1, .ref (ad 0)), (2, .ref (ad 108)), (3, .int (nI i))] [] M := by
  obtain ⟨r, M1, M2, h1, h2, h3⟩ := hO M hR
  refine G.aload_n (pl := 1) C dL_law_1229 rfl rfl ?_
  refine G.aload_n (pl := 0) C dL_law_1230 rfl rfl ?_
  refine G.iload_n (pl := 3) C dL_law_1231 rfl rfl ?_
  refine G.iconst (v := 1) C dL_law_1232 (by decide) ?_
  refine G.iadd C dL_law_1233 ?_
  refine G.sld C S hi1 hv1 dL_law_1234 ?_
  refine G.callV (st1 := [.int r]) C [.int s1] [] (c_X9_part h1) mv_X9_part k4_9 o_0.1 (fun _ => gShp_19 o_0) rfl rfl rfl rfl rfl (Nat.le_of_ble_eq_true rfl) (by decide) dL_law_1235 rfl ?_
  refine G.aload_n (pl := 2) C dL_law_1238 rfl rfl ?_
  refine G.aload_n (pl := 0) C dL_law_1239 rfl rfl ?_
  refine G.iload_n (pl := 3) C dL_law_1240 rfl rfl ?_
  refine G.iconst (v := 1) C dL_law_1241 (by decide) ?_
  refine G.iadd C dL_law_1242 ?_
  refine G.sld C S hi1 hv1 dL_law_1243 ?_
  refine G.callV (st1 := [.int r, .int r]) C [.int s1] [.int r] (c_X10_part h2) mv_X10_part k5_203 o_108.1 (fun _ => gShp_20 o_108) rfl rfl rfl rfl rfl (Nat.le_of_ble_eq_true rfl) (by decide) dL_law_1244 rfl ?_
  exact G.icmp_eq (tgt := 1358) C dL_law_1247 (by decide) (fun _ => ih M2 h3) (fun h => absurd rfl h)
set_option maxRecDepth 100000 in
set_option maxHeartbeats 4000000 in
theorem law_32 {Rel : Mem → Prop} {X : Gc} {ad : Nat → Nat} {b L i : Nat} {xs : Nat → Int32} {M : Mem} {s1 s2 s3 s4 : Int32} (C : Gk X ad cL_law "NineTonguesLaw" 4 10) (S : Gs X b L xs) (hi1 : vp_in (nI i + 1) L) (hi2 : vp_in (nI i + 2) L) (hi3 : vp_in (nI i + 3) L) (hi4 : vp_in (nI i + 4) L) (hv1 : xs (nI i + 1).toNatClampNeg = s1) (hv2 : xs (nI i + 2).toNatClampNeg = s2) (hv3 : xs (nI i + 3).toNatClampNeg = s3) (hv4 : xs (nI i + 4).toNatClampNeg = s4) (hO : opI Rel (f_X9_image s1) (f_X10_image s1)) (hR : Rel M) (ih : ∀ M2, Rel M2 → G X ad 1358 4 [(0, .ref b), (1, .ref (ad 0)), (2, .ref (ad 108)), (3, .int (nI i))] [] M2) : G X ad 1252 4 [(0, .ref b), (1, .ref (ad 0)), (2, .ref (ad 108)), (3, .int (nI i))] [] M := by
  obtain ⟨r, M1, M2, h1, h2, h3⟩ := hO M hR
  refine G.aload_n (pl := 1) C dL_law_1252 rfl rfl ?_
  refine G.aload_n (pl := 0) C dL_law_1253 rfl rfl ?_
  refine G.iload_n (pl := 3) C dL_law_1254 rfl rfl ?_
  refine G.iconst (v := 1) C dL_law_1255 (by decide) ?_
  refine G.iadd C dL_law_1256 ?_
  refine G.sld C S hi1 hv1 dL_law_1257 ?_
  refine G.callV (st1 := [.int r]) C [.int s1] [] (c_X9_image h1) mv_X9_image k4_13 o_0.1 (fun _ => gShp_19 o_0) rfl rfl rfl rfl rfl (Nat.le_of_ble_eq_true rfl) (by decide) dL_law_1258 rfl ?_
  refine G.aload_n (pl := 2) C dL_law_1261 rfl rfl ?_
  refine G.aload_n (pl := 0) C dL_law_1262 rfl rfl ?_
  refine G.iload_n (pl := 3) C dL_law_1263 rfl rfl ?_
  refine G.iconst (v := 1) C dL_law_1264 (by decide) ?_
  refine G.iadd C dL_law_1265 ?_
  refine G.sld C S hi1 hv1 dL_law_1266 ?_
  refine G.callV (st1 := [.int r, .int r]) C [.int s1] [.int r] (c_X10_image h2) mv_X10_image k5_207 o_108.1 (fun _ => gShp_20 o_108) rfl rfl rfl rfl rfl (Nat.le_of_ble_eq_true rfl) (by decide) dL_law_1267 rfl ?_
  exact G.icmp_eq (tgt := 1358) C dL_law_1270 (by decide) (fun _ => ih M2 h3) (fun h => absurd rfl h)
set_option maxRecDepth 100000 in
set_option maxHeartbeats 4000000 in
theorem law_33 {Rel : Mem → Prop} {X : Gc} {ad : Nat → Nat} {b L i : Nat} {xs : Nat → Int32} {M : Mem} {s1 s2 s3 s4 : Int32} (C : Gk X ad cL_law "NineTonguesLaw" 4 10) (S : Gs X b L xs) (hi1 : vp_in (nI i + 1) L) (hi2 : vp_in (nI i + 2) L) (hi3 : vp_in (nI i + 3) L) (hi4 : vp_in (nI i + 4) L) (hv1 : xs (nI i + 1).toNatClampNeg = s1) (hv2 : xs (nI i + 2).toNatClampNeg = s2) (hv3 : xs (nI i + 3).toNatClampNeg = s3) (hv4 : xs (nI i + 4).toNatClampNeg = s4) (hO : opI Rel (f_X9_from s1) (f_X10_from s1)) (hR : Rel M) (ih : ∀ M2, Rel M2 → G X ad 1358 4 [(0, .ref b), (1, .ref (ad 0)), (2, .ref (ad 108)), (3, .int (nI i))] [] M2) : G X ad 1275 4 [(0, .ref b), (1, .ref (ad 0)), (2, .ref (ad 108)), (3, .int (nI i))] [] M := by
  obtain ⟨r, M1, M2, h1, h2, h3⟩ := hO M hR
  refine G.aload_n (pl := 1) C dL_law_1275 rfl rfl ?_
  refine G.aload_n (pl := 0) C dL_law_1276 rfl rfl ?_
  refine G.iload_n (pl := 3) C dL_law_1277 rfl rfl ?_
  refine G.iconst (v := 1) C dL_law_1278 (by decide) ?_
  refine G.iadd C dL_law_1279 ?_
  refine G.sld C S hi1 hv1 dL_law_1280 ?_
  refine G.callV (st1 := [.int r]) C [.int s1] [] (c_X9_from h1) mv_X9_from k4_42 o_0.1 (fun _ => gShp_19 o_0) rfl rfl rfl rfl rfl (Nat.le_of_ble_eq_true rfl) (by decide) dL_law_1281 rfl ?_
  refine G.aload_n (pl := 2) C dL_law_1284 rfl rfl ?_
  refine G.aload_n (pl := 0) C dL_law_1285 rfl rfl ?_
  refine G.iload_n (pl := 3) C dL_law_1286 rfl rfl ?_
  refine G.iconst (v := 1) C dL_law_1287 (by decide) ?_
  refine G.iadd C dL_law_1288 ?_
  refine G.sld C S hi1 hv1 dL_law_1289 ?_
  refine G.callV (st1 := [.int r, .int r]) C [.int s1] [.int r] (c_X10_from h2) mv_X10_from k5_215 o_108.1 (fun _ => gShp_20 o_108) rfl rfl rfl rfl rfl (Nat.le_of_ble_eq_true rfl) (by decide) dL_law_1290 rfl ?_
  exact G.icmp_eq (tgt := 1358) C dL_law_1293 (by decide) (fun _ => ih M2 h3) (fun h => absurd rfl h)
set_option maxRecDepth 100000 in
set_option maxHeartbeats 4000000 in
theorem law_34 {Rel : Mem → Prop} {X : Gc} {ad : Nat → Nat} {b L i : Nat} {xs : Nat → Int32} {M : Mem} {s1 s2 s3 s4 : Int32} (C : Gk X ad cL_law "NineTonguesLaw" 4 10) (S : Gs X b L xs) (hi1 : vp_in (nI i + 1) L) (hi2 : vp_in (nI i + 2) L) (hi3 : vp_in (nI i + 3) L) (hi4 : vp_in (nI i + 4) L) (hv1 : xs (nI i + 1).toNatClampNeg = s1) (hv2 : xs (nI i + 2).toNatClampNeg = s2) (hv3 : xs (nI i + 3).toNatClampNeg = s3) (hv4 : xs (nI i + 4).toNatClampNeg = s4) (hO : opI Rel (f_X9_status s1) (f_X10_status s1)) (hR : Rel M) (ih : ∀ M2, Rel M2 → G X ad 1358 4 [(0, .ref b), (1, .ref (ad 0)), (2, .ref (ad 108)), (3, .int (nI i))] [] M2) : G X ad 1298 4 [(0, .ref b), (1, .ref (ad 0)), (2, .ref (ad 108)), (3, .int (nI i))] [] M := by
  obtain ⟨r, M1, M2, h1, h2, h3⟩ := hO M hR
  refine G.aload_n (pl := 1) C dL_law_1298 rfl rfl ?_
  refine G.aload_n (pl := 0) C dL_law_1299 rfl rfl ?_
  refine G.iload_n (pl := 3) C dL_law_1300 rfl rfl ?_
  refine G.iconst (v := 1) C dL_law_1301 (by decide) ?_
  refine G.iadd C dL_law_1302 ?_
  refine G.sld C S hi1 hv1 dL_law_1303 ?_
  refine G.callV (st1 := [.int r]) C [.int s1] [] (c_X9_status h1) mv_X9_status k4_46 o_0.1 (fun _ => gShp_19 o_0) rfl rfl rfl rfl rfl (Nat.le_of_ble_eq_true rfl) (by decide) dL_law_1304 rfl ?_
  refine G.aload_n (pl := 2) C dL_law_1307 rfl rfl ?_
  refine G.aload_n (pl := 0) C dL_law_1308 rfl rfl ?_
  refine G.iload_n (pl := 3) C dL_law_1309 rfl rfl ?_
  refine G.iconst (v := 1) C dL_law_1310 (by decide) ?_
  refine G.iadd C dL_law_1311 ?_
  refine G.sld C S hi1 hv1 dL_law_1312 ?_
  refine G.callV (st1 := [.int r, .int r]) C [.int s1] [.int r] (c_X10_status h2) mv_X10_status k5_219 o_108.1 (fun _ => gShp_20 o_108) rfl rfl rfl rfl rfl (Nat.le_of_ble_eq_true rfl) (by decide) dL_law_1313 rfl ?_
  exact G.icmp_eq (tgt := 1358) C dL_law_1316 (by decide) (fun _ => ih M2 h3) (fun h => absurd rfl h)
set_option maxRecDepth 100000 in
set_option maxHeartbeats 4000000 in
theorem law_35 {Rel : Mem → Prop} {X : Gc} {ad : Nat → Nat} {b L i : Nat} {xs : Nat → Int32} {M : Mem} {s1 s2 s3 s4 : Int32} (C : Gk X ad cL_law "NineTonguesLaw" 4 10) (S : Gs X b L xs) (hi1 : vp_in (nI i + 1) L) (hi2 : vp_in (nI i + 2) L) (hi3 : vp_in (nI i + 3) L) (hi4 : vp_in (nI i + 4) L) (hv1 : xs (nI i + 1).toNatClampNeg = s1) (hv2 : xs (nI i + 2).toNatClampNeg = s2) (hv3 : xs (nI i + 3).toNatClampNeg = s3) (hv4 : xs (nI i + 4).toNatClampNeg = s4) (hO : opI Rel (f_X9_count s1) (f_X10_count s1)) (hR : Rel M) (ih : ∀ M2, Rel M2 → G X ad 1358 4 [(0, .ref b), (1, .ref (ad 0)), (2, .ref (ad 108)), (3, .int (nI i))] [] M2) : G X ad 1321 4 [(0, .ref b), (1, .ref (ad 0)), (2, .ref (ad 108)), (3, .int (nI i))] [] M := by
  obtain ⟨r, M1, M2, h1, h2, h3⟩ := hO M hR
  refine G.aload_n (pl := 1) C dL_law_1321 rfl rfl ?_
  refine G.aload_n (pl := 0) C dL_law_1322 rfl rfl ?_
  refine G.iload_n (pl := 3) C dL_law_1323 rfl rfl ?_
  refine G.iconst (v := 1) C dL_law_1324 (by decide) ?_
  refine G.iadd C dL_law_1325 ?_
  refine G.sld C S hi1 hv1 dL_law_1326 ?_
  refine G.callV (st1 := [.int r]) C [.int s1] [] (c_X9_count h1) mv_X9_count k4_50 o_0.1 (fun _ => gShp_19 o_0) rfl rfl rfl rfl rfl (Nat.le_of_ble_eq_true rfl) (by decide) dL_law_1327 rfl ?_
  refine G.aload_n (pl := 2) C dL_law_1330 rfl rfl ?_
  refine G.aload_n (pl := 0) C dL_law_1331 rfl rfl ?_
  refine G.iload_n (pl := 3) C dL_law_1332 rfl rfl ?_
  refine G.iconst (v := 1) C dL_law_1333 (by decide) ?_
  refine G.iadd C dL_law_1334 ?_
  refine G.sld C S hi1 hv1 dL_law_1335 ?_
  refine G.callV (st1 := [.int r, .int r]) C [.int s1] [.int r] (c_X10_count h2) mv_X10_count k5_223 o_108.1 (fun _ => gShp_20 o_108) rfl rfl rfl rfl rfl (Nat.le_of_ble_eq_true rfl) (by decide) dL_law_1336 rfl ?_
  exact G.icmp_eq (tgt := 1358) C dL_law_1339 (by decide) (fun _ => ih M2 h3) (fun h => absurd rfl h)
set_option maxRecDepth 100000 in
set_option maxHeartbeats 4000000 in
theorem law_36 {Rel : Mem → Prop} {X : Gc} {ad : Nat → Nat} {b L i : Nat} {xs : Nat → Int32} {M : Mem} {s1 s2 s3 s4 : Int32} (C : Gk X ad cL_law "NineTonguesLaw" 4 10) (S : Gs X b L xs) (hi1 : vp_in (nI i + 1) L) (hi2 : vp_in (nI i + 2) L) (hi3 : vp_in (nI i + 3) L) (hi4 : vp_in (nI i + 4) L) (hv1 : xs (nI i + 1).toNatClampNeg = s1) (hv2 : xs (nI i + 2).toNatClampNeg = s2) (hv3 : xs (nI i + 3).toNatClampNeg = s3) (hv4 : xs (nI i + 4).toNatClampNeg = s4) (hO : opI Rel (pu (f_X9_digest)) (f_X10_digest)) (hR : Rel M) (ih : ∀ M2, Rel M2 → G X ad 1358 4 [(0, .ref b), (1, .ref (ad 0)), (2, .ref (ad 108)), (3, .int (nI i))] [] M2) : G X ad 1344 4 [(0, .ref b), (1, .ref (ad 0)), (2, .ref (ad 108)), (3, .int (nI i))] [] M := by
  obtain ⟨r, M1, M2, h1, h2, h3⟩ := hO M hR
  obtain ⟨h1, he1⟩ := pu_some h1
  subst he1
  refine G.aload_n (pl := 1) C dL_law_1344 rfl rfl ?_
  refine G.callV (st1 := [.long r]) C [] [] (c_X9_digest h1) mv_X9_digest k4_63 o_0.1 (fun _ => gShp_19 o_0) rfl rfl rfl rfl rfl (Nat.le_of_ble_eq_true rfl) (by decide) dL_law_1345 rfl ?_
  refine G.aload_n (pl := 2) C dL_law_1348 rfl rfl ?_
  refine G.callV (st1 := [.long r, .long r]) C [] [.long r] (c_X10_digest h2) mv_X10_digest k5_231 o_108.1 (fun _ => gShp_20 o_108) rfl rfl rfl rfl rfl (Nat.le_of_ble_eq_true rfl) (by decide) dL_law_1349 rfl ?_
  refine G.lcmp C dL_law_1352 ?_
  exact G.if_eq (tgt := 1358) C dL_law_1353 (by decide) (fun _ => ih M2 h3) (fun h => absurd (lg_cmp_self r) h)
theorem lawE_sub {L : Nat} (hL : L ≤ 2560) : (nI L - 5).toInt = (L : Int) - 5 := by
  have h1 : (nI L).toInt = (L : Int) := nI_toInt (by omega)
  rw [Int32.toInt_sub, h1]
  show ((L : Int) - 5).bmod (2 ^ 32) = _
  rw [Int.bmod_eq_of_le] <;> omega
theorem lawE_gt {L i : Nat} (hL : L ≤ 2560) (h : L < i + 5) (hi : i < 2 ^ 31) : nI L - 5 < nI i := by
  rw [Int32.lt_iff_toInt_lt, lawE_sub hL, nI_toInt hi]
  omega
theorem lawE_le {L i : Nat} (hL : L ≤ 2560) (hi : i < 2 ^ 31) (h : ¬ nI L - 5 < nI i) : i + 5 ≤ L := by
  rw [Int32.lt_iff_toInt_lt, lawE_sub hL, nI_toInt hi] at h
  omega
set_option maxRecDepth 100000 in
set_option maxHeartbeats 4000000 in
theorem law_loop {Rel : Mem → Prop} (hL : LawOk Rel) {X : Gc} {ad : Nat → Nat} {b L : Nat} {xs : Nat → Int32} (hLb : L ≤ 2560) (C : Gk X ad cL_law "NineTonguesLaw" 4 10) (S : Gs X b L xs) (R0 : Gl X b) : ∀ (n i : Nat) (M : Mem), L + 5 ≤ i + n → i ≤ L + 5 → Rel M → G X ad 18 4 [(0, .ref b), (1, .ref (ad 0)), (2, .ref (ad 108)), (3, .int (nI i))] [] M := by
  obtain ⟨o0, o1, o2, o3, o4, o5, o6, o7, o8, o9, o10, o11, o12, o13, o14, o15, o16, o17, o18, o19, o20, o21, o22, o23, o24, o25, o26, o27, o28, o29, o30, o31, o32, o33, o34, o35, o36⟩ := id hL
  intro n
  induction n with
  | zero =>
    intro i M h1 h2 hR
    refine G.iload_n (pl := 3) C dL_law_18 rfl rfl ?_
    refine G.aload_n (pl := 0) C dL_law_19 rfl rfl ?_
    refine G.slen C S dL_law_20 ?_
    refine G.iconst (v := 5) C dL_law_21 (by decide) ?_
    refine G.isub C dL_law_22 ?_
    refine G.icmp_gt (tgt := 1364) C dL_law_23 (by decide) (fun hc => ?_) (fun hc => ?_)
    · refine G.iconst (v := 1) C dL_law_1364 (by decide) ?_
      exact G.lawret C R0 dL_law_1365
    · exact absurd (lawE_gt hLb (by omega) (by omega)) hc
  | succ n ih0 =>
    intro i M h1 h2 hR
    refine G.iload_n (pl := 3) C dL_law_18 rfl rfl ?_
    refine G.aload_n (pl := 0) C dL_law_19 rfl rfl ?_
    refine G.slen C S dL_law_20 ?_
    refine G.iconst (v := 5) C dL_law_21 (by decide) ?_
    refine G.isub C dL_law_22 ?_
    refine G.icmp_gt (tgt := 1364) C dL_law_23 (by decide) (fun hc => ?_) (fun hc => ?_)
    · refine G.iconst (v := 1) C dL_law_1364 (by decide) ?_
      exact G.lawret C R0 dL_law_1365
    · have hi : i + 5 ≤ L := lawE_le hLb (by omega) hc
      have ih : ∀ M2, Rel M2 → G X ad 1358 4 [(0, .ref b), (1, .ref (ad 0)), (2, .ref (ad 108)), (3, .int (nI i))] [] M2 := by
        intro M2 hR2
        refine G.iinc (pl := 3) (v := nI (i + 5)) (lv' := [(3, .int (nI (i + 5))), (0, .ref b), (1, .ref (ad 0)), (2, .ref (ad 108))]) C dL_law_1358 rfl (nI_add i 5) (by decide) rfl ?_
        refine G.goto (tgt := 18) C dL_law_1361 (by decide) ?_
        refine G.sub (lv' := [(0, .ref b), (1, .ref (ad 0)), (2, .ref (ad 108)), (3, .int (nI (i + 5)))]) [1, 2, 3, 0] rfl ?_
        exact ih0 (i + 5) M2 (by omega) (by omega) hR2
      have hi0 : vp_in (nI i) L := vp_in_nI (by omega) (by omega)
      have hi1 : vp_in (nI i + 1) L := by rw [show nI i + 1 = nI (i + 1) from nI_add i 1]; exact vp_in_nI (by omega) (by omega)
      have hi2 : vp_in (nI i + 2) L := by rw [show nI i + 2 = nI (i + 2) from nI_add i 2]; exact vp_in_nI (by omega) (by omega)
      have hi3 : vp_in (nI i + 3) L := by rw [show nI i + 3 = nI (i + 3) from nI_add i 3]; exact vp_in_nI (by omega) (by omega)
      have hi4 : vp_in (nI i + 4) L := by rw [show nI i + 4 = nI (i + 4) from nI_add i 4]; exact vp_in_nI (by omega) (by omega)
      refine G.aload_n (pl := 0) C dL_law_26 rfl rfl ?_
      refine G.iload_n (pl := 3) C dL_law_27 rfl rfl ?_
      refine G.sld C S hi0 rfl dL_law_28 ?_
      refine G.bipush (v := 63) C dL_law_29 (by decide) ?_
      refine G.iand C dL_law_31 ?_
      generalize xs (nI i).toNatClampNeg &&& 63 = s0
      by_cases hs0 : s0 = 0
      · refine G.tableIn (tgt := 196) (off := 164) C dL_law_32 (by rw [hs0]; decide) (by rw [hs0]; decide) (by rw [hs0]; rfl) (by decide) ?_
        exact law_0 C S hi1 hi2 hi3 hi4 rfl rfl rfl rfl (o0 _ _ _) hR ih
      by_cases hs1 : s0 = 1
      · refine G.tableIn (tgt := 239) (off := 207) C dL_law_32 (by rw [hs1]; decide) (by rw [hs1]; decide) (by rw [hs1]; rfl) (by decide) ?_
        exact law_1 C S hi1 hi2 hi3 hi4 rfl rfl rfl rfl (o1 _ _ _ _) hR ih
      by_cases hs2 : s0 = 2
      · refine G.tableIn (tgt := 292) (off := 260) C dL_law_32 (by rw [hs2]; decide) (by rw [hs2]; decide) (by rw [hs2]; rfl) (by decide) ?_
        exact law_2 C S hi1 hi2 hi3 hi4 rfl rfl rfl rfl (o2 _ _) hR ih
      by_cases hs3 : s0 = 3
      · refine G.tableIn (tgt := 325) (off := 293) C dL_law_32 (by rw [hs3]; decide) (by rw [hs3]; decide) (by rw [hs3]; rfl) (by decide) ?_
        exact law_3 C S hi1 hi2 hi3 hi4 rfl rfl rfl rfl (o3 _) hR ih
      by_cases hs4 : s0 = 4
      · refine G.tableIn (tgt := 348) (off := 316) C dL_law_32 (by rw [hs4]; decide) (by rw [hs4]; decide) (by rw [hs4]; rfl) (by decide) ?_
        exact law_4 C S hi1 hi2 hi3 hi4 rfl rfl rfl rfl (o4 _ _) hR ih
      by_cases hs5 : s0 = 5
      · refine G.tableIn (tgt := 381) (off := 349) C dL_law_32 (by rw [hs5]; decide) (by rw [hs5]; decide) (by rw [hs5]; rfl) (by decide) ?_
        exact law_5 C S hi1 hi2 hi3 hi4 rfl rfl rfl rfl o5 hR ih
      by_cases hs6 : s0 = 6
      · refine G.tableIn (tgt := 394) (off := 362) C dL_law_32 (by rw [hs6]; decide) (by rw [hs6]; decide) (by rw [hs6]; rfl) (by decide) ?_
        exact law_6 C S hi1 hi2 hi3 hi4 rfl rfl rfl rfl (o6 _ _ _ _) hR ih
      by_cases hs7 : s0 = 7
      · refine G.tableIn (tgt := 447) (off := 415) C dL_law_32 (by rw [hs7]; decide) (by rw [hs7]; decide) (by rw [hs7]; rfl) (by decide) ?_
        exact law_7 C S hi1 hi2 hi3 hi4 rfl rfl rfl rfl (o7 _ _) hR ih
      by_cases hs8 : s0 = 8
      · refine G.tableIn (tgt := 510) (off := 478) C dL_law_32 (by rw [hs8]; decide) (by rw [hs8]; decide) (by rw [hs8]; rfl) (by decide) ?_
        exact law_8 C S hi1 hi2 hi3 hi4 rfl rfl rfl rfl o8 hR ih
      by_cases hs9 : s0 = 9
      · refine G.tableIn (tgt := 523) (off := 491) C dL_law_32 (by rw [hs9]; decide) (by rw [hs9]; decide) (by rw [hs9]; rfl) (by decide) ?_
        exact law_9 C S hi1 hi2 hi3 hi4 rfl rfl rfl rfl o9 hR ih
      by_cases hs10 : s0 = 10
      · refine G.tableIn (tgt := 536) (off := 504) C dL_law_32 (by rw [hs10]; decide) (by rw [hs10]; decide) (by rw [hs10]; rfl) (by decide) ?_
        exact law_10 C S hi1 hi2 hi3 hi4 rfl rfl rfl rfl o10 hR ih
      by_cases hs11 : s0 = 11
      · refine G.tableIn (tgt := 549) (off := 517) C dL_law_32 (by rw [hs11]; decide) (by rw [hs11]; decide) (by rw [hs11]; rfl) (by decide) ?_
        exact law_11 C S hi1 hi2 hi3 hi4 rfl rfl rfl rfl (o11 _ _) hR ih
      by_cases hs12 : s0 = 12
      · refine G.tableIn (tgt := 582) (off := 550) C dL_law_32 (by rw [hs12]; decide) (by rw [hs12]; decide) (by rw [hs12]; rfl) (by decide) ?_
        exact law_12 C S hi1 hi2 hi3 hi4 rfl rfl rfl rfl (o12 _ _) hR ih
      by_cases hs13 : s0 = 13
      · refine G.tableIn (tgt := 615) (off := 583) C dL_law_32 (by rw [hs13]; decide) (by rw [hs13]; decide) (by rw [hs13]; rfl) (by decide) ?_
        exact law_13 C S hi1 hi2 hi3 hi4 rfl rfl rfl rfl (o13 _ _) hR ih
      by_cases hs14 : s0 = 14
      · refine G.tableIn (tgt := 648) (off := 616) C dL_law_32 (by rw [hs14]; decide) (by rw [hs14]; decide) (by rw [hs14]; rfl) (by decide) ?_
        exact law_14 C S hi1 hi2 hi3 hi4 rfl rfl rfl rfl (o14 _ _) hR ih
      by_cases hs15 : s0 = 15
      · refine G.tableIn (tgt := 681) (off := 649) C dL_law_32 (by rw [hs15]; decide) (by rw [hs15]; decide) (by rw [hs15]; rfl) (by decide) ?_
        exact law_15 C S hi1 hi2 hi3 hi4 rfl rfl rfl rfl (o15 _ _) hR ih
      by_cases hs16 : s0 = 16
      · refine G.tableIn (tgt := 714) (off := 682) C dL_law_32 (by rw [hs16]; decide) (by rw [hs16]; decide) (by rw [hs16]; rfl) (by decide) ?_
        exact law_16 C S hi1 hi2 hi3 hi4 rfl rfl rfl rfl (o16 _ _ _ _) hR ih
      by_cases hs17 : s0 = 17
      · refine G.tableIn (tgt := 767) (off := 735) C dL_law_32 (by rw [hs17]; decide) (by rw [hs17]; decide) (by rw [hs17]; rfl) (by decide) ?_
        exact law_17 C S hi1 hi2 hi3 hi4 rfl rfl rfl rfl (o17 _ _) hR ih
      by_cases hs18 : s0 = 18
      · refine G.tableIn (tgt := 800) (off := 768) C dL_law_32 (by rw [hs18]; decide) (by rw [hs18]; decide) (by rw [hs18]; rfl) (by decide) ?_
        exact law_18 C S hi1 hi2 hi3 hi4 rfl rfl rfl rfl (o18 _ _ _ _) hR ih
      by_cases hs19 : s0 = 19
      · refine G.tableIn (tgt := 853) (off := 821) C dL_law_32 (by rw [hs19]; decide) (by rw [hs19]; decide) (by rw [hs19]; rfl) (by decide) ?_
        exact law_19 C S hi1 hi2 hi3 hi4 rfl rfl rfl rfl (o19 _ _) hR ih
      by_cases hs20 : s0 = 20
      · refine G.tableIn (tgt := 886) (off := 854) C dL_law_32 (by rw [hs20]; decide) (by rw [hs20]; decide) (by rw [hs20]; rfl) (by decide) ?_
        exact law_20 C S hi1 hi2 hi3 hi4 rfl rfl rfl rfl (o20 _ _ _) hR ih
      by_cases hs21 : s0 = 21
      · refine G.tableIn (tgt := 929) (off := 897) C dL_law_32 (by rw [hs21]; decide) (by rw [hs21]; decide) (by rw [hs21]; rfl) (by decide) ?_
        exact law_21 C S hi1 hi2 hi3 hi4 rfl rfl rfl rfl o21 hR ih
      by_cases hs22 : s0 = 22
      · refine G.tableIn (tgt := 942) (off := 910) C dL_law_32 (by rw [hs22]; decide) (by rw [hs22]; decide) (by rw [hs22]; rfl) (by decide) ?_
        exact law_22 C S hi1 hi2 hi3 hi4 rfl rfl rfl rfl (o22 _ _) hR ih
      by_cases hs23 : s0 = 23
      · refine G.tableIn (tgt := 975) (off := 943) C dL_law_32 (by rw [hs23]; decide) (by rw [hs23]; decide) (by rw [hs23]; rfl) (by decide) ?_
        exact law_23 C S hi1 hi2 hi3 hi4 rfl rfl rfl rfl (o23 _ _) hR ih
      by_cases hs24 : s0 = 24
      · refine G.tableIn (tgt := 1008) (off := 976) C dL_law_32 (by rw [hs24]; decide) (by rw [hs24]; decide) (by rw [hs24]; rfl) (by decide) ?_
        exact law_24 C S hi1 hi2 hi3 hi4 rfl rfl rfl rfl (o24 _ _ _) hR ih
      by_cases hs25 : s0 = 25
      · refine G.tableIn (tgt := 1051) (off := 1019) C dL_law_32 (by rw [hs25]; decide) (by rw [hs25]; decide) (by rw [hs25]; rfl) (by decide) ?_
        exact law_25 C S hi1 hi2 hi3 hi4 rfl rfl rfl rfl (o25 _ _ _ _) hR ih
      by_cases hs26 : s0 = 26
      · refine G.tableIn (tgt := 1104) (off := 1072) C dL_law_32 (by rw [hs26]; decide) (by rw [hs26]; decide) (by rw [hs26]; rfl) (by decide) ?_
        exact law_26 C S hi1 hi2 hi3 hi4 rfl rfl rfl rfl (o26 _) hR ih
      by_cases hs27 : s0 = 27
      · refine G.tableIn (tgt := 1127) (off := 1095) C dL_law_32 (by rw [hs27]; decide) (by rw [hs27]; decide) (by rw [hs27]; rfl) (by decide) ?_
        exact law_27 C S hi1 hi2 hi3 hi4 rfl rfl rfl rfl (o27 _) hR ih
      by_cases hs28 : s0 = 28
      · refine G.tableIn (tgt := 1150) (off := 1118) C dL_law_32 (by rw [hs28]; decide) (by rw [hs28]; decide) (by rw [hs28]; rfl) (by decide) ?_
        exact law_28 C S hi1 hi2 hi3 hi4 rfl rfl rfl rfl o28 hR ih
      by_cases hs29 : s0 = 29
      · refine G.tableIn (tgt := 1163) (off := 1131) C dL_law_32 (by rw [hs29]; decide) (by rw [hs29]; decide) (by rw [hs29]; rfl) (by decide) ?_
        exact law_29 C S hi1 hi2 hi3 hi4 rfl rfl rfl rfl o29 hR ih
      by_cases hs30 : s0 = 30
      · refine G.tableIn (tgt := 1176) (off := 1144) C dL_law_32 (by rw [hs30]; decide) (by rw [hs30]; decide) (by rw [hs30]; rfl) (by decide) ?_
        exact law_30 C S hi1 hi2 hi3 hi4 rfl rfl rfl rfl (o30 _ _ _ _) hR ih
      by_cases hs31 : s0 = 31
      · refine G.tableIn (tgt := 1229) (off := 1197) C dL_law_32 (by rw [hs31]; decide) (by rw [hs31]; decide) (by rw [hs31]; rfl) (by decide) ?_
        exact law_31 C S hi1 hi2 hi3 hi4 rfl rfl rfl rfl (o31 _) hR ih
      by_cases hs32 : s0 = 32
      · refine G.tableIn (tgt := 1252) (off := 1220) C dL_law_32 (by rw [hs32]; decide) (by rw [hs32]; decide) (by rw [hs32]; rfl) (by decide) ?_
        exact law_32 C S hi1 hi2 hi3 hi4 rfl rfl rfl rfl (o32 _) hR ih
      by_cases hs33 : s0 = 33
      · refine G.tableIn (tgt := 1275) (off := 1243) C dL_law_32 (by rw [hs33]; decide) (by rw [hs33]; decide) (by rw [hs33]; rfl) (by decide) ?_
        exact law_33 C S hi1 hi2 hi3 hi4 rfl rfl rfl rfl (o33 _) hR ih
      by_cases hs34 : s0 = 34
      · refine G.tableIn (tgt := 1298) (off := 1266) C dL_law_32 (by rw [hs34]; decide) (by rw [hs34]; decide) (by rw [hs34]; rfl) (by decide) ?_
        exact law_34 C S hi1 hi2 hi3 hi4 rfl rfl rfl rfl (o34 _) hR ih
      by_cases hs35 : s0 = 35
      · refine G.tableIn (tgt := 1321) (off := 1289) C dL_law_32 (by rw [hs35]; decide) (by rw [hs35]; decide) (by rw [hs35]; rfl) (by decide) ?_
        exact law_35 C S hi1 hi2 hi3 hi4 rfl rfl rfl rfl (o35 _) hR ih
      by_cases hs36 : s0 = 36
      · refine G.tableIn (tgt := 1344) (off := 1312) C dL_law_32 (by rw [hs36]; decide) (by rw [hs36]; decide) (by rw [hs36]; rfl) (by decide) ?_
        exact law_36 C S hi1 hi2 hi3 hi4 rfl rfl rfl rfl o36 hR ih
      refine G.tableOut (tgt := 1358) C dL_law_32 (gSw (n := 37) (fun k hk => by match k, hk with | 0, _ => exact hs0 | 1, _ => exact hs1 | 2, _ => exact hs2 | 3, _ => exact hs3 | 4, _ => exact hs4 | 5, _ => exact hs5 | 6, _ => exact hs6 | 7, _ => exact hs7 | 8, _ => exact hs8 | 9, _ => exact hs9 | 10, _ => exact hs10 | 11, _ => exact hs11 | 12, _ => exact hs12 | 13, _ => exact hs13 | 14, _ => exact hs14 | 15, _ => exact hs15 | 16, _ => exact hs16 | 17, _ => exact hs17 | 18, _ => exact hs18 | 19, _ => exact hs19 | 20, _ => exact hs20 | 21, _ => exact hs21 | 22, _ => exact hs22 | 23, _ => exact hs23 | 24, _ => exact hs24 | 25, _ => exact hs25 | 26, _ => exact hs26 | 27, _ => exact hs27 | 28, _ => exact hs28 | 29, _ => exact hs29 | 30, _ => exact hs30 | 31, _ => exact hs31 | 32, _ => exact hs32 | 33, _ => exact hs33 | 34, _ => exact hs34 | 35, _ => exact hs35 | 36, _ => exact hs36 | k + 37, hk => exact absurd hk (by omega)) (by decide)) (by decide) ?_
      exact ih M hR
