/-! the pure part: numbers -/
def bI (b : Bool) : Int32 := cond b 1 0
def inR (x a b : Int32) : Bool := decide (a ≤ x) && decide (x ≤ b)
theorem bI_t : bI true = 1 := rfl
theorem bI_f : bI false = 0 := rfl
theorem cp_s {α β : Type} {a : α} {K : α → Option β} : cp (some a) K = K a := rfl
theorem cl_s {α β : Type} {a : α} {M : Mem} {K : α → Mem → Option β} : cl (some (a, M)) K = K a M := rfl
theorem stm_s {α : Type} {M : Mem} {K : Mem → Option α} : stm M K = K M := rfl
theorem if_bI {α : Type} {b : Bool} {A B : α} : (if bI b = 0 then A else B) = cond b B A := by cases b <;> rfl
theorem rz_bI {α : Type} {b : Bool} {K : Option α} : rz (bI b) K = K := by cases b <;> rfl
theorem rz_0 {α : Type} {K : Option α} : rz 0 K = K := rfl
theorem rz_1 {α : Type} {K : Option α} : rz 1 K = K := rfl
theorem lt_not_le {x y : Int32} : x < y ↔ ¬ y ≤ x := by rw [Int32.lt_iff_toInt_lt, Int32.le_iff_toInt_le]; omega
theorem le_not_lt {x y : Int32} : x ≤ y ↔ ¬ y < x := by rw [Int32.lt_iff_toInt_lt, Int32.le_iff_toInt_le]; omega
theorem inR_iff {x a b : Int32} : inR x a b = true ↔ a ≤ x ∧ x ≤ b := by simp [inR]
theorem ev_isIn {x a b : Int32} {M : Mem} : f_X9_isIn x a b M = some (bI (inR x a b)) := by
  unfold f_X9_isIn inR
  by_cases h1 : x < a
  · rw [if_pos h1]
    have : ¬ a ≤ x := lt_not_le.mp h1
    simp [this, bI]
  · rw [if_neg h1]
    have h1' : a ≤ x := le_not_lt.mpr h1
    by_cases h2 : b < x
    · rw [if_pos h2]
      have : ¬ x ≤ b := lt_not_le.mp h2
      simp [this, bI]
    · rw [if_neg h2]
      have h2' : x ≤ b := le_not_lt.mpr h2
      simp [h1', h2', bI]
theorem ev_between {x a b : Int32} {M : Mem} : f_X10_between x a b M = some (bI (inR x a b)) := @ev_isIn x a b M
theorem nI_mul (a b : Nat) : nI a * nI b = nI (a * b) := by unfold nI; exact (Int32.ofNat_mul a b).symm
theorem nI_sub1 {n : Nat} (h : 1 ≤ n) : nI n - 1 = nI (n - 1) := by
  obtain ⟨m, rfl⟩ : ∃ m, n = m + 1 := ⟨n - 1, by omega⟩
  exact nI_pred m
/-- x is one of the n first numbers -/
def U (n : Nat) (x : Int32) : Prop := ∃ k, k < n ∧ x = nI k
theorem nI_inj {a b : Nat} (ha : a < 2 ^ 31) (hb : b < 2 ^ 31) (h : nI a = nI b) : a = b := (nI_eq ha hb).mp h
theorem nI_toInt' {n : Nat} (h : n < 2 ^ 31) : (nI n).toInt = (n : Int) := nI_toInt h
theorem U_iff {n : Nat} {x : Int32} (hn : n ≤ 2 ^ 31) : U n x ↔ 0 ≤ x.toInt ∧ x.toInt < n := by
  constructor
  · rintro ⟨k, hk, rfl⟩
    rw [nI_toInt (by omega)]; omega
  · intro ⟨h1, h2⟩
    refine ⟨x.toInt.toNat, by omega, ?_⟩
    apply Int32.toInt_inj.mp
    rw [nI_toInt (by omega)]; omega
theorem lt31 {n m : Nat} (h : n < m) (hm : m ≤ 2 ^ 31 := by decide) : n < 2 ^ 31 := by omega
theorem inR_nI {x : Int32} {n : Nat} (hn : n < 2 ^ 31) : inR x 0 (nI n - 1) = true ↔ U n x := by
  rw [inR_iff, U_iff (by omega), Int32.le_iff_toInt_le, Int32.le_iff_toInt_le]
  have h0 : (0 : Int32).toInt = 0 := rfl
  rw [h0]
  have h1 : (nI n - 1).toInt = (n : Int) - 1 := by
    rw [Int32.toInt_sub, nI_toInt hn]
    show ((n : Int) - 1).bmod (2 ^ 32) = _
    rw [Int.bmod_eq_of_le] <;> omega
  rw [h1]; omega
theorem inR_lit {x : Int32} {m : Nat} (hm : m + 1 < 2 ^ 31) : inR x 0 (nI m) = true ↔ U (m + 1) x := by
  rw [inR_iff, U_iff (by omega), Int32.le_iff_toInt_le, Int32.le_iff_toInt_le]
  have h0 : (0 : Int32).toInt = 0 := rfl
  rw [h0, nI_toInt (by omega)]; omega
theorem inR_lit1 {x : Int32} {m : Nat} (hm : m + 1 < 2 ^ 31) : inR x 1 (nI m) = true ↔ (U (m + 1) x ∧ x ≠ 0) := by
  rw [inR_iff, U_iff (by omega), Int32.le_iff_toInt_le, Int32.le_iff_toInt_le]
  have h0 : (1 : Int32).toInt = 1 := rfl
  have h2 : x ≠ 0 ↔ x.toInt ≠ 0 := by
    constructor
    · intro h h3; exact h (Int32.toInt_inj.mp h3)
    · intro h h3; exact h (by rw [h3]; rfl)
  rw [h2, h0, nI_toInt (by omega)]; omega
theorem U_mono {a b : Nat} {x : Int32} (h : U a x) (hab : a ≤ b) : U b x := by
  obtain ⟨k, h1, h2⟩ := h; exact ⟨k, by omega, h2⟩
/-- reads and writes in bounds -/
theorem rd_n {α : Type} {n i : Nat} {f : Nat → Int32} {K : Int32 → Option α} (h : i < n) (hn : n < 2 ^ 31 := by decide) : rd n f (nI i) K = K (f i) := by
  unfold rd
  rw [if_neg (nI_in h hn), nI_clamp (by omega)]
theorem ck_n {α : Type} {n i : Nat} {K : Option α} (h : i < n) (hn : n < 2 ^ 31 := by decide) : ck n (nI i) K = K := by
  unfold ck
  rw [if_neg (nI_in h hn)]
theorem dz_n {α : Type} {y : Int32} {K : Option α} (h : ¬ y = 0) : dz y K = K := by
  unfold dz; rw [if_neg h]
theorem upd_same {f : Nat → Int32} {i : Nat} {v : Int32} : upd f i v i = v := by simp [upd]
theorem upd_ne {f : Nat → Int32} {i j : Nat} {v : Int32} (h : j ≠ i) : upd f i v j = f j := by simp [upd, h]
theorem mset2 {M : Mem} {c i : Nat} {v : Int32} : (mset M c i v).2 = M.2 := rfl
theorem mcpy2 {M : Mem} {a b c d e : Nat} : (mcpy M a b c d e).2 = M.2 := rfl
theorem mset_at {M : Mem} {c i a j : Nat} {v : Int32} : (mset M c i v).1 a j = if a = c ∧ j = i then v else M.1 a j := by
  by_cases h : a = c
  · subst h
    rw [mset_same]
    by_cases h2 : j = i
    · subst h2; simp [upd]
    · simp [upd, h2]
  · rw [mset_ne h]; simp [h]
theorem mcpy_at {M : Mem} {c0 c1 n a j : Nat} : (mcpy M c0 c1 0 0 n).1 a j = if a = c1 ∧ j < n then M.1 c0 j else M.1 a j := by
  by_cases h : a = c1
  · subst h
    rw [mcpy_same]
    unfold va_cpy
    by_cases h2 : j < n
    · simp [h2]
    · simp [h2]
  · rw [mcpy_ne h]; simp [h]
/-! ===== refusals ===== -/
def rfX (i : Nat) (M : Mem) : Mem := mset M 3 i (M.1 3 i + 1)
def rfM (i : Nat) (M : Mem) : Mem := mset M 120 i (M.1 120 i + 1)
theorem ev_bad {x : Int32} {M : Mem} : f_X10_bad x M = some (x, rfM 0 M) := rfl
theorem ev_no {x : Int32} {M : Mem} : f_X10_no x M = some (x, rfM 1 M) := rfl
theorem ev_full {M : Mem} : f_X10_full M = some (-4, rfM 2 M) := rfl
theorem ev_refuse_bad {x : Int32} {M : Mem} : f_X9_refuse_ (-2) x M = some (x, rfX 0 M) := rfl
theorem ev_refuse_no {x : Int32} {M : Mem} : f_X9_refuse_ (-3) x M = some (x, rfX 1 M) := rfl
theorem ev_refuse_full {x : Int32} {M : Mem} : f_X9_refuse_ (-4) x M = some (x, rfX 2 M) := rfl
theorem ev_rbad {M : Mem} : f_X9_refuse (-2) M = some (-2, rfX 0 M) := rfl
theorem ev_rno {M : Mem} : f_X9_refuse (-3) M = some (-3, rfX 1 M) := rfl
theorem ev_rfull {M : Mem} : f_X9_refuse (-4) M = some (-4, rfX 2 M) := rfl
/-! ===== what a stock is, and that the reference's bank holds it ===== -/
def nT (S : Nat → Nat → Int32) : Nat := (S 1 0).toNatClampNeg
def nW (S : Nat → Nat → Int32) (t : Nat) : Nat := (S 5 t).toNatClampNeg
def nP (S : Nat → Nat → Int32) : Nat := (S 9 0).toNatClampNeg
def nB (S : Nat → Nat → Int32) : Nat := (S 13 0).toNatClampNeg
def nQ (S : Nat → Nat → Int32) : Nat := (S 18 0).toNatClampNeg
def F3 (x : Int32) : Prop := x = -1 ∨ x = 0 ∨ x = 1
def F4 (x : Int32) : Prop := x = -2 ∨ F3 x
def IvT (S : Nat → Nat → Int32) : Prop := U 7 (S 1 0) ∧ (∀ t, t < 6 → U 9 (S 5 t)) ∧ (∀ t, t < nT S → U 16 (S 2 t) ∧ U 16 (S 3 t) ∧ U 16 (S 4 t) ∧ S 2 t &&& (S 3 t ^^^ -1) = 0) ∧ (∀ t w, t < nT S → w < nW S t → U 256 (S 6 (8 * t + w)) ∧ S 6 (8 * t + w) ≠ 0 ∧ U 10 (S 7 (8 * t + w)) ∧ U 10 (S 8 (8 * t + w))) ∧ U 10 (S 1 1) ∧ U 10 (S 1 2)
def IvP (S : Nat → Nat → Int32) : Prop := U 7 (S 9 0) ∧ (∀ p, p < nP S → U 256 (S 10 p) ∧ S 10 p ≠ 0 ∧ S 11 p = -1) ∧ (∀ f, f < 4 → F3 (S 12 f))
def IvB (S : Nat → Nat → Int32) : Prop := U 61 (S 13 0) ∧ (∀ j, j < nB S → U 256 (S 14 j))
def IvE (S : Nat → Nat → Int32) : Prop := (∀ p, p < 6 → U 256 (S 16 p)) ∧ (∀ f, f < 4 → F4 (S 17 f))
def isW (S : Nat → Nat → Int32) (t w : Nat) : Prop := t < nT S ∧ w < nW S t
def IvQ (S : Nat → Nat → Int32) : Prop := U 25 (S 18 0) ∧ (∀ j, j < nQ S → ∃ t w u v, isW S t w ∧ isW S u v ∧ t ≠ u ∧ S 19 j = nI (8 * t + w) ∧ S 20 j = nI (8 * u + v))
def RmT (b : Nat) (S : Nat → Nat → Int32) (R : Nat → Nat → Int32) : Prop := R 109 b = S 1 0 ∧ (∀ t, t < nT S → R 113 (24 * b + 4 * t) = S 2 t ∧ R 113 (24 * b + 4 * t + 1) = S 3 t ∧ R 113 (24 * b + 4 * t + 2) = S 4 t ∧ R 113 (24 * b + 4 * t + 3) = S 5 t) ∧ (∀ t w, t < nT S → w < nW S t → R 114 (144 * b + 24 * t + 3 * w) = S 6 (8 * t + w) ∧ R 114 (144 * b + 24 * t + 3 * w + 1) = S 7 (8 * t + w) ∧ R 114 (144 * b + 24 * t + 3 * w + 2) = S 8 (8 * t + w)) ∧ R 118 (12 * b + 10) = S 1 1 ∧ R 118 (12 * b + 11) = S 1 2
def RmP (b : Nat) (S : Nat → Nat → Int32) (R : Nat → Nat → Int32) : Prop := R 110 b = S 9 0 ∧ (∀ p, p < nP S → R 117 (16 * b + p) = S 10 p) ∧ (∀ p, nP S ≤ p → p < 6 → R 117 (16 * b + p) = 0) ∧ (∀ p, p < 6 → R 117 (16 * b + 6 + p) = -1) ∧ (∀ f, f < 4 → R 117 (16 * b + 12 + f) = S 12 f)
def RmB (b : Nat) (S : Nat → Nat → Int32) (R : Nat → Nat → Int32) : Prop := R 111 b = S 13 0 ∧ (∀ j, j < nB S → R 115 (60 * b + j) = S 14 j)
def RmE (b : Nat) (S : Nat → Nat → Int32) (R : Nat → Nat → Int32) : Prop := (∀ p, p < 6 → R 118 (12 * b + p) = S 16 p) ∧ (∀ f, f < 4 → R 118 (12 * b + 6 + f) = S 17 f)
def RmQ (b : Nat) (S : Nat → Nat → Int32) (R : Nat → Nat → Int32) : Prop := R 112 b = S 18 0 ∧ (∀ j, j < nQ S → ∀ t w u v, isW S t w → isW S u v → S 19 j = nI (8 * t + w) → S 20 j = nI (8 * u + v) → R 116 (96 * b + 4 * j) = nI t ∧ R 116 (96 * b + 4 * j + 1) = nI w ∧ R 116 (96 * b + 4 * j + 2) = nI u ∧ R 116 (96 * b + 4 * j + 3) = nI v)
def Iv (S : Nat → Nat → Int32) : Prop := IvT S ∧ IvP S ∧ IvB S ∧ IvE S ∧ IvQ S
def Rm (b : Nat) (S : Nat → Nat → Int32) (R : Nat → Nat → Int32) : Prop := RmT b S R ∧ RmP b S R ∧ RmB b S R ∧ RmE b S R ∧ RmQ b S R
def Sv (B : Nat) (R : Nat → Nat → Int32) : Nat → Nat → Int32 := fun k => R (B + k)
def gRel (M : Mem) : Prop := (Iv (Sv 5 M.1) ∧ Rm 0 (Sv 5 M.1) M.1) ∧ (∀ i, i < 2 → M.1 2 i = M.1 119 i ∧ (M.1 2 i = 0 ∨ M.1 2 i = 1)) ∧ (∀ i, i < 2 → M.1 2 i = 1 → Iv (Sv (26 + 21 * i) M.1) ∧ Rm (i + 1) (Sv (26 + 21 * i) M.1) M.1) ∧ (∀ i, i < 3 → M.1 3 i = M.1 120 i) ∧ M.1 0 4 = M.1 108 11 ∧ M.1 0 5 = M.1 108 12
