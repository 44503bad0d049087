/-! bits of a long, and folds -/
theorem ts_bit {w : Int64} {s : UInt64} {j : Nat} (hj : j < 64) (hs : s.toNat = j) : ((w.toUInt64 >>> s).toInt64 &&& 1) = 0 ↔ w.toBitVec.getLsbD j = false := by
  have e : (w.toUInt64 >>> s).toInt64.toBitVec = w.toBitVec >>> j := by
    apply BitVec.eq_of_toNat_eq
    show (w.toUInt64 >>> s).toNat = _
    rw [UInt64.toNat_shiftRight, hs, Nat.mod_eq_of_lt hj, BitVec.toNat_ushiftRight]
    rfl
  rw [← Int64.toBitVec_inj, Int64.toBitVec_and, e]
  show w.toBitVec >>> j &&& 1#64 = 0#64 ↔ _
  constructor
  · intro h
    have t := congrArg (fun x => x.getLsbD 0) h
    simpa using t
  · intro h
    apply BitVec.eq_of_getLsbD_eq
    intro i hi
    cases i with
    | zero => simp [h]
    | succ i => simp
/-- bit j of w -/
def cz_b (w : Int64) (j : Nat) : Bool := w.toBitVec.getLsbD j
theorem cz_ext {a b : Int64} (h : ∀ j, j < 64 → cz_b a j = cz_b b j) : a = b := Int64.toBitVec_inj.mp (BitVec.eq_of_getLsbD_eq (fun i hi => h i hi))
theorem cz_or (x y : Int64) (i : Nat) : cz_b (x ||| y) i = (cz_b x i || cz_b y i) := by unfold cz_b; rw [Int64.toBitVec_or, BitVec.getLsbD_or]
theorem cz_and (x y : Int64) (i : Nat) : cz_b (x &&& y) i = (cz_b x i && cz_b y i) := by unfold cz_b; rw [Int64.toBitVec_and, BitVec.getLsbD_and]
theorem cz_not (x : Int64) {i : Nat} (hi : i < 64) : cz_b (x ^^^ (-1)) i = !cz_b x i := by
  have ha : (-1 : Int64).toBitVec = BitVec.allOnes 64 := by decide
  unfold cz_b
  rw [Int64.toBitVec_xor, ha, BitVec.getLsbD_xor, BitVec.getLsbD_allOnes]
  simp [hi]
theorem cz_0 (i : Nat) : cz_b 0 i = false := BitVec.getLsbD_zero
theorem cz_big {x : Int64} {i : Nat} (h : 64 ≤ i) : cz_b x i = false := BitVec.getLsbD_of_ge _ _ h
theorem cz_sh : ∀ a, a < 64 → ((1 : Int64) <<< ((nI a).toInt64 &&& 63)).toBitVec = BitVec.twoPow 64 a := by decide +kernel
theorem cz_one {a : Nat} (ha : a < 64) (j : Nat) : cz_b ((1 : Int64) <<< ((nI a).toInt64 &&& 63)) j = decide (a = j) := by
  unfold cz_b
  rw [cz_sh a ha, BitVec.getLsbD_twoPow]
  simp [ha]
theorem cz_cu : ∀ k, k < 64 → ((nI k).toInt64.toUInt64 &&& Int64.toUInt64 63).toNat = k := by decide +kernel
theorem cz_inX (w : Int64) {a : Nat} (ha : a < 64) : ((w.toUInt64 >>> ((nI a).toInt64.toUInt64 &&& Int64.toUInt64 63)).toInt64 &&& 1) = 0 ↔ cz_b w a = false := ts_bit ha (cz_cu a ha)
theorem cz_sl : ∀ n, n < 64 → (((nI n).toInt64 &&& 63).toBitVec.smod 64).toNat = n := by decide +kernel
theorem cz_ssh (w : Int64) {a : Nat} (ha : a < 64) : cz_b (w >>> ((nI a).toInt64 &&& 63)) 0 = cz_b w a := by
  unfold cz_b
  rw [Int64.toBitVec_shiftRight]
  show (w.toBitVec.sshiftRight (((nI a).toInt64 &&& 63).toBitVec.smod 64).toNat).getLsbD 0 = _
  rw [cz_sl a ha, BitVec.getLsbD_sshiftRight]
  simp [ha]
theorem cz_lsb (x : Int64) : (x &&& 1) = 1 ↔ cz_b x 0 = true := by
  rw [← Int64.toBitVec_inj, Int64.toBitVec_and]
  show x.toBitVec &&& 1#64 = 1#64 ↔ x.toBitVec.getLsbD 0 = true
  constructor
  · intro h
    have t := congrArg (fun x => x.getLsbD 0) h
    simpa using t
  · intro h
    apply BitVec.eq_of_getLsbD_eq
    intro i hi
    cases i with
    | zero => simp [h]
    | succ i => simp
theorem cz_inY (w : Int64) {a : Nat} (ha : a < 64) : ((w >>> ((nI a).toInt64 &&& 63)) &&& 1) = 1 ↔ cz_b w a = true := by
  rw [cz_lsb, cz_ssh w ha]
theorem cz_ne0 (w : Int64) : ¬ w = 0 ↔ ∃ j, j < 64 ∧ cz_b w j = true := by
  constructor
  · intro h
    apply Classical.byContradiction
    intro z
    apply h
    apply cz_ext
    intro j hj
    rw [cz_0]
    cases e : cz_b w j
    · rfl
    · exact absurd ⟨j, hj, e⟩ z
  · rintro ⟨j, _, h⟩ e
    rw [e, cz_0] at h
    cases h
/-- a fold over 0 .. n - 1 -/
def cz_fo {α : Type} (f : Nat → α → α) : Nat → α → α
  | 0, s => s
  | n + 1, s => f n (cz_fo f n s)
theorem cz_fo_ge {α : Type} (f : Nat → α → α) (s : α) (c e : Nat) (hf : ∀ i, c ≤ i → i < e → f i (cz_fo f c s) = cz_fo f c s) : ∀ d, c + d ≤ e → cz_fo f (c + d) s = cz_fo f c s := by
  intro d
  induction d with
  | zero => intro _; rfl
  | succ d ih =>
    intro h
    show f (c + d) (cz_fo f (c + d) s) = _
    rw [ih (by omega)]
    exact hf (c + d) (by omega) (by omega)
theorem cz_fo_end {α : Type} (f : Nat → α → α) (s : α) {c e : Nat} (hc : c ≤ e) (hf : ∀ i, c ≤ i → i < e → f i (cz_fo f c s) = cz_fo f c s) : cz_fo f e s = cz_fo f c s := by
  have h := cz_fo_ge f s c e hf (e - c) (by omega)
  rwa [show c + (e - c) = e by omega] at h
theorem cz_us {f : Nat → Int32} {k : Nat} {x : Int32} : upd f k x k = x := if_pos rfl
theorem cz_un {f : Nat → Int32} {k j : Nat} {x : Int32} (h : j ≠ k) : upd f k x j = f j := if_neg h
theorem cz_uLs {f : Nat → Int64} {k : Nat} {x : Int64} : vp_updL f k x k = x := if_pos rfl
theorem cz_uLn {f : Nat → Int64} {k j : Nat} {x : Int64} (h : j ≠ k) : vp_updL f k x j = f j := if_neg h
