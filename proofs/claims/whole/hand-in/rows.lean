section
/-! bits of a long, and folds -/
theorem ts_bit {w : Int64} {s : UInt64} {j : Nat} (hj : j < 64) (hs : s.toNat = j) : ((w.toUInt64 >>> s).toInt64 &&& 1) = 0 ↔ w.toBitVec.getLsbD j = false := by
  have e : (w.toUInt64 >>> s).toInt64.toBitVec = w.toBitVec >>> j := by
    apply BitVec.eq_of_toNat_eq
    show (w.toUInt64 >>> s).toNat = _
    rw [UInt64.toNat_shiftRight, hs, Nat.mod_eq_of_lt hj, BitVec.toNat_ushiftRight]
    rfl
  rw [← Int64.toBitVec_inj, Int64.toBitVec_and, e]
  show w.toBitVec >>> j &&& 1#64 = 0#64 ↔ _
  constructor
  · intro h
    have t := congrArg (fun x => x.getLsbD 0) h
    simpa using t
  · intro h
    apply BitVec.eq_of_getLsbD_eq
    intro i hi
    cases i with
    | zero => simp [h]
    | succ i => simp
/-- bit j of w -/
def cz_b (w : Int64) (j : Nat) : Bool := w.toBitVec.getLsbD j
theorem cz_ext {a b : Int64} (h : ∀ j, j < 64 → cz_b a j = cz_b b j) : a = b := Int64.toBitVec_inj.mp (BitVec.eq_of_getLsbD_eq (fun i hi => h i hi))
theorem cz_or (x y : Int64) (i : Nat) : cz_b (x ||| y) i = (cz_b x i || cz_b y i) := by unfold cz_b; rw [Int64.toBitVec_or, BitVec.getLsbD_or]
theorem cz_and (x y : Int64) (i : Nat) : cz_b (x &&& y) i = (cz_b x i && cz_b y i) := by unfold cz_b; rw [Int64.toBitVec_and, BitVec.getLsbD_and]
theorem cz_not (x : Int64) {i : Nat} (hi : i < 64) : cz_b (x ^^^ (-1)) i = !cz_b x i := by
  have ha : (-1 : Int64).toBitVec = BitVec.allOnes 64 := by decide
  unfold cz_b
  rw [Int64.toBitVec_xor, ha, BitVec.getLsbD_xor, BitVec.getLsbD_allOnes]
  simp [hi]
theorem cz_0 (i : Nat) : cz_b 0 i = false := BitVec.getLsbD_zero
theorem cz_big {x : Int64} {i : Nat} (h : 64 ≤ i) : cz_b x i = false := BitVec.getLsbD_of_ge _ _ h
theorem cz_sh : ∀ a, a < 64 → ((1 : Int64) <<< ((nI a).toInt64 &&& 63)).toBitVec = BitVec.twoPow 64 a := by decide +kernel
theorem cz_one {a : Nat} (ha : a < 64) (j : Nat) : cz_b ((1 : Int64) <<< ((nI a).toInt64 &&& 63)) j = decide (a = j) := by
  unfold cz_b
  rw [cz_sh a ha, BitVec.getLsbD_twoPow]
  simp [ha]
theorem cz_cu : ∀ k, k < 64 → ((nI k).toInt64.toUInt64 &&& Int64.toUInt64 63).toNat = k := by decide +kernel
theorem cz_inX (w : Int64) {a : Nat} (ha : a < 64) : ((w.toUInt64 >>> ((nI a).toInt64.toUInt64 &&& Int64.toUInt64 63)).toInt64 &&& 1) = 0 ↔ cz_b w a = false := ts_bit ha (cz_cu a ha)
theorem cz_sl : ∀ n, n < 64 → (((nI n).toInt64 &&& 63).toBitVec.smod 64).toNat = n := by decide +kernel
theorem cz_ssh (w : Int64) {a : Nat} (ha : a < 64) : cz_b (w >>> ((nI a).toInt64 &&& 63)) 0 = cz_b w a := by
  unfold cz_b
  rw [Int64.toBitVec_shiftRight]
  show (w.toBitVec.sshiftRight (((nI a).toInt64 &&& 63).toBitVec.smod 64).toNat).getLsbD 0 = _
  rw [cz_sl a ha, BitVec.getLsbD_sshiftRight]
  simp [ha]
theorem cz_lsb (x : Int64) : (x &&& 1) = 1 ↔ cz_b x 0 = true := by
  rw [← Int64.toBitVec_inj, Int64.toBitVec_and]
  show x.toBitVec &&& 1#64 = 1#64 ↔ x.toBitVec.getLsbD 0 = true
  constructor
  · intro h
    have t := congrArg (fun x => x.getLsbD 0) h
    simpa using t
  · intro h
    apply BitVec.eq_of_getLsbD_eq
    intro i hi
    cases i with
    | zero => simp [h]
    | succ i => simp
theorem cz_inY (w : Int64) {a : Nat} (ha : a < 64) : ((w >>> ((nI a).toInt64 &&& 63)) &&& 1) = 1 ↔ cz_b w a = true := by
  rw [cz_lsb, cz_ssh w ha]
theorem cz_ne0 (w : Int64) : ¬ w = 0 ↔ ∃ j, j < 64 ∧ cz_b w j = true := by
  constructor
  · intro h
    apply Classical.byContradiction
    intro z
    apply h
    apply cz_ext
    intro j hj
    rw [cz_0]
    cases e : cz_b w j
    · rfl
    · exact absurd ⟨j, hj, e⟩ z
  · rintro ⟨j, _, h⟩ e
    rw [e, cz_0] at h
    cases h
/-- a fold over 0 .. n - 1 -/
def cz_fo {α : Type} (f : Nat → α → α) : Nat → α → α
  | 0, s => s
  | n + 1, s => f n (cz_fo f n s)
theorem cz_fo_ge {α : Type} (f : Nat → α → α) (s : α) (c e : Nat) (hf : ∀ i, c ≤ i → i < e → f i (cz_fo f c s) = cz_fo f c s) : ∀ d, c + d ≤ e → cz_fo f (c + d) s = cz_fo f c s := by
  intro d
  induction d with
  | zero => intro _; rfl
  | succ d ih =>
    intro h
    show f (c + d) (cz_fo f (c + d) s) = _
    rw [ih (by omega)]
    exact hf (c + d) (by omega) (by omega)
theorem cz_fo_end {α : Type} (f : Nat → α → α) (s : α) {c e : Nat} (hc : c ≤ e) (hf : ∀ i, c ≤ i → i < e → f i (cz_fo f c s) = cz_fo f c s) : cz_fo f e s = cz_fo f c s := by
  have h := cz_fo_ge f s c e hf (e - c) (by omega)
  rwa [show c + (e - c) = e by omega] at h
theorem cz_us {f : Nat → Int32} {k : Nat} {x : Int32} : upd f k x k = x := if_pos rfl
theorem cz_un {f : Nat → Int32} {k j : Nat} {x : Int32} (h : j ≠ k) : upd f k x j = f j := if_neg h
theorem cz_uLs {f : Nat → Int64} {k : Nat} {x : Int64} : vp_updL f k x k = x := if_pos rfl
theorem cz_uLn {f : Nat → Int64} {k j : Nat} {x : Int64} (h : j ≠ k) : vp_updL f k x j = f j := if_neg h
end
section
/-! the pure picture: presence, and what the relation holds -/
def cz_dr (c : Nat) (kn ro : Nat → Int32) (ne : Nat → Int64) (K : Int64) (row : Int32) (j : Nat) : Prop := ∃ a, a < c ∧ cz_b K a = true ∧ kn a = 1 ∧ ro a = row ∧ cz_b (ne a) j = true
def cz_th (c : Nat) (kn ro : Nat → Int32) (ne : Nat → Int64) (K : Int64) (row : Int32) : Prop := ∃ j, j < c ∧ cz_b K j = true ∧ kn j = 0 ∧ ro j = row ∧ ¬ cz_dr c kn ro ne K row j
def cz_Inv (c : Nat) (kn ro : Nat → Int32) (ca ne kw : Nat → Int64) : Prop :=
  c ≤ 60 ∧ (∀ r, r < 3 → ∀ j, c ≤ j → cz_b (kw r) j = false) ∧ (∀ a, a < c → ∀ j, c ≤ j → cz_b (ne a) j = false) ∧ (∀ a, a < c → kn a = 1 → ∀ j, j < 60 → (cz_b (ca a) j = true ↔ (cz_b (ne a) j = true ∧ kn j = 0 ∧ ro j = ro a)))
theorem cz_lt {K : Int64} {c j : Nat} (h : ∀ j, c ≤ j → cz_b K j = false) (hj : cz_b K j = true) : j < c := by
  apply Nat.lt_of_not_le
  intro z
  rw [h j z] at hj
  cases hj
theorem cz_th_iff {c : Nat} {kn ro : Nat → Int32} {ca ne kw : Nat → Int64} (h : cz_Inv c kn ro ca ne kw) {r : Nat} (hr : r < 3) (row : Int32) : cz_th 60 kn ro ca (kw r) row ↔ cz_th c kn ro ne (kw r) row := by
  obtain ⟨h1, h2, h3, h4⟩ := h
  constructor
  · rintro ⟨j, hj, kj, k0, rj, nd⟩
    exact ⟨j, cz_lt (h2 r hr) kj, kj, k0, rj, fun ⟨a, ha, ka, k1, ra, hb⟩ => nd ⟨a, by omega, ka, k1, ra, (h4 a ha k1 j hj).mpr ⟨hb, k0, rj.trans ra.symm⟩⟩⟩
  · rintro ⟨j, hj, kj, k0, rj, nd⟩
    refine ⟨j, by omega, kj, k0, rj, fun ⟨a, ha, ka, k1, ra, hb⟩ => ?_⟩
    have hac : a < c := cz_lt (h2 r hr) ka
    exact nd ⟨a, hac, ka, k1, ra, ((h4 a hac k1 j (by omega)).mp hb).1⟩
theorem cz_Inv_act {c : Nat} {kn ro : Nat → Int32} {ca ne kw : Nat → Int64} (h : cz_Inv c kn ro ca ne kw) (hc : c < 60) {r : Nat} (hr : r < 3) (k row : Int32) (x : Int64) (hx : k = 1 → ∀ j, j < 60 → (cz_b x j = true ↔ (cz_b (kw r) j = true ∧ upd kn c k j = 0 ∧ upd ro c row j = row))) : cz_Inv (c + 1) (upd kn c k) (upd ro c row) (vp_updL ca c x) (vp_updL ne c (kw r)) (vp_updL kw r (kw r ||| ((1 : Int64) <<< ((nI c).toInt64 &&& 63)))) := by
  obtain ⟨h1, h2, h3, h4⟩ := h
  refine ⟨hc, ?_, ?_, ?_⟩
  · intro q hq j hj
    by_cases e : q = r
    · subst e
      rw [cz_uLs, cz_or, h2 q hq j (by omega), cz_one (by omega)]
      simp; omega
    · rw [cz_uLn e]; exact h2 q hq j (by omega)
  · intro a ha j hj
    by_cases e : a = c
    · subst e
      rw [cz_uLs]; exact h2 r hr j (by omega)
    · rw [cz_uLn e]; exact h3 a (by omega) j (by omega)
  · intro a ha k1 j hj
    by_cases e : a = c
    · subst e
      rw [cz_us] at k1
      rw [cz_uLs, cz_uLs, cz_us]
      exact hx k1 j hj
    · rw [cz_un e] at k1
      rw [cz_uLn e, cz_uLn e, cz_un e, h4 a (by omega) k1 j hj]
      by_cases g : j = c
      · subst g
        rw [h3 a (by omega) j (Nat.le_refl _)]
        simp
      · rw [cz_un g, cz_un g]
theorem cz_Inv_learn {c : Nat} {kn ro : Nat → Int32} {ca ne kw : Nat → Int64} (h : cz_Inv c kn ro ca ne kw) {r i : Nat} (hi : i < c) : cz_Inv c kn ro ca ne (vp_updL kw r (kw r ||| ((1 : Int64) <<< ((nI i).toInt64 &&& 63)))) := by
  obtain ⟨h1, h2, h3, h4⟩ := h
  refine ⟨h1, ?_, h3, h4⟩
  intro q hq j hj
  by_cases e : q = r
  · subst e
    rw [cz_uLs, cz_or, h2 q hq j (by omega), cz_one (by omega)]
    simp; omega
  · rw [cz_uLn e]; exact h2 q hq j (by omega)
/-! the folds of the readers -/
def cz_P (K : Int64) (kn ro : Nat → Int32) (k row : Int32) (i : Nat) : Prop := cz_b K i = true ∧ kn i = k ∧ ro i = row
noncomputable def cz_fold {α : Type} (K : Int64) (kn ro : Nat → Int32) (k row : Int32) (g : Nat → α → α) (i : Nat) (s : α) : α := @ite _ (cz_P K kn ro k row i) (Classical.propDecidable _) (g i s) s
theorem cz_fold_t {α : Type} {K : Int64} {kn ro : Nat → Int32} {k row : Int32} {g : Nat → α → α} {i : Nat} {s : α} (h : cz_P K kn ro k row i) : cz_fold K kn ro k row g i s = g i s := if_pos h
theorem cz_fold_f {α : Type} {K : Int64} {kn ro : Nat → Int32} {k row : Int32} {g : Nat → α → α} {i : Nat} {s : α} (h : ¬ cz_P K kn ro k row i) : cz_fold K kn ro k row g i s = s := if_neg h
theorem cz_fold_end {α : Type} {K : Int64} {kn ro : Nat → Int32} {k row : Int32} {g : Nat → α → α} {c : Nat} {s : α} (hc : c ≤ 60) (hK : ∀ j, c ≤ j → cz_b K j = false) : cz_fo (cz_fold K kn ro k row g) 60 s = cz_fo (cz_fold K kn ro k row g) c s := by
  apply cz_fo_end _ _ hc
  intro i hi _
  apply cz_fold_f
  rintro ⟨z, _⟩
  rw [hK i hi] at z
  cases z
theorem cz_adds (K : Int64) (kn ro : Nat → Int32) (k row : Int32) : ∀ e, e ≤ 60 → ∀ j, cz_b (cz_fo (cz_fold K kn ro k row (fun i (s : Int64) => s ||| ((1 : Int64) <<< ((nI i).toInt64 &&& 63)))) e 0) j = true ↔ (j < e ∧ cz_P K kn ro k row j) := by
  intro e
  induction e with
  | zero =>
    intro _ j
    show cz_b 0 j = true ↔ _
    rw [cz_0]
    constructor
    · intro h; cases h
    · intro h; omega
  | succ e ih =>
    intro he j
    show cz_b (cz_fold K kn ro k row _ e (cz_fo _ e 0)) j = true ↔ _
    have ih := ih (by omega) j
    by_cases p : cz_P K kn ro k row e
    · rw [cz_fold_t p, cz_or, Bool.or_eq_true, ih, cz_one (by omega), decide_eq_true_iff]
      constructor
      · rintro (⟨a, b⟩ | a)
        · exact ⟨by omega, b⟩
        · subst a; exact ⟨by omega, p⟩
      · rintro ⟨a, b⟩
        by_cases z : e = j
        · exact Or.inr z
        · exact Or.inl ⟨by omega, b⟩
    · rw [cz_fold_f p, ih]
      constructor
      · rintro ⟨a, b⟩; exact ⟨by omega, b⟩
      · rintro ⟨a, b⟩
        refine ⟨?_, b⟩
        by_cases z : e = j
        · subst z; exact absurd b p
        · omega
theorem cz_cans (K : Int64) (kn ro : Nat → Int32) (ca : Nat → Int64) (k row : Int32) (j : Nat) : ∀ e, cz_b (cz_fo (cz_fold K kn ro k row (fun i (s : Int64) => s ||| ca i)) e 0) j = true ↔ ∃ a, a < e ∧ cz_P K kn ro k row a ∧ cz_b (ca a) j = true := by
  intro e
  induction e with
  | zero =>
    show cz_b 0 j = true ↔ _
    rw [cz_0]
    constructor
    · intro h; cases h
    · rintro ⟨a, h, _⟩; omega
  | succ e ih =>
    show cz_b (cz_fold K kn ro k row _ e (cz_fo _ e 0)) j = true ↔ _
    by_cases p : cz_P K kn ro k row e
    · rw [cz_fold_t p, cz_or, Bool.or_eq_true, ih]
      constructor
      · rintro (⟨a, h, b⟩ | h)
        · exact ⟨a, by omega, b⟩
        · exact ⟨e, by omega, p, h⟩
      · rintro ⟨a, h, b⟩
        by_cases z : a = e
        · subst z; exact Or.inr b.2
        · exact Or.inl ⟨a, by omega, b⟩
    · rw [cz_fold_f p, ih]
      constructor
      · rintro ⟨a, h, b⟩; exact ⟨a, by omega, b⟩
      · rintro ⟨a, h, b⟩
        refine ⟨a, ?_, b⟩
        by_cases z : a = e
        · subst z; exact absurd b.1 p
        · omega
theorem cz_thX (K : Int64) (kn ro : Nat → Int32) (ca : Nat → Int64) (row : Int32) : ¬ (cz_fo (cz_fold K kn ro 0 row (fun i (s : Int64) => s ||| ((1 : Int64) <<< ((nI i).toInt64 &&& 63)))) 60 0 &&& (cz_fo (cz_fold K kn ro 1 row (fun i (s : Int64) => s ||| ca i)) 60 0 ^^^ (-1))) = 0 ↔ cz_th 60 kn ro ca K row := by
  rw [cz_ne0]
  constructor
  · rintro ⟨j, hj, h⟩
    rw [cz_and, Bool.and_eq_true, cz_adds K kn ro 0 row 60 (by omega) j, cz_not _ hj, Bool.not_eq_true'] at h
    obtain ⟨⟨h1, h2, h3, h4⟩, h5⟩ := h
    refine ⟨j, h1, h2, h3, h4, fun ⟨a, ha, ka, k1, ra, hb⟩ => ?_⟩
    rw [(cz_cans K kn ro ca 1 row j 60).mpr ⟨a, ha, ⟨ka, k1, ra⟩, hb⟩] at h5
    cases h5
  · rintro ⟨j, hj, kj, k0, rj, nd⟩
    refine ⟨j, by omega, ?_⟩
    rw [cz_and, Bool.and_eq_true, cz_adds K kn ro 0 row 60 (by omega) j, cz_not _ (by omega), Bool.not_eq_true']
    refine ⟨⟨hj, kj, k0, rj⟩, ?_⟩
    cases e : cz_b (cz_fo (cz_fold K kn ro 1 row (fun i (s : Int64) => s ||| ca i)) 60 0) j
    · rfl
    · obtain ⟨a, ha, ⟨ka, k1, ra⟩, hb⟩ := (cz_cans K kn ro ca 1 row j 60).mp e
      exact absurd ⟨a, ha, ka, k1, ra, hb⟩ nd
end
section
/-! the values that the readers answer -/
def cz_lat (st re : Nat → Int32) (i : Nat) (s : Int32) : Prop := st s.toNatClampNeg < st i ∨ (st i = st s.toNatClampNeg ∧ re s.toNatClampNeg < re i)
noncomputable def cz_lg (st re : Nat → Int32) (i : Nat) (s : Int32) : Int32 := @ite _ (s = -1 ∨ cz_lat st re i s) (Classical.propDecidable _) (nI i) s
noncomputable def cz_la (K : Int64) (kn ro st re : Nat → Int32) (k row : Int32) (e : Nat) : Int32 := cz_fo (cz_fold K kn ro k row (cz_lg st re)) e (-1)
theorem cz_la_rng (K : Int64) (kn ro st re : Nat → Int32) (k row : Int32) : ∀ e, e ≤ 60 → cz_la K kn ro st re k row e = -1 ∨ ∃ b, b < 60 ∧ cz_la K kn ro st re k row e = nI b := by
  intro e
  induction e with
  | zero => intro _; exact Or.inl rfl
  | succ e ih =>
    intro he
    have ih := ih (by omega)
    show cz_fold K kn ro k row (cz_lg st re) e (cz_la K kn ro st re k row e) = _ ∨ ∃ b, b < 60 ∧ cz_fold K kn ro k row (cz_lg st re) e (cz_la K kn ro st re k row e) = nI b
    by_cases p : cz_P K kn ro k row e
    · rw [cz_fold_t p]
      by_cases q : cz_la K kn ro st re k row e = -1 ∨ cz_lat st re e (cz_la K kn ro st re k row e)
      · exact Or.inr ⟨e, by omega, if_pos q⟩
      · rw [show cz_lg st re e (cz_la K kn ro st re k row e) = cz_la K kn ro st re k row e from if_neg q]; exact ih
    · rw [cz_fold_f p]; exact ih
def cz_T (c : Nat) (kn ro : Nat → Int32) (ne kw : Nat → Int64) (r row : Int32) : Prop := ∃ a, a < 3 ∧ r = nI a ∧ ∃ q, q < 8 ∧ row = nI q ∧ cz_th c kn ro ne (kw a) row
noncomputable def cz_tv (c : Nat) (kn ro : Nat → Int32) (ne kw : Nat → Int64) (r row : Int32) : Int32 := @ite _ (cz_T c kn ro ne kw r row) (Classical.propDecidable _) 1 0
theorem cz_tv_t {c : Nat} {kn ro : Nat → Int32} {ne kw : Nat → Int64} {r row : Int32} (h : cz_T c kn ro ne kw r row) : cz_tv c kn ro ne kw r row = 1 := if_pos h
theorem cz_tv_f {c : Nat} {kn ro : Nat → Int32} {ne kw : Nat → Int64} {r row : Int32} (h : ¬ cz_T c kn ro ne kw r row) : cz_tv c kn ro ne kw r row = 0 := if_neg h
theorem cz_tv_01 (c : Nat) (kn ro : Nat → Int32) (ne kw : Nat → Int64) (r row : Int32) : cz_tv c kn ro ne kw r row = 0 ∨ cz_tv c kn ro ne kw r row = 1 := by
  by_cases h : cz_T c kn ro ne kw r row
  · exact Or.inr (cz_tv_t h)
  · exact Or.inl (cz_tv_f h)
theorem cz_tv_n {c : Nat} {kn ro : Nat → Int32} {ne kw : Nat → Int64} {r row : Int32} (h : ¬ cz_tv c kn ro ne kw r row = 0) : ∃ a, a < 3 ∧ r = nI a ∧ ∃ q, q < 8 ∧ row = nI q := by
  by_cases z : cz_T c kn ro ne kw r row
  · obtain ⟨a, ha, ea, q, hq, eq, _⟩ := z
    exact ⟨a, ha, ea, q, hq, eq⟩
  · exact absurd (cz_tv_f z) h
noncomputable def cz_nv (c : Nat) (kn ro va st re : Nat → Int32) (ne kw : Nat → Int64) (r row : Int32) : Int32 :=
  if cz_tv c kn ro ne kw r row = 0 then 0 else if cz_la (kw r.toNatClampNeg) kn ro st re 2 row c = -1 then 0 else va (cz_la (kw r.toNatClampNeg) kn ro st re 2 row c).toNatClampNeg
noncomputable def cz_cv (c : Nat) (kn ro va : Nat → Int32) (ne kw : Nat → Int64) (r row : Int32) : Int32 :=
  if cz_tv c kn ro ne kw r row = 0 then 0 else cz_fo (cz_fold (kw r.toNatClampNeg) kn ro 3 row (fun i (s : Int32) => s + va i)) c 0
noncomputable def cz_lt0 (c : Nat) (kn ro va st re : Nat → Int32) (kw : Nat → Int64) (r row : Int32) : Int32 :=
  if cz_la (kw r.toNatClampNeg) kn ro st re 4 row c = -1 then -1 else va (cz_la (kw r.toNatClampNeg) kn ro st re 4 row c).toNatClampNeg
noncomputable def cz_lv (c : Nat) (kn ro va st re : Nat → Int32) (ne kw : Nat → Int64) (r row : Int32) : Int32 :=
  if cz_tv c kn ro ne kw r row = 0 then -1 else if cz_tv c kn ro ne kw r (cz_lt0 c kn ro va st re kw r row) = 0 then -1 else cz_lt0 c kn ro va st re kw r row
/-! learning -/
noncomputable def cz_lf (st : Nat → Int32) (to fr : Nat) (n : Int32) (i : Nat) (s : (Nat → Int64) × (Nat → Int32) × Int32) : (Nat → Int64) × (Nat → Int32) × Int32 :=
  if s.2.2 < n ∧ cz_b (s.1 fr) i = true ∧ cz_b (s.1 to) i = false then (vp_updL s.1 to (s.1 to ||| ((1 : Int64) <<< ((nI i).toInt64 &&& 63))), (if s.2.1 to < st i then upd s.2.1 to (st i) else s.2.1), s.2.2 + 1) else s
theorem cz_lf_inv {c : Nat} {kn ro st : Nat → Int32} {ca ne kw : Nat → Int64} {ss : Nat → Int32} (h : cz_Inv c kn ro ca ne kw) (to fr : Nat) (n : Int32) : ∀ e, e ≤ c → cz_Inv c kn ro ca ne (cz_fo (cz_lf st to fr n) e (kw, ss, 0)).1 := by
  intro e
  induction e with
  | zero => intro _; exact h
  | succ e ih =>
    intro he
    have ih := ih (by omega)
    show cz_Inv c kn ro ca ne (cz_lf st to fr n e (cz_fo (cz_lf st to fr n) e (kw, ss, 0))).1
    unfold cz_lf at ih ⊢
    split
    · exact cz_Inv_learn ih (by omega)
    · exact ih
theorem cz_lf_end {c : Nat} {kn ro st : Nat → Int32} {ca ne kw : Nat → Int64} {ss : Nat → Int32} (h : cz_Inv c kn ro ca ne kw) (to : Nat) {fr : Nat} (hf : fr < 3) (n : Int32) : cz_fo (cz_lf st to fr n) 60 (kw, ss, 0) = cz_fo (cz_lf st to fr n) c (kw, ss, 0) := by
  apply cz_fo_end _ _ h.1
  intro i hi _
  have hI := cz_lf_inv (st := st) (ss := ss) h to fr n c (Nat.le_refl _)
  apply if_neg
  rintro ⟨_, z, _⟩
  rw [hI.2.1 fr hf i hi] at z
  cases z
theorem cz_lf_stop (st : Nat → Int32) (to fr : Nat) (n : Int32) (s : (Nat → Int64) × (Nat → Int32) × Int32) {i : Nat} (hi : i ≤ 60) (h : ¬ (cz_fo (cz_lf st to fr n) i s).2.2 < n) : cz_fo (cz_lf st to fr n) 60 s = cz_fo (cz_lf st to fr n) i s := by
  apply cz_fo_end _ _ hi
  intro j _ _
  apply if_neg
  rintro ⟨z, _⟩
  exact h z
end
section
/-! the component's helpers and loops -/
section
variable {c : Nat} {kn ro va re st : Nat → Int32} {ca ne kw : Nat → Int64} {ss : Nat → Int32}
theorem cz_cl {n : Nat} (h : n < 60) : (nI n).toNatClampNeg = n := nI_clamp (by omega)
theorem cz_cl3 {n : Nat} (h : n < 3) : (nI n).toNatClampNeg = n := nI_clamp (by omega)
theorem cz_tf {b : Bool} (h : ¬ b = false) : b = true := by cases b <;> first | rfl | exact absurd rfl h
theorem cz_ft {b : Bool} (h : ¬ b = true) : b = false := by cases b <;> first | rfl | exact absurd rfl h
def cz_bad (n : Nat) (p : Int32) : Prop := p < 0 ∨ nI n ≤ p
theorem cz_ix (p : Int32) {n : Nat} (hn : n < 2 ^ 31) : cz_bad n p ∨ ∃ j : Nat, j < n ∧ p = nI j := by
  by_cases h : p < 0
  · exact Or.inl (Or.inl h)
  · obtain ⟨j, hj, rfl⟩ := nI_of h
    by_cases h2 : j < n
    · exact Or.inr ⟨j, h2, rfl⟩
    · exact Or.inl (Or.inr (nI_le (by omega) hj))
theorem cz_bad_ne {n j : Nat} {p : Int32} (hn : n < 2 ^ 31) (h : cz_bad n p) (hj : j < n) : p ≠ nI j := by
  rintro rfl
  rcases h with h | h
  · exact nI_pos (by omega) h
  · exact nI_ge hj hn h
theorem cx_rep_t {post : Int32 → Prop} {a : Nat} (ha : a < 3) (h : post 1) : wpX_isReplica post (nI a) := br_f (nI_pos (by omega)) (br_f (nI_ge (b := 3) ha (by decide)) h)
theorem cx_rep_f {post : Int32 → Prop} {p : Int32} (hb : cz_bad 3 p) (h : post 0) : wpX_isReplica post p := br_c (fun _ => h) (fun n0 => br_t (hb.resolve_left n0) h)
theorem cx_row_t {post : Int32 → Prop} {a : Nat} (ha : a < 8) (h : post 1) : wpX_isRow post (nI a) := br_f (nI_pos (by omega)) (br_f (nI_ge (b := 8) ha (by decide)) h)
theorem cx_row_f {post : Int32 → Prop} {p : Int32} (hb : cz_bad 8 p) (h : post 0) : wpX_isRow post p := br_c (fun _ => h) (fun n0 => br_t (hb.resolve_left n0) h)
theorem cx_isK {post : Int32 → Prop} {f : Int32} {a i : Nat} (ha : a < 3) (hi : i < 60) (h1 : cz_b (kw a) i = true → post 1) (h0 : cz_b (kw a) i = false → post 0) : wpX_isKnown post (f, kn, ro, va, re, st, ca, kw, ss) (nI a) (nI i) := by
  refine ⟨vp_in_nI ha (by decide), ?_⟩
  rw [cz_cl3 ha]
  exact br_c (fun z => h0 ((cz_inX (kw a) (show i < 64 by omega)).mp z)) (fun z => h1 (cz_tf (fun e => z ((cz_inX (kw a) (show i < 64 by omega)).mpr e))))
theorem cx_isOf {post : Int32 → Prop} {f : Int32} {i : Nat} (hi : i < 60) {k row : Int32} (h1 : kn i = k → ro i = row → post 1) (h0 : ¬ (kn i = k ∧ ro i = row) → post 0) : wpX_isOf post (f, kn, ro, va, re, st, ca, kw, ss) (nI i) k row := by
  refine ⟨vp_in_nI hi (by decide), ?_⟩
  rw [cz_cl hi]
  exact br_c (fun k1 => ⟨vp_in_nI hi (by decide), br_c (fun r1 => h1 k1 r1) (fun r1 => h0 (fun z => r1 z.2))⟩) (fun k1 => h0 (fun z => k1 z.1))
theorem cx_adds0 {post : Int64 → Prop} {f : Int32} {a : Nat} (ha : a < 3) (row : Int32) (hp : post (cz_fo (cz_fold (kw a) kn ro 0 row (fun i (s : Int64) => s ||| ((1 : Int64) <<< ((nI i).toInt64 &&& 63)))) 60 0)) : ∃ n, wX_knownAdds_5 post (nI a) row f kn ro va re st ca kw ss n 0 0 :=
  loop_0 (fun n i s => wX_knownAdds_5 post (nI a) row f kn ro va re st ca kw ss n s (nI i)) (fun i s => s = cz_fo (cz_fold (kw a) kn ro 0 row (fun i (s : Int64) => s ||| ((1 : Int64) <<< ((nI i).toInt64 &&& 63)))) i 0) 60 0 rfl
    (fun n s h => by subst h; exact br_t (nI_le (Nat.le_refl 60) (by decide)) hp)
    (fun n i s hi h ih => by
      subst h
      refine br_f (nI_ge (b := 60) hi (by decide)) (cx_isK ha hi (fun hk => br_f (by decide) (cx_isOf hi (fun k1 r1 => br_f (by decide) ?_) (fun nk => br_t rfl (nm_r (nI_1 i) (ih _ (cz_fold_f (fun z => nk z.2)).symm))))) (fun hk => br_t rfl (nm_r (nI_1 i) (ih _ (cz_fold_f (fun z => by rw [z.1] at hk; cases hk)).symm))))
      exact nm_e (nm_r (nI_1 i) (ih _ (cz_fold_t (g := (fun i (s : Int64) => s ||| ((1 : Int64) <<< ((nI i).toInt64 &&& 63)))) ⟨hk, k1, r1⟩).symm)))
theorem cx_cans0 {post : Int64 → Prop} {f : Int32} {a : Nat} (ha : a < 3) (row : Int32) (hp : post (cz_fo (cz_fold (kw a) kn ro 1 row (fun i (s : Int64) => s ||| ca i)) 60 0)) : ∃ n, wX_knownCancels_5 post (nI a) row f kn ro va re st ca kw ss n 0 0 :=
  loop_0 (fun n i s => wX_knownCancels_5 post (nI a) row f kn ro va re st ca kw ss n s (nI i)) (fun i s => s = cz_fo (cz_fold (kw a) kn ro 1 row (fun i (s : Int64) => s ||| ca i)) i 0) 60 0 rfl
    (fun n s h => by subst h; exact br_t (nI_le (Nat.le_refl 60) (by decide)) hp)
    (fun n i s hi h ih => by
      subst h
      refine br_f (nI_ge (b := 60) hi (by decide)) (cx_isK ha hi (fun hk => br_f (by decide) (cx_isOf hi (fun k1 r1 => br_f (by decide) ?_) (fun nk => br_t rfl (nm_r (nI_1 i) (ih _ (cz_fold_f (fun z => nk z.2)).symm))))) (fun hk => br_t rfl (nm_r (nI_1 i) (ih _ (cz_fold_f (fun z => by rw [z.1] at hk; cases hk)).symm))))
      exact ⟨vp_in_nI hi (by decide), nm_r (by rw [cz_cl hi]) (nm_r (nI_1 i) (ih _ (cz_fold_t ⟨hk, k1, r1⟩).symm))⟩)
theorem cx_cnt0 {post : Int32 → Prop} {f : Int32} {a : Nat} (ha : a < 3) (row : Int32) (hp : post (cz_fo (cz_fold (kw a) kn ro 3 row (fun i (s : Int32) => s + va i)) 60 0)) : ∃ n, wX_countOf_16 post (nI a) row f kn ro va re st ca kw ss n 0 0 :=
  loop_0 (fun n i s => wX_countOf_16 post (nI a) row f kn ro va re st ca kw ss n s (nI i)) (fun i s => s = cz_fo (cz_fold (kw a) kn ro 3 row (fun i (s : Int32) => s + va i)) i 0) 60 0 rfl
    (fun n s h => by subst h; exact br_t (nI_le (Nat.le_refl 60) (by decide)) hp)
    (fun n i s hi h ih => by
      subst h
      refine br_f (nI_ge (b := 60) hi (by decide)) (cx_isK ha hi (fun hk => br_f (by decide) (cx_isOf hi (fun k1 r1 => br_f (by decide) ?_) (fun nk => br_t rfl (nm_r (nI_1 i) (ih _ (cz_fold_f (fun z => nk z.2)).symm))))) (fun hk => br_t rfl (nm_r (nI_1 i) (ih _ (cz_fold_f (fun z => by rw [z.1] at hk; cases hk)).symm))))
      exact ⟨vp_in_nI hi (by decide), nm_r (by rw [cz_cl hi]) (nm_r (nI_1 i) (ih _ (cz_fold_t ⟨hk, k1, r1⟩).symm))⟩)
theorem cx_adds {post : Int64 → Prop} {f : Int32} {a : Nat} (ha : a < 3) (row : Int32) (hp : post (cz_fo (cz_fold (kw a) kn ro 0 row (fun i (s : Int64) => s ||| ((1 : Int64) <<< ((nI i).toInt64 &&& 63)))) 60 0)) : wpX_knownAdds post (f, kn, ro, va, re, st, ca, kw, ss) (nI a) row := cx_adds0 ha row hp
theorem cx_cans {post : Int64 → Prop} {f : Int32} {a : Nat} (ha : a < 3) (row : Int32) (hp : post (cz_fo (cz_fold (kw a) kn ro 1 row (fun i (s : Int64) => s ||| ca i)) 60 0)) : wpX_knownCancels post (f, kn, ro, va, re, st, ca, kw, ss) (nI a) row := cx_cans0 ha row hp
theorem cz_T_bad {r row : Int32} (h : cz_bad 3 r ∨ cz_bad 8 row) : ¬ cz_T c kn ro ne kw r row := by
  rintro ⟨a, ha, rfl, q, hq, rfl, _⟩
  rcases h with h | h
  · exact cz_bad_ne (by decide) h ha rfl
  · exact cz_bad_ne (by decide) h hq rfl
theorem cz_T_iff {a q : Nat} (ha : a < 3) (hq : q < 8) : cz_T c kn ro ne kw (nI a) (nI q) ↔ cz_th c kn ro ne (kw a) (nI q) := by
  constructor
  · rintro ⟨b, hb, e, _, _, _, h⟩
    rw [nI_eq (by omega) (by omega)] at e
    subst e
    exact h
  · intro h
    exact ⟨a, ha, rfl, q, hq, rfl, h⟩
theorem cx_there {post : Int32 → Prop} (H : cz_Inv c kn ro ca ne kw) (r row : Int32) (hp : post (cz_tv c kn ro ne kw r row)) : wpX_there post (nI c, kn, ro, va, re, st, ca, kw, ss) r row := by
  unfold wpX_there
  rcases cz_ix r (n := 3) (by decide) with hb | ⟨a, ha, rfl⟩
  · rw [cz_tv_f (cz_T_bad (Or.inl hb))] at hp
    exact cx_rep_f hb (br_t rfl hp)
  · refine cx_rep_t ha (br_f (by decide) ?_)
    rcases cz_ix row (n := 8) (by decide) with hb | ⟨q, hq, rfl⟩
    · rw [cz_tv_f (cz_T_bad (Or.inr hb))] at hp
      exact cx_row_f hb (br_t rfl hp)
    · refine cx_row_t hq (br_f (by decide) (cx_adds ha (nI q) (cx_cans ha (nI q) ?_)))
      have e := (cz_thX (kw a) kn ro ca (nI q)).trans ((cz_th_iff H ha (nI q)).trans (cz_T_iff ha hq).symm)
      refine br_c (fun z => ?_) (fun z => ?_)
      · rw [cz_tv_f (fun t => e.mpr t z)] at hp; exact hp
      · rw [cz_tv_t (e.mp z)] at hp; exact hp
theorem cx_isL {post : Int32 → Prop} {f : Int32} {i b : Nat} (hi : i < 60) (hb : b < 60) (h1 : cz_lat st re i (nI b) → post 1) (h0 : ¬ cz_lat st re i (nI b) → post 0) : wpX_isLater post (f, kn, ro, va, re, st, ca, kw, ss) (nI i) (nI b) := by
  have vi : vp_in (nI i) 60 := vp_in_nI hi (by decide)
  have vb : vp_in (nI b) 60 := vp_in_nI hb (by decide)
  unfold cz_lat at h1 h0
  rw [cz_cl hb] at h1 h0
  refine ⟨vi, vb, ?_⟩
  rw [cz_cl hi, cz_cl hb]
  refine br_c (fun e => ⟨vi, vb, br_c (fun z => h0 ?_) (fun z => h1 (Or.inr ⟨e, Int32.not_le.mp z⟩))⟩) (fun e => ⟨vi, vb, br_c (fun z => h0 ?_) (fun z => h1 (Or.inl (Int32.not_le.mp z)))⟩)
  · rintro (q | ⟨_, q⟩)
    · rw [e] at q; exact Int32.lt_irrefl q
    · exact Int32.not_le.mpr q z
  · rintro (q | ⟨q, _⟩)
    · exact Int32.not_le.mpr q z
    · exact e q
theorem cz_lg_t {i : Nat} {s : Int32} (h : s = -1 ∨ cz_lat st re i s) : cz_lg st re i s = nI i := if_pos h
theorem cz_lg_f {i : Nat} {s : Int32} (h : ¬ (s = -1 ∨ cz_lat st re i s)) : cz_lg st re i s = s := if_neg h
theorem cx_last0 {post : Int32 → Prop} {f : Int32} {a : Nat} (ha : a < 3) (k row : Int32) (hp : post (cz_la (kw a) kn ro st re k row 60)) : ∃ n, wX_lastKnown_6 post (nI a) k row f kn ro va re st ca kw ss n (-1) 0 :=
  loop_0 (fun n i s => wX_lastKnown_6 post (nI a) k row f kn ro va re st ca kw ss n s (nI i)) (fun i s => s = cz_la (kw a) kn ro st re k row i) 60 (-1) rfl
    (fun n s h => by subst h; exact br_t (nI_le (Nat.le_refl 60) (by decide)) hp)
    (fun n i s hi h ih => by
      have hr := cz_la_rng (kw a) kn ro st re k row i (by omega)
      rw [← h] at hr
      have ht : cz_P (kw a) kn ro k row i → cz_lg st re i s = cz_la (kw a) kn ro st re k row (i + 1) := by
        intro p
        subst h
        exact (cz_fold_t p).symm
      have hf : ¬ cz_P (kw a) kn ro k row i → s = cz_la (kw a) kn ro st re k row (i + 1) := by
        intro p
        subst h
        exact (cz_fold_f p).symm
      clear h
      refine br_f (nI_ge (b := 60) hi (by decide)) (cx_isK ha hi (fun hk => br_f (by decide) (cx_isOf hi (fun k1 r1 => br_f (by decide) ?_) (fun nk => br_t rfl (nm_r (nI_1 i) (ih _ (hf (fun z => nk z.2))))))) (fun hk => br_t rfl (nm_r (nI_1 i) (ih _ (hf (fun z => by rw [z.1] at hk; cases hk))))))
      have ht := ht ⟨hk, k1, r1⟩
      refine br_c (fun e => nm_r (nI_1 i) (ih _ ?_)) (fun e => ?_)
      · rw [← ht, cz_lg_t (Or.inl e)]
      · obtain ⟨b, hb, rfl⟩ := hr.resolve_left e
        refine cx_isL hi hb (fun l => br_f (by decide) (nm_r (nI_1 i) (ih _ ?_))) (fun l => br_t rfl (nm_r (nI_1 i) (ih _ ?_)))
        · rw [← ht, cz_lg_t (Or.inr l)]
        · rw [← ht, cz_lg_f (fun z => z.elim e l)])
theorem cz_la_end {a : Nat} (ha : a < 3) (H : cz_Inv c kn ro ca ne kw) (k row : Int32) : cz_la (kw a) kn ro st re k row 60 = cz_la (kw a) kn ro st re k row c := cz_fold_end H.1 (H.2.1 a ha)
theorem cx_last {post : Int32 → Prop} {f : Int32} {a : Nat} (ha : a < 3) (H : cz_Inv c kn ro ca ne kw) (k row : Int32) (hp : post (cz_la (kw a) kn ro st re k row c)) : wpX_lastKnown post (f, kn, ro, va, re, st, ca, kw, ss) (nI a) k row := by
  rw [← cz_la_end ha H] at hp
  exact cx_last0 ha k row hp
def cz_kf (K : Int64) (i : Nat) (s : Int32) : Int32 := if cz_b K i = true then s + 1 else s
theorem cx_known0 {post : Int32 → Prop} {f : Int32} {a : Nat} (ha : a < 3) (hp : post (cz_fo (cz_kf (kw a)) 60 0)) : ∃ n, wX_known_13 post (nI a) f kn ro va re st ca kw ss n 0 0 :=
  loop_0 (fun n i s => wX_known_13 post (nI a) f kn ro va re st ca kw ss n s (nI i)) (fun i s => s = cz_fo (cz_kf (kw a)) i 0) 60 0 rfl
    (fun n s h => by subst h; exact br_t (nI_le (Nat.le_refl 60) (by decide)) hp)
    (fun n i s hi h ih => by
      subst h
      exact br_f (nI_ge (b := 60) hi (by decide)) (cx_isK ha hi (fun hk => br_f (by decide) (nm_e (nm_r (nI_1 i) (ih _ (if_pos hk).symm)))) (fun hk => br_t rfl (nm_r (nI_1 i) (ih _ (if_neg (fun z => by rw [z] at hk; cases hk)).symm)))))
theorem cz_kf_end {a : Nat} (ha : a < 3) (H : cz_Inv c kn ro ca ne kw) : cz_fo (cz_kf (kw a)) 60 0 = cz_fo (cz_kf (kw a)) c 0 := by
  apply cz_fo_end _ _ H.1
  intro i hi _
  apply if_neg
  intro z
  rw [H.2.1 a ha i hi] at z
  cases z
end
end
section
/-! the reference's helpers and loops -/
section
variable {c : Nat} {kn ro va re st : Nat → Int32} {ca ne kw : Nat → Int64} {ss : Nat → Int32}
theorem cy_rep_t {post : Int32 → Prop} {a : Nat} (ha : a < 3) (h : post 0) : wpY_badReplica post (nI c, kn, ro, va, st, re, ne, kw, ss) (nI a) := br_f (nI_pos (by omega)) (br_t (nI_le (b := 2) (by omega) (by decide)) h)
theorem cy_rep_f {post : Int32 → Prop} {p : Int32} (hb : cz_bad 3 p) (h : post 1) : wpY_badReplica post (nI c, kn, ro, va, st, re, ne, kw, ss) p := br_c (fun _ => h) (fun n0 => br_f (fun z => absurd (Int32.le_trans (hb.resolve_left n0) z) (by decide)) h)
theorem cy_row_t {post : Int32 → Prop} {a : Nat} (ha : a < 8) (h : post 0) : wpY_badRow post (nI c, kn, ro, va, st, re, ne, kw, ss) (nI a) := br_f (nI_pos (by omega)) (br_t (nI_le (b := 7) (by omega) (by decide)) h)
theorem cy_row_f {post : Int32 → Prop} {p : Int32} (hb : cz_bad 8 p) (h : post 1) : wpY_badRow post (nI c, kn, ro, va, st, re, ne, kw, ss) p := br_c (fun _ => h) (fun n0 => br_f (fun z => absurd (Int32.le_trans (hb.resolve_left n0) z) (by decide)) h)
theorem cy_in {post : Int32 → Prop} {w : Int64} {i : Nat} (hi : i < 60) (h1 : cz_b w i = true → post 1) (h0 : cz_b w i = false → post 0) : wpY_in post (nI c, kn, ro, va, st, re, ne, kw, ss) w (nI i) := br_c (fun z => h1 ((cz_inY w (show i < 64 by omega)).mp z)) (fun z => h0 (cz_ft (fun e => z ((cz_inY w (show i < 64 by omega)).mpr e))))
theorem cy_can {post : Int32 → Prop} {a j : Nat} (hc : c ≤ 60) (ha : a < 3) (hj : j < 60) (h1 : cz_dr c kn ro ne (kw a) (ro j) j → post 1) (h0 : ¬ cz_dr c kn ro ne (kw a) (ro j) j → post 0) : wpY_cancelled post (nI c, kn, ro, va, st, re, ne, kw, ss) (nI a) (nI j) :=
  loop_0 (fun n i (_ : Unit) => wY_cancelled_2 post (nI a) (nI j) (nI c) kn ro va st re ne kw ss n (nI i)) (fun i _ => ∀ b, b < i → ¬ (cz_b (kw a) b = true ∧ kn b = 1 ∧ ro b = ro j ∧ cz_b (ne b) j = true)) c () (fun b hb => absurd hb (Nat.not_lt_zero b))
    (fun n _ h => br_t (nI_le (Nat.le_refl c) (by omega)) (h0 (fun ⟨b, hb, q⟩ => h b hb q)))
    (fun n i _ hi h ih => by
      have h6 : i < 60 := by omega
      have vi : vp_in (nI i) 60 := vp_in_nI h6 (by decide)
      have vj : vp_in (nI j) 60 := vp_in_nI hj (by decide)
      refine br_f (nI_ge hi (by omega)) ⟨vp_in_nI ha (by decide), cy_in h6 (fun hk => br_f (by decide) ⟨vi, br_c (fun k1 => ⟨vi, vj, br_c (fun r1 => ⟨vi, cy_in hj (fun nk => br_f (by decide) ?_) (fun nk => br_t rfl (nm_r (nI_1 i) (ih () (lt_s h ?_))))⟩) (fun r1 => nm_r (nI_1 i) (ih () (lt_s h ?_)))⟩) (fun k1 => nm_r (nI_1 i) (ih () (lt_s h ?_)))⟩) (fun hk => br_t rfl (nm_r (nI_1 i) (ih () (lt_s h ?_))))⟩
      · rw [cz_cl3 ha] at hk
        rw [cz_cl h6] at k1 r1 nk
        rw [cz_cl hj] at r1
        exact h1 ⟨i, hi, hk, k1, r1, nk⟩
      · rintro ⟨_, _, _, z⟩
        rw [cz_cl h6, z] at nk
        cases nk
      · rintro ⟨_, _, z, _⟩
        rw [cz_cl h6, cz_cl hj] at r1
        exact r1 z
      · rintro ⟨_, z, _, _⟩
        rw [cz_cl h6] at k1
        exact k1 z
      · rintro ⟨z, _, _, _⟩
        rw [cz_cl3 ha, z] at hk
        cases hk)
theorem cy_there0 {post : Int32 → Prop} {a : Nat} (hc : c ≤ 60) (ha : a < 3) (row : Int32) (h1 : cz_th c kn ro ne (kw a) row → post 1) (h0 : ¬ cz_th c kn ro ne (kw a) row → post 0) : ∃ n, wY_there_20 post (nI a) row (nI c) kn ro va st re ne kw ss n 0 :=
  loop_0 (fun n i (_ : Unit) => wY_there_20 post (nI a) row (nI c) kn ro va st re ne kw ss n (nI i)) (fun i _ => ∀ b, b < i → ¬ (cz_b (kw a) b = true ∧ kn b = 0 ∧ ro b = row ∧ ¬ cz_dr c kn ro ne (kw a) row b)) c () (fun b hb => absurd hb (Nat.not_lt_zero b))
    (fun n _ h => br_t (nI_le (Nat.le_refl c) (by omega)) (h0 (fun ⟨b, hb, q⟩ => h b hb q)))
    (fun n i _ hi h ih => by
      have h6 : i < 60 := by omega
      have vi : vp_in (nI i) 60 := vp_in_nI h6 (by decide)
      refine br_f (nI_ge hi (by omega)) ⟨vp_in_nI ha (by decide), cy_in h6 (fun hk => br_f (by decide) ⟨vi, br_c (fun k1 => ⟨vi, br_c (fun r1 => cy_can hc ha h6 (fun nk => br_f (by decide) (nm_r (nI_1 i) (ih () (lt_s h ?_)))) (fun nk => br_t rfl ?_)) (fun r1 => nm_r (nI_1 i) (ih () (lt_s h ?_)))⟩) (fun k1 => nm_r (nI_1 i) (ih () (lt_s h ?_)))⟩) (fun hk => br_t rfl (nm_r (nI_1 i) (ih () (lt_s h ?_))))⟩
      · rintro ⟨_, _, e, z⟩
        rw [e] at nk
        exact z nk
      · rw [cz_cl3 ha] at hk
        rw [cz_cl h6] at k1 r1
        rw [r1] at nk
        exact h1 ⟨i, hi, hk, k1, r1, nk⟩
      · rintro ⟨_, _, z, _⟩
        rw [cz_cl h6] at r1
        exact r1 z
      · rintro ⟨_, z, _, _⟩
        rw [cz_cl h6] at k1
        exact k1 z
      · rintro ⟨z, _, _, _⟩
        rw [cz_cl3 ha, z] at hk
        cases hk)
theorem cy_there {post : Int32 → Prop} (hc : c ≤ 60) (r row : Int32) (hp : post (cz_tv c kn ro ne kw r row)) : wpY_there post (nI c, kn, ro, va, st, re, ne, kw, ss) r row := by
  unfold wpY_there
  rcases cz_ix r (n := 3) (by decide) with hb | ⟨a, ha, rfl⟩
  · rw [cz_tv_f (cz_T_bad (Or.inl hb))] at hp
    exact cy_rep_f hb (br_f (by decide) hp)
  · refine cy_rep_t ha (br_t rfl ?_)
    rcases cz_ix row (n := 8) (by decide) with hb | ⟨q, hq, rfl⟩
    · rw [cz_tv_f (cz_T_bad (Or.inr hb))] at hp
      exact cy_row_f hb (br_f (by decide) hp)
    · refine cy_row_t hq (br_t rfl (cy_there0 hc ha (nI q) (fun z => ?_) (fun z => ?_)))
      · rw [cz_tv_t ((cz_T_iff ha hq).mpr z)] at hp; exact hp
      · rw [cz_tv_f (fun t => z ((cz_T_iff ha hq).mp t))] at hp; exact hp
theorem cy_cnt0 {post : Int32 → Prop} {a : Nat} (hc : c ≤ 60) (ha : a < 3) (row : Int32) (hp : post (cz_fo (cz_fold (kw a) kn ro 3 row (fun i (s : Int32) => s + va i)) c 0)) : ∃ n, wY_countOf_16 post (nI a) row (nI c) kn ro va st re ne kw ss n 0 0 :=
  loop_0 (fun n i s => wY_countOf_16 post (nI a) row (nI c) kn ro va st re ne kw ss n s (nI i)) (fun i s => s = cz_fo (cz_fold (kw a) kn ro 3 row (fun i (s : Int32) => s + va i)) i 0) c 0 rfl
    (fun n s h => by subst h; exact br_t (nI_le (Nat.le_refl c) (by omega)) hp)
    (fun n i s hi h ih => by
      subst h
      have h6 : i < 60 := by omega
      have vi : vp_in (nI i) 60 := vp_in_nI h6 (by decide)
      refine br_f (nI_ge hi (by omega)) ⟨vp_in_nI ha (by decide), cy_in h6 (fun hk => br_f (by decide) ⟨vi, br_c (fun k1 => ⟨vi, br_c (fun r1 => ⟨vi, nm_r (by rw [cz_cl h6]) (nm_r (nI_1 i) (ih _ (cz_fold_t ?_).symm))⟩) (fun r1 => nm_r (nI_1 i) (ih _ (cz_fold_f ?_).symm))⟩) (fun k1 => nm_r (nI_1 i) (ih _ (cz_fold_f ?_).symm))⟩) (fun hk => br_t rfl (nm_r (nI_1 i) (ih _ (cz_fold_f ?_).symm)))⟩
      · rw [cz_cl3 ha] at hk
        rw [cz_cl h6] at k1 r1
        exact ⟨hk, k1, r1⟩
      · rintro ⟨_, _, z⟩
        rw [cz_cl h6] at r1
        exact r1 z
      · rintro ⟨_, z, _⟩
        rw [cz_cl h6] at k1
        exact k1 z
      · rintro ⟨z, _, _⟩
        rw [cz_cl3 ha, z] at hk
        cases hk)
theorem cy_last0 {post : Int32 → Prop} {a : Nat} (hc : c ≤ 60) (ha : a < 3) (row k : Int32) (hp : post (cz_la (kw a) kn ro st re k row c)) : ∃ n, wY_last_6 post (nI a) row k (nI c) kn ro va st re ne kw ss n (-1) 0 :=
  loop_0 (fun n i s => wY_last_6 post (nI a) row k (nI c) kn ro va st re ne kw ss n s (nI i)) (fun i s => s = cz_la (kw a) kn ro st re k row i) c (-1) rfl
    (fun n s h => by subst h; exact br_t (nI_le (Nat.le_refl c) (by omega)) hp)
    (fun n i s hi h ih => by
      have h6 : i < 60 := by omega
      have vi : vp_in (nI i) 60 := vp_in_nI h6 (by decide)
      have hr := cz_la_rng (kw a) kn ro st re k row i (by omega)
      rw [← h] at hr
      have ht : cz_P (kw a) kn ro k row i → cz_lg st re i s = cz_la (kw a) kn ro st re k row (i + 1) := by
        intro p
        subst h
        exact (cz_fold_t p).symm
      have hf : ¬ cz_P (kw a) kn ro k row i → s = cz_la (kw a) kn ro st re k row (i + 1) := by
        intro p
        subst h
        exact (cz_fold_f p).symm
      clear h
      refine br_f (nI_ge hi (by omega)) ⟨vp_in_nI ha (by decide), cy_in h6 (fun hk => br_f (by decide) ⟨vi, br_c (fun k1 => ⟨vi, br_c (fun r1 => ?_) (fun r1 => nm_r (nI_1 i) (ih _ (hf ?_)))⟩) (fun k1 => nm_r (nI_1 i) (ih _ (hf ?_)))⟩) (fun hk => br_t rfl (nm_r (nI_1 i) (ih _ (hf ?_))))⟩
      · rw [cz_cl3 ha] at hk
        rw [cz_cl h6] at k1 r1
        have ht := ht ⟨hk, k1, r1⟩
        rcases hr with e | ⟨b, hb, e⟩
        · subst e
          exact br_t (by decide) (nm_r (nI_1 i) (ih _ (by rw [← ht, cz_lg_t (Or.inl rfl)])))
        · subst e
          have vb : vp_in (nI b) 60 := vp_in_nI hb (by decide)
          have nb : ¬ nI b < 0 := nI_pos (by omega)
          have n1 : ¬ nI b = -1 := fun z => by rw [z] at nb; exact nb (by decide)
          have lt : cz_lat st re i (nI b) → nI i = cz_la (kw a) kn ro st re k row (i + 1) := fun l => by rw [← ht, cz_lg_t (Or.inr l)]
          have lf : ¬ cz_lat st re i (nI b) → nI b = cz_la (kw a) kn ro st re k row (i + 1) := fun l => by rw [← ht, cz_lg_f (fun z => z.elim n1 l)]
          unfold cz_lat at lt lf
          refine br_f nb ⟨vi, vb, ?_⟩
          rw [cz_cl h6]
          refine br_c (fun q => nm_r (nI_1 i) (ih _ (lt (Or.inl q)))) (fun q => ⟨vi, vb, br_c (fun e => ⟨vi, vb, br_c (fun p => nm_r (nI_1 i) (ih _ (lf ?_))) (fun p => nm_r (nI_1 i) (ih _ (lt (Or.inr ⟨e, Int32.not_le.mp p⟩))))⟩) (fun e => nm_r (nI_1 i) (ih _ (lf ?_)))⟩)
          · rintro (z | ⟨_, z⟩)
            · exact q z
            · exact Int32.not_le.mpr z p
          · rintro (z | ⟨z, _⟩)
            · exact q z
            · exact e z
      · rintro ⟨_, _, z⟩
        rw [cz_cl h6] at r1
        exact r1 z
      · rintro ⟨_, z, _⟩
        rw [cz_cl h6] at k1
        exact k1 z
      · rintro ⟨z, _, _⟩
        rw [cz_cl3 ha, z] at hk
        cases hk)
theorem cy_last {post : Int32 → Prop} {a : Nat} (hc : c ≤ 60) (ha : a < 3) (row k : Int32) (hp : post (cz_la (kw a) kn ro st re k row c)) : wpY_last post (nI c, kn, ro, va, st, re, ne, kw, ss) (nI a) row k := cy_last0 hc ha row k hp
theorem cy_known0 {post : Int32 → Prop} {a : Nat} (hc : c ≤ 60) (ha : a < 3) (hp : post (cz_fo (cz_kf (kw a)) c 0)) : ∃ n, wY_known_14 post (nI a) (nI c) kn ro va st re ne kw ss n 0 0 :=
  loop_0 (fun n i s => wY_known_14 post (nI a) (nI c) kn ro va st re ne kw ss n s (nI i)) (fun i s => s = cz_fo (cz_kf (kw a)) i 0) c 0 rfl
    (fun n s h => by subst h; exact br_t (nI_le (Nat.le_refl c) (by omega)) hp)
    (fun n i s hi h ih => by
      subst h
      have h6 : i < 60 := by omega
      refine br_f (nI_ge hi (by omega)) ⟨vp_in_nI ha (by decide), cy_in h6 (fun hk => br_f (by decide) (nm_e (nm_r (nI_1 i) (ih _ (if_pos ?_).symm)))) (fun hk => br_t rfl (nm_r (nI_1 i) (ih _ (if_neg ?_).symm)))⟩
      · rw [cz_cl3 ha] at hk; exact hk
      · rw [cz_cl3 ha] at hk
        intro z
        rw [z] at hk
        cases hk)
end
end
section
/-! the readers, both sides -/
section
variable {c : Nat} {kn ro va re st : Nat → Int32} {ca ne kw : Nat → Int64} {ss : Nat → Int32}
theorem cz_la_vp {a : Nat} (H : cz_Inv c kn ro ca ne kw) (k row : Int32) (h : ¬ cz_la (kw a) kn ro st re k row c = -1) : vp_in (cz_la (kw a) kn ro st re k row c) 60 ∧ ¬ cz_la (kw a) kn ro st re k row c < 0 ∧ 0 ≤ cz_la (kw a) kn ro st re k row c := by
  obtain ⟨b, hb, e⟩ := (cz_la_rng (kw a) kn ro st re k row c H.1).resolve_left h
  rw [e]
  exact ⟨vp_in_nI hb (by decide), nI_pos (by omega), nI_pos' (by omega)⟩
theorem cx_nameOf {post : Int32 → Prop} (H : cz_Inv c kn ro ca ne kw) (r row : Int32) (hp : post (cz_nv c kn ro va st re ne kw r row)) : wpX_nameOf post (nI c, kn, ro, va, re, st, ca, kw, ss) r row := by
  unfold wpX_nameOf
  refine cx_there H r row ?_
  unfold cz_nv at hp
  by_cases z : cz_tv c kn ro ne kw r row = 0
  · rw [if_pos z] at hp
    exact br_t z hp
  · obtain ⟨a, ha, rfl, q, hq, rfl⟩ := cz_tv_n z
    rw [if_neg z, cz_cl3 ha] at hp
    refine br_f z (cx_last ha H 2 (nI q) ?_)
    by_cases l : cz_la (kw a) kn ro st re 2 (nI q) c = -1
    · rw [if_pos l] at hp
      exact br_t l hp
    · rw [if_neg l] at hp
      exact br_f l ⟨(cz_la_vp H 2 (nI q) l).1, hp⟩
theorem cy_nameOf {post : Int32 → Prop} (H : cz_Inv c kn ro ca ne kw) (r row : Int32) (hp : post (cz_nv c kn ro va st re ne kw r row)) : wpY_nameOf post (nI c, kn, ro, va, st, re, ne, kw, ss) r row := by
  unfold wpY_nameOf
  refine cy_there H.1 r row ?_
  unfold cz_nv at hp
  by_cases z : cz_tv c kn ro ne kw r row = 0
  · rw [if_pos z] at hp
    exact br_t z hp
  · obtain ⟨a, ha, rfl, q, hq, rfl⟩ := cz_tv_n z
    rw [if_neg z, cz_cl3 ha] at hp
    refine br_f z (cy_last H.1 ha (nI q) 2 ?_)
    by_cases l : cz_la (kw a) kn ro st re 2 (nI q) c = -1
    · rw [if_pos l] at hp
      exact br_f (by rw [l]; decide) hp
    · rw [if_neg l] at hp
      exact br_t (cz_la_vp H 2 (nI q) l).2.2 ⟨(cz_la_vp H 2 (nI q) l).1, hp⟩
theorem cx_countOf {post : Int32 → Prop} (H : cz_Inv c kn ro ca ne kw) (r row : Int32) (hp : post (cz_cv c kn ro va ne kw r row)) : wpX_countOf post (nI c, kn, ro, va, re, st, ca, kw, ss) r row := by
  unfold wpX_countOf
  refine cx_there H r row ?_
  unfold cz_cv at hp
  by_cases z : cz_tv c kn ro ne kw r row = 0
  · rw [if_pos z] at hp
    exact br_t z hp
  · obtain ⟨a, ha, rfl, q, hq, rfl⟩ := cz_tv_n z
    rw [if_neg z, cz_cl3 ha, ← cz_fold_end H.1 (H.2.1 a ha)] at hp
    exact br_f z (cx_cnt0 ha (nI q) hp)
theorem cy_countOf {post : Int32 → Prop} (H : cz_Inv c kn ro ca ne kw) (r row : Int32) (hp : post (cz_cv c kn ro va ne kw r row)) : wpY_countOf post (nI c, kn, ro, va, st, re, ne, kw, ss) r row := by
  unfold wpY_countOf
  refine cy_there H.1 r row ?_
  unfold cz_cv at hp
  by_cases z : cz_tv c kn ro ne kw r row = 0
  · rw [if_pos z] at hp
    exact br_t z hp
  · obtain ⟨a, ha, rfl, q, hq, rfl⟩ := cz_tv_n z
    rw [if_neg z, cz_cl3 ha] at hp
    exact br_f z (cy_cnt0 H.1 ha (nI q) hp)
theorem cz_tv_m1 (r : Int32) : cz_tv c kn ro ne kw r (-1) = 0 := cz_tv_f (cz_T_bad (Or.inr (Or.inl (by decide))))
theorem cx_linkOf {post : Int32 → Prop} (H : cz_Inv c kn ro ca ne kw) (r row : Int32) (hp : post (cz_lv c kn ro va st re ne kw r row)) : wpX_linkOf post (nI c, kn, ro, va, re, st, ca, kw, ss) r row := by
  unfold wpX_linkOf
  refine cx_there H r row ?_
  unfold cz_lv cz_lt0 at hp
  by_cases z : cz_tv c kn ro ne kw r row = 0
  · rw [if_pos z] at hp
    exact br_t z hp
  · obtain ⟨a, ha, rfl, q, hq, rfl⟩ := cz_tv_n z
    rw [if_neg z, cz_cl3 ha] at hp
    refine br_f z (cx_last ha H 4 (nI q) ?_)
    by_cases l : cz_la (kw a) kn ro st re 4 (nI q) c = -1
    · rw [if_pos l, if_pos (cz_tv_m1 _)] at hp
      exact br_t l (cx_there H (nI a) (-1) (br_t (cz_tv_m1 _) hp))
    · rw [if_neg l] at hp
      refine br_f l ⟨(cz_la_vp H 4 (nI q) l).1, cx_there H (nI a) _ (br_c (fun t => ?_) (fun t => ?_))⟩
      · rw [if_pos t] at hp; exact hp
      · rw [if_neg t] at hp; exact hp
theorem cy_linkOf {post : Int32 → Prop} (H : cz_Inv c kn ro ca ne kw) (r row : Int32) (hp : post (cz_lv c kn ro va st re ne kw r row)) : wpY_linkOf post (nI c, kn, ro, va, st, re, ne, kw, ss) r row := by
  unfold wpY_linkOf
  refine cy_there H.1 r row ?_
  unfold cz_lv cz_lt0 at hp
  by_cases z : cz_tv c kn ro ne kw r row = 0
  · rw [if_pos z] at hp
    exact br_t z hp
  · obtain ⟨a, ha, rfl, q, hq, rfl⟩ := cz_tv_n z
    rw [if_neg z, cz_cl3 ha] at hp
    refine br_f z (cy_last H.1 ha (nI q) 4 ?_)
    by_cases l : cz_la (kw a) kn ro st re 4 (nI q) c = -1
    · rw [if_pos l, if_pos (cz_tv_m1 _)] at hp
      exact br_t (by rw [l]; decide) hp
    · rw [if_neg l] at hp
      have vl := (cz_la_vp H 4 (nI q) l).1
      refine br_f (cz_la_vp H 4 (nI q) l).2.1 ⟨vl, cy_there H.1 (nI a) _ (br_c (fun t => ?_) (fun t => ⟨vl, ?_⟩))⟩
      · rw [if_pos t] at hp; exact hp
      · rw [if_neg t] at hp; exact hp
noncomputable def cz_rf (c : Nat) (kn ro : Nat → Int32) (ne kw : Nat → Int64) (r : Int32) (i : Nat) (s : Int32) : Int32 := if cz_tv c kn ro ne kw r (nI i) = 0 then s else s + 1
theorem cx_rows0 {post : Int32 → Prop} (H : cz_Inv c kn ro ca ne kw) (r : Int32) (hp : post (cz_fo (cz_rf c kn ro ne kw r) 8 0)) : ∃ n, wX_rows_13 post r (nI c) kn ro va re st ca kw ss n 0 0 :=
  loop_0 (fun n i s => wX_rows_13 post r (nI c) kn ro va re st ca kw ss n s (nI i)) (fun i s => s = cz_fo (cz_rf c kn ro ne kw r) i 0) 8 0 rfl
    (fun n s h => by subst h; exact br_t (nI_le (Nat.le_refl 8) (by decide)) hp)
    (fun n i s hi h ih => by
      subst h
      exact br_f (nI_ge (b := 8) hi (by decide)) (cx_there H r (nI i) (br_c (fun t => nm_r (nI_1 i) (ih _ (if_pos t).symm)) (fun t => nm_e (nm_r (nI_1 i) (ih _ (if_neg t).symm))))))
theorem cy_rows0 {post : Int32 → Prop} (H : cz_Inv c kn ro ca ne kw) (r : Int32) (hp : post (cz_fo (cz_rf c kn ro ne kw r) 8 0)) : ∃ n, wY_rows_14 post r (nI c) kn ro va st re ne kw ss n 0 0 :=
  loop_0 (fun n i s => wY_rows_14 post r (nI c) kn ro va st re ne kw ss n s (nI i)) (fun i s => s = cz_fo (cz_rf c kn ro ne kw r) i 0) 8 0 rfl
    (fun n s h => by subst h; exact br_t (nI_le (Nat.le_refl 8) (by decide)) hp)
    (fun n i s hi h ih => by
      subst h
      exact br_f (nI_ge (b := 8) hi (by decide)) (cy_there H.1 r (nI i) (br_c (fun t => nm_r (nI_1 i) (ih _ (if_pos t).symm)) (fun t => nm_e (nm_r (nI_1 i) (ih _ (if_neg t).symm))))))
noncomputable def cz_sf (c : Nat) (kn ro va : Nat → Int32) (ne kw : Nat → Int64) (r : Int32) (i : Nat) (s : Int32) : Int32 := s + cz_cv c kn ro va ne kw r (nI i)
theorem cx_sum0 {post : Int32 → Prop} (H : cz_Inv c kn ro ca ne kw) (r : Int32) (hp : post (cz_fo (cz_sf c kn ro va ne kw r) 8 0)) : ∃ n, wX_sum_13 post r (nI c) kn ro va re st ca kw ss n 0 0 :=
  loop_0 (fun n i s => wX_sum_13 post r (nI c) kn ro va re st ca kw ss n s (nI i)) (fun i s => s = cz_fo (cz_sf c kn ro va ne kw r) i 0) 8 0 rfl
    (fun n s h => by subst h; exact br_t (nI_le (Nat.le_refl 8) (by decide)) hp)
    (fun n i s hi h ih => by
      subst h
      exact br_f (nI_ge (b := 8) hi (by decide)) (cx_countOf H r (nI i) (nm_e (nm_r (nI_1 i) (ih _ rfl)))))
theorem cy_sum0 {post : Int32 → Prop} (H : cz_Inv c kn ro ca ne kw) (r : Int32) (hp : post (cz_fo (cz_sf c kn ro va ne kw r) 8 0)) : ∃ n, wY_sum_14 post r (nI c) kn ro va st re ne kw ss n 0 0 :=
  loop_0 (fun n i s => wY_sum_14 post r (nI c) kn ro va st re ne kw ss n s (nI i)) (fun i s => s = cz_fo (cz_sf c kn ro va ne kw r) i 0) 8 0 rfl
    (fun n s h => by subst h; exact br_t (nI_le (Nat.le_refl 8) (by decide)) hp)
    (fun n i s hi h ih => by
      subst h
      exact br_f (nI_ge (b := 8) hi (by decide)) (cy_countOf H r (nI i) (nm_e (nm_r (nI_1 i) (ih _ rfl)))))
def cz_eq (c : Nat) (kn ro va st re : Nat → Int32) (ne kw : Nat → Int64) (a b : Int32) (i : Nat) : Prop := cz_tv c kn ro ne kw a (nI i) = cz_tv c kn ro ne kw b (nI i) ∧ cz_nv c kn ro va st re ne kw a (nI i) = cz_nv c kn ro va st re ne kw b (nI i) ∧ cz_cv c kn ro va ne kw a (nI i) = cz_cv c kn ro va ne kw b (nI i) ∧ cz_lv c kn ro va st re ne kw a (nI i) = cz_lv c kn ro va st re ne kw b (nI i)
theorem cx_agree0 {post : Int32 → Prop} (H : cz_Inv c kn ro ca ne kw) (a b : Int32) (h1 : (∀ i, i < 8 → cz_eq c kn ro va st re ne kw a b i) → post 1) (h0 : ¬ (∀ i, i < 8 → cz_eq c kn ro va st re ne kw a b i) → post 0) : ∃ n, wX_agree_18 post a b (nI c) kn ro va re st ca kw ss n 0 :=
  loop_0 (fun n i (_ : Unit) => wX_agree_18 post a b (nI c) kn ro va re st ca kw ss n (nI i)) (fun i _ => ∀ j, j < i → cz_eq c kn ro va st re ne kw a b j) 8 () (fun b hb => absurd hb (Nat.not_lt_zero b))
    (fun n _ h => br_t (nI_le (Nat.le_refl 8) (by decide)) (h1 h))
    (fun n i _ hi h ih => br_f (nI_ge (b := 8) hi (by decide))
      (cx_there H a (nI i) (cx_there H b (nI i) (br_c (fun e1 =>
        cx_nameOf H a (nI i) (cx_nameOf H b (nI i) (br_c (fun e2 =>
          cx_countOf H a (nI i) (cx_countOf H b (nI i) (br_c (fun e3 =>
            cx_linkOf H a (nI i) (cx_linkOf H b (nI i) (br_c (fun e4 => nm_r (nI_1 i) (ih () (lt_s h ⟨e1, e2, e3, e4⟩)))
              (fun e4 => h0 (fun z => e4 (z i hi).2.2.2)))))
            (fun e3 => h0 (fun z => e3 (z i hi).2.2.1)))))
          (fun e2 => h0 (fun z => e2 (z i hi).2.1)))))
        (fun e1 => h0 (fun z => e1 (z i hi).1))))))
theorem cy_agree0 {post : Int32 → Prop} (H : cz_Inv c kn ro ca ne kw) (a b : Int32) (h1 : (∀ i, i < 8 → cz_eq c kn ro va st re ne kw a b i) → post 1) (h0 : ¬ (∀ i, i < 8 → cz_eq c kn ro va st re ne kw a b i) → post 0) : ∃ n, wY_agree_20 post a b (nI c) kn ro va st re ne kw ss n 0 :=
  loop_0 (fun n i (_ : Unit) => wY_agree_20 post a b (nI c) kn ro va st re ne kw ss n (nI i)) (fun i _ => ∀ j, j < i → cz_eq c kn ro va st re ne kw a b j) 8 () (fun b hb => absurd hb (Nat.not_lt_zero b))
    (fun n _ h => br_t (nI_le (Nat.le_refl 8) (by decide)) (h1 h))
    (fun n i _ hi h ih => br_f (nI_ge (b := 8) hi (by decide))
      (cy_there H.1 a (nI i) (cy_there H.1 b (nI i) (br_c (fun e1 =>
        cy_nameOf H a (nI i) (cy_nameOf H b (nI i) (br_c (fun e2 =>
          cy_countOf H a (nI i) (cy_countOf H b (nI i) (br_c (fun e3 =>
            cy_linkOf H a (nI i) (cy_linkOf H b (nI i) (br_c (fun e4 => nm_r (nI_1 i) (ih () (lt_s h ⟨e1, e2, e3, e4⟩)))
              (fun e4 => h0 (fun z => e4 (z i hi).2.2.2)))))
            (fun e3 => h0 (fun z => e3 (z i hi).2.2.1)))))
          (fun e2 => h0 (fun z => e2 (z i hi).2.1)))))
        (fun e1 => h0 (fun z => e1 (z i hi).1))))))
end
end
section
/-! the writers: an action -/
section
variable {c : Nat} {kn ro va re st : Nat → Int32} {ca ne kw : Nat → Int64} {ss : Nat → Int32}
theorem cx_act72 {post : Int32 → SX → Prop} {a : Nat} (hc : c < 60) (ha : a < 3) (x : Int64) (hp : post (nI c) (nI (c + 1), kn, ro, va, re, upd st c (upd ss a (ss a + 1) a), vp_updL ca c x, vp_updL kw a (kw a ||| ((1 : Int64) <<< ((nI c).toInt64 &&& 63))), upd ss a (ss a + 1))) : wX_act_72 post (nI a) (nI c) x (nI c) (nI c) kn ro va re st ca kw ss := by
  have v : vp_in (nI c) 60 := vp_in_nI hc (by decide)
  have v3 : vp_in (nI a) 3 := vp_in_nI ha (by decide)
  exact ⟨v, nm_r (e' := vp_updL ca c x) (by rw [cz_cl hc]) ⟨v3, v3, nm_r (e' := upd ss a (ss a + 1)) (by rw [cz_cl3 ha]) ⟨v3, v, nm_r (e' := upd st c (upd ss a (ss a + 1) a)) (by rw [cz_cl hc, cz_cl3 ha]) ⟨v3, v3, nm_r (e' := vp_updL kw a (kw a ||| ((1 : Int64) <<< ((nI c).toInt64 &&& 63)))) (by rw [cz_cl3 ha]) (nm_r (nI_1 c) hp)⟩⟩⟩⟩
theorem cx_act {post : Int32 → SX → Prop} {a : Nat} (H : cz_Inv c kn ro ca ne kw) (ha : a < 3) (k row val : Int32) (hF : ¬ c < 60 → post (-3) (nI c, kn, ro, va, re, st, ca, kw, ss)) (hA : c < 60 → ∀ x : Int64, (k = 1 → x = cz_fo (cz_fold (kw a) (upd kn c k) (upd ro c row) 0 row (fun i (s : Int64) => s ||| ((1 : Int64) <<< ((nI i).toInt64 &&& 63)))) 60 0) → post (nI c) (nI (c + 1), upd kn c k, upd ro c row, upd va c val, upd re c (nI a), upd st c (upd ss a (ss a + 1) a), vp_updL ca c x, vp_updL kw a (kw a ||| ((1 : Int64) <<< ((nI c).toInt64 &&& 63))), upd ss a (ss a + 1))) : wpX_act post (nI c, kn, ro, va, re, st, ca, kw, ss) (nI a) k row val := by
  by_cases hc : c < 60
  · have v : vp_in (nI c) 60 := vp_in_nI hc (by decide)
    refine br_t (nI_lt (b := 60) hc (by decide)) ⟨v, nm_r (e' := upd kn c k) (by rw [cz_cl hc]) ⟨v, nm_r (e' := upd ro c row) (by rw [cz_cl hc]) ⟨v, nm_r (e' := upd va c val) (by rw [cz_cl hc]) ⟨v, nm_r (e' := upd re c (nI a)) (by rw [cz_cl hc]) (br_c (fun k1 => cx_adds ha row (cx_act72 hc ha _ (hA hc _ (fun _ => rfl)))) (fun k1 => cx_act72 hc ha _ (hA hc _ (fun z => absurd z k1))))⟩⟩⟩⟩
  · exact br_f (nI_nlt (b := 60) (by omega) (by have := H.1; omega)) (hF hc)
theorem cy_act57 {post : Int32 → SY → Prop} {a : Nat} (h6 : c ≤ 60) (ha : a < 3) (k row val : Int32) (hF : ¬ c < 60 → post (-3) (nI c, kn, ro, va, st, re, ne, kw, ss)) (hA : c < 60 → post (nI c) (nI (c + 1), upd kn c k, upd ro c row, upd va c val, upd st c (upd ss a (ss a + 1) a), upd re c (nI a), vp_updL ne c (kw a), vp_updL kw a (kw a ||| ((1 : Int64) <<< ((nI c).toInt64 &&& 63))), upd ss a (ss a + 1))) : wY_act_57 post (nI a) k row val (nI c) kn ro va st re ne kw ss := by
  by_cases hc : c < 60
  · have v : vp_in (nI c) 60 := vp_in_nI hc (by decide)
    have v3 : vp_in (nI a) 3 := vp_in_nI ha (by decide)
    have n6 : ¬ nI c = 60 := fun z => by
      have := (nI_eq (a := c) (b := 60) (by omega) (by decide)).mp z
      omega
    exact br_f n6 ⟨v, nm_r (e' := upd kn c k) (by rw [cz_cl hc]) ⟨v, nm_r (e' := upd ro c row) (by rw [cz_cl hc]) ⟨v, nm_r (e' := upd va c val) (by rw [cz_cl hc]) ⟨v, nm_r (e' := upd re c (nI a)) (by rw [cz_cl hc]) ⟨v3, v, nm_r (e' := vp_updL ne c (kw a)) (by rw [cz_cl hc, cz_cl3 ha]) ⟨v3, v3, nm_r (e' := upd ss a (ss a + 1)) (by rw [cz_cl3 ha]) ⟨v3, v, nm_r (e' := upd st c (upd ss a (ss a + 1) a)) (by rw [cz_cl hc, cz_cl3 ha]) ⟨v3, v3, nm_r (e' := vp_updL kw a (kw a ||| ((1 : Int64) <<< ((nI c).toInt64 &&& 63)))) (by rw [cz_cl3 ha]) (nm_r (nI_1 c) (hA hc))⟩⟩⟩⟩⟩⟩⟩⟩
  · have e : c = 60 := by omega
    exact br_t (by rw [e]; rfl) (hF hc)
theorem cy_act41 {post : Int32 → SY → Prop} {a : Nat} {row : Int32} (h6 : c ≤ 60) (ha : a < 3) (k val : Int32) (hT : ¬ k = 0 → cz_tv c kn ro ne kw (nI a) row = 0 → post (-4) (nI c, kn, ro, va, st, re, ne, kw, ss)) (hF : ¬ c < 60 → (k = 0 ∨ ¬ cz_tv c kn ro ne kw (nI a) row = 0) → post (-3) (nI c, kn, ro, va, st, re, ne, kw, ss)) (hA : c < 60 → (k = 0 ∨ ¬ cz_tv c kn ro ne kw (nI a) row = 0) → post (nI c) (nI (c + 1), upd kn c k, upd ro c row, upd va c val, upd st c (upd ss a (ss a + 1) a), upd re c (nI a), vp_updL ne c (kw a), vp_updL kw a (kw a ||| ((1 : Int64) <<< ((nI c).toInt64 &&& 63))), upd ss a (ss a + 1))) : wY_act_41 post (nI a) k row val (nI c) kn ro va st re ne kw ss :=
  br_c (fun k0 => cy_act57 h6 ha k row val (fun z => hF z (Or.inl k0)) (fun z => hA z (Or.inl k0))) (fun k0 => cy_there h6 (nI a) row (br_c (fun t => hT k0 t) (fun t => cy_act57 h6 ha k row val (fun z => hF z (Or.inr t)) (fun z => hA z (Or.inr t)))))
theorem cy_act_rep {post : Int32 → SY → Prop} {r k row val : Int32} (hb : cz_bad 3 r) (h : post (-1) (nI c, kn, ro, va, st, re, ne, kw, ss)) : wpY_act post (nI c, kn, ro, va, st, re, ne, kw, ss) r k row val := by
  unfold wpY_act
  exact cy_rep_f hb (br_f (by decide) h)
theorem cy_act_row {post : Int32 → SY → Prop} {a : Nat} {k row val : Int32} (ha : a < 3) (hb : cz_bad 8 row) (h : post (-2) (nI c, kn, ro, va, st, re, ne, kw, ss)) : wpY_act post (nI c, kn, ro, va, st, re, ne, kw, ss) (nI a) k row val := by
  unfold wpY_act
  exact cy_rep_t ha (br_t rfl (cy_row_f hb (br_f (by decide) h)))
theorem cy_act_to {post : Int32 → SY → Prop} {a : Nat} {row val : Int32} (ha : a < 3) (hv : ¬ val = -1) (hb : cz_bad 8 val) (h : post (-2) (nI c, kn, ro, va, st, re, ne, kw, ss)) : wpY_act post (nI c, kn, ro, va, st, re, ne, kw, ss) (nI a) 4 row val := by
  rcases cz_ix row (n := 8) (by decide) with hr | ⟨q, hq, rfl⟩
  · exact cy_act_row ha hr h
  · unfold wpY_act
    exact cy_rep_t ha (br_t rfl (cy_row_t hq (br_t rfl (br_t rfl (br_f hv (cy_row_f hb (br_f (by decide) h)))))))
theorem cy_act_go {post : Int32 → SY → Prop} {a q : Nat} {k val : Int32} (ha : a < 3) (hq : q < 8) (hv : k = 4 → val = -1 ∨ ∃ t, t < 8 ∧ val = nI t) (h : wY_act_41 post (nI a) k (nI q) val (nI c) kn ro va st re ne kw ss) : wpY_act post (nI c, kn, ro, va, st, re, ne, kw, ss) (nI a) k (nI q) val := by
  unfold wpY_act
  refine cy_rep_t ha (br_t rfl (cy_row_t hq (br_t rfl (br_c (fun k4 => br_c (fun _ => h) (fun n1 => ?_)) (fun _ => h)))))
  obtain ⟨t, ht, e⟩ := (hv k4).resolve_left n1
  rw [e] at h ⊢
  exact cy_row_t ht (br_t rfl h)
end
/-- both sides hold the same actions, known sets and stamps; a DROP's cancelled ADDs are those of its row in what the replica knew -/
def i_Rel (_ : Nat) (u : SX) (v : SY) : Prop := ∃ (c : Nat) (kn ro va re st : Nat → Int32) (ca ne kw : Nat → Int64) (ss : Nat → Int32), u = (nI c, kn, ro, va, re, st, ca, kw, ss) ∧ v = (nI c, kn, ro, va, st, re, ne, kw, ss) ∧ cz_Inv c kn ro ca ne kw
section
variable {c : Nat} {kn ro va re st : Nat → Int32} {ca ne kw : Nat → Int64} {ss : Nat → Int32}
theorem cz_rel (kk : Nat) (H : cz_Inv c kn ro ca ne kw) : i_Rel kk (nI c, kn, ro, va, re, st, ca, kw, ss) (nI c, kn, ro, va, st, re, ne, kw, ss) := ⟨c, kn, ro, va, re, st, ca, ne, kw, ss, rfl, rfl, H⟩
theorem cz_rel_act (kk : Nat) {a : Nat} (H : cz_Inv c kn ro ca ne kw) (hc : c < 60) (ha : a < 3) (k row val : Int32) (x : Int64) (hx : k = 1 → x = cz_fo (cz_fold (kw a) (upd kn c k) (upd ro c row) 0 row (fun i (s : Int64) => s ||| ((1 : Int64) <<< ((nI i).toInt64 &&& 63)))) 60 0) : i_Rel kk (nI (c + 1), upd kn c k, upd ro c row, upd va c val, upd re c (nI a), upd st c (upd ss a (ss a + 1) a), vp_updL ca c x, vp_updL kw a (kw a ||| ((1 : Int64) <<< ((nI c).toInt64 &&& 63))), upd ss a (ss a + 1)) (nI (c + 1), upd kn c k, upd ro c row, upd va c val, upd st c (upd ss a (ss a + 1) a), upd re c (nI a), vp_updL ne c (kw a), vp_updL kw a (kw a ||| ((1 : Int64) <<< ((nI c).toInt64 &&& 63))), upd ss a (ss a + 1)) := by
  refine cz_rel kk (cz_Inv_act H hc ha k row x (fun k1 j hj => ?_))
  rw [hx k1, cz_adds _ _ _ 0 row 60 (by omega) j]
  exact ⟨fun z => z.2, fun z => ⟨hj, z⟩⟩
theorem cz_ART (kk : Nat) (H : cz_Inv c kn ro ca ne kw) (r k row val : Int32) (hk : ¬ k = 0) (hv : k = 4 → val = -1 ∨ ∃ t, t < 8 ∧ val = nI t) (W : (Int32 → SY → Prop) → Prop) (hW : ∀ post, wpY_act post (nI c, kn, ro, va, st, re, ne, kw, ss) r k row val → W post) : wpX_actOnRowThere (fun r' u' => W (fun r'' v' => r'' = r' ∧ i_Rel kk u' v')) (nI c, kn, ro, va, re, st, ca, kw, ss) r k row val := by
  unfold wpX_actOnRowThere
  have hr := cz_rel (va := va) (re := re) (st := st) (ss := ss) kk H
  rcases cz_ix r (n := 3) (by decide) with hb | ⟨a, ha, rfl⟩
  · exact cx_rep_f hb (br_t rfl (hW _ (cy_act_rep hb ⟨rfl, hr⟩)))
  · refine cx_rep_t ha (br_f (by decide) ?_)
    rcases cz_ix row (n := 8) (by decide) with hb | ⟨q, hq, rfl⟩
    · exact cx_row_f hb (br_t rfl (hW _ (cy_act_row ha hb ⟨rfl, hr⟩)))
    · refine cx_row_t hq (br_f (by decide) (cx_there H (nI a) (nI q) (br_c (fun t => ?_) (fun t => ?_))))
      · exact hW _ (cy_act_go ha hq hv (cy_act41 H.1 ha k val (fun _ _ => ⟨rfl, hr⟩) (fun _ z => absurd t (z.resolve_left hk)) (fun _ z => absurd t (z.resolve_left hk))))
      · refine cx_act H ha k (nI q) val (fun hc => ?_) (fun hc x hx => ?_)
        · exact hW _ (cy_act_go ha hq hv (cy_act41 H.1 ha k val (fun _ z => absurd z t) (fun _ _ => ⟨rfl, hr⟩) (fun z => absurd z hc)))
        · exact hW _ (cy_act_go ha hq hv (cy_act41 H.1 ha k val (fun _ z => absurd z t) (fun z => absurd hc z) (fun _ _ => ⟨rfl, cz_rel_act kk H hc ha k (nI q) val x hx⟩)))
theorem cz_ADD (kk : Nat) (H : cz_Inv c kn ro ca ne kw) (r row : Int32) (W : (Int32 → SY → Prop) → Prop) (hW : ∀ post, wpY_act post (nI c, kn, ro, va, st, re, ne, kw, ss) r 0 row 0 → W post) : wpX_add (fun r' u' => W (fun r'' v' => r'' = r' ∧ i_Rel kk u' v')) (nI c, kn, ro, va, re, st, ca, kw, ss) r row := by
  unfold wpX_add
  have hr := cz_rel (va := va) (re := re) (st := st) (ss := ss) kk H
  rcases cz_ix r (n := 3) (by decide) with hb | ⟨a, ha, rfl⟩
  · exact cx_rep_f hb (br_t rfl (hW _ (cy_act_rep hb ⟨rfl, hr⟩)))
  · refine cx_rep_t ha (br_f (by decide) ?_)
    rcases cz_ix row (n := 8) (by decide) with hb | ⟨q, hq, rfl⟩
    · exact cx_row_f hb (br_t rfl (hW _ (cy_act_row ha hb ⟨rfl, hr⟩)))
    · refine cx_row_t hq (br_f (by decide) (cx_act H ha 0 (nI q) 0 (fun hc => ?_) (fun hc x hx => ?_)))
      · exact hW _ (cy_act_go ha hq (fun z => absurd z (by decide)) (cy_act41 H.1 ha 0 0 (fun z => absurd rfl z) (fun _ _ => ⟨rfl, hr⟩) (fun z => absurd z hc)))
      · exact hW _ (cy_act_go ha hq (fun z => absurd z (by decide)) (cy_act41 H.1 ha 0 0 (fun z => absurd rfl z) (fun z => absurd hc z) (fun _ _ => ⟨rfl, cz_rel_act kk H hc ha 0 (nI q) 0 x hx⟩)))
theorem cz_LINK (kk : Nat) (H : cz_Inv c kn ro ca ne kw) (r row val : Int32) (W : (Int32 → SY → Prop) → Prop) (hW : ∀ post, wpY_act post (nI c, kn, ro, va, st, re, ne, kw, ss) r 4 row val → W post) : wpX_link (fun r' u' => W (fun r'' v' => r'' = r' ∧ i_Rel kk u' v')) (nI c, kn, ro, va, re, st, ca, kw, ss) r row val := by
  unfold wpX_link
  have hr := cz_rel (va := va) (re := re) (st := st) (ss := ss) kk H
  rcases cz_ix r (n := 3) (by decide) with hb | ⟨a, ha, rfl⟩
  · exact cx_rep_f hb (br_t rfl (hW _ (cy_act_rep hb ⟨rfl, hr⟩)))
  · refine cx_rep_t ha (br_f (by decide) (br_c (fun e => ?_) (fun e => ?_)))
    · exact cz_ART kk H (nI a) 4 row val (by decide) (fun _ => Or.inl e) W hW
    · rcases cz_ix val (n := 8) (by decide) with hb | ⟨t, ht, et⟩
      · exact cx_row_f hb (br_t rfl (hW _ (cy_act_to ha e hb ⟨rfl, hr⟩)))
      · rw [et] at hW ⊢
        exact cx_row_t ht (br_f (by decide) (cz_ART kk H (nI a) 4 row (nI t) (by decide) (fun _ => Or.inr ⟨t, ht, rfl⟩) W hW))
end
end
section
/-! the writers: learning -/
section
variable {c : Nat} {kn ro va re st : Nat → Int32} {ca ne kw : Nat → Int64} {ss : Nat → Int32}
theorem cx_learnA {post : SX → Prop} {f : Int32} {a i : Nat} (ha : a < 3) (hi : i < 60) (hp : post (f, kn, ro, va, re, st, ca, vp_updL kw a (kw a ||| ((1 : Int64) <<< ((nI i).toInt64 &&& 63))), if ss a < st i then upd ss a (st i) else ss)) : wpX_learnAction post (f, kn, ro, va, re, st, ca, kw, ss) (nI a) (nI i) := by
  have v3 : vp_in (nI a) 3 := vp_in_nI ha (by decide)
  have vi : vp_in (nI i) 60 := vp_in_nI hi (by decide)
  refine ⟨v3, v3, nm_r (e' := vp_updL kw a (kw a ||| ((1 : Int64) <<< ((nI i).toInt64 &&& 63)))) (by rw [cz_cl3 ha]) ⟨v3, vi, ?_⟩⟩
  rw [cz_cl3 ha, cz_cl hi]
  refine br_c (fun z => ?_) (fun z => ⟨vi, v3, nm_e ?_⟩)
  · rw [if_neg (Int32.not_lt.mpr z)] at hp; exact hp
  · rw [if_pos (Int32.not_le.mp z)] at hp; exact hp
theorem cz_lf_t {a b i : Nat} {m : Int32} {s : (Nat → Int64) × (Nat → Int32) × Int32} (h1 : s.2.2 < m) (h2 : cz_b (s.1 b) i = true) (h3 : cz_b (s.1 a) i = false) : cz_lf st a b m i s = (vp_updL s.1 a (s.1 a ||| ((1 : Int64) <<< ((nI i).toInt64 &&& 63))), (if s.2.1 a < st i then upd s.2.1 a (st i) else s.2.1), s.2.2 + 1) := if_pos ⟨h1, h2, h3⟩
theorem cz_lf_f {a b i : Nat} {m : Int32} {s : (Nat → Int64) × (Nat → Int32) × Int32} (h : ¬ (s.2.2 < m ∧ cz_b (s.1 b) i = true ∧ cz_b (s.1 a) i = false)) : cz_lf st a b m i s = s := if_neg h
theorem cx_learn0 {post : Int32 → SX → Prop} {a b : Nat} (ha : a < 3) (hb : b < 3) (m : Int32) (hp : post (cz_fo (cz_lf st a b m) 60 (kw, ss, 0)).2.2 (nI c, kn, ro, va, re, st, ca, (cz_fo (cz_lf st a b m) 60 (kw, ss, 0)).1, (cz_fo (cz_lf st a b m) 60 (kw, ss, 0)).2.1)) : ∃ n, wX_learnAtMost_30 post (nI a) (nI b) m n 0 0 (nI c) kn ro va re st ca kw ss :=
  loop_0 (fun n i (s : (Nat → Int64) × (Nat → Int32) × Int32) => wX_learnAtMost_30 post (nI a) (nI b) m n s.2.2 (nI i) (nI c) kn ro va re st ca s.1 s.2.1) (fun i s => s = cz_fo (cz_lf st a b m) i (kw, ss, 0)) 60 (kw, ss, 0) rfl
    (fun n s h => by subst h; exact br_t (nI_le (Nat.le_refl 60) (by decide)) hp)
    (fun n i s hi h ih => by
      have hn : cz_lf st a b m i s = cz_fo (cz_lf st a b m) (i + 1) (kw, ss, 0) := by subst h; rfl
      refine br_f (nI_ge (b := 60) hi (by decide)) (br_c (fun le => ?_) (fun nle => ?_))
      · subst h
        rw [cz_lf_stop st a b m (kw, ss, 0) (by omega) (Int32.not_lt.mpr le)] at hp
        exact hp
      · have lt := Int32.not_le.mp nle
        refine cx_isK hb hi (fun kb => br_f (by decide) (cx_isK ha hi (fun ka => br_f (by decide) (nm_r (nI_1 i) (ih s ?_))) (fun ka => br_t rfl (cx_learnA ha hi (nm_e (nm_r (nI_1 i) (ih (_, _, _) ?_))))))) (fun kb => br_t rfl (nm_r (nI_1 i) (ih s ?_)))
        · rw [← hn]
          exact (cz_lf_f (fun z => by rw [ka] at z; cases z.2.2)).symm
        · rw [← hn]
          exact (cz_lf_t lt kb ka).symm
        · rw [← hn]
          exact (cz_lf_f (fun z => by rw [kb] at z; cases z.2.1)).symm)
theorem cy_learn0 {post : Int32 → SY → Prop} {a b : Nat} (hc : c ≤ 60) (ha : a < 3) (hb : b < 3) (m : Int32) (hp : post (cz_fo (cz_lf st a b m) c (kw, ss, 0)).2.2 (nI c, kn, ro, va, st, re, ne, (cz_fo (cz_lf st a b m) c (kw, ss, 0)).1, (cz_fo (cz_lf st a b m) c (kw, ss, 0)).2.1)) : ∃ n, wY_learnSome_32 post (nI a) (nI b) m (nI c) n 0 0 kn ro va st re ne kw ss :=
  loop_0 (fun n i (s : (Nat → Int64) × (Nat → Int32) × Int32) => wY_learnSome_32 post (nI a) (nI b) m (nI c) n s.2.2 (nI i) kn ro va st re ne s.1 s.2.1) (fun i s => s = cz_fo (cz_lf st a b m) i (kw, ss, 0)) c (kw, ss, 0) rfl
    (fun n s h => by subst h; exact br_t (nI_le (Nat.le_refl c) (by omega)) hp)
    (fun n i s hi h ih => by
      have hn : cz_lf st a b m i s = cz_fo (cz_lf st a b m) (i + 1) (kw, ss, 0) := by subst h; rfl
      clear h hp
      have h6 : i < 60 := by omega
      have vi : vp_in (nI i) 60 := vp_in_nI h6 (by decide)
      have v3 : vp_in (nI a) 3 := vp_in_nI ha (by decide)
      have vb : vp_in (nI b) 3 := vp_in_nI hb (by decide)
      refine br_f (nI_ge hi (by omega)) (br_c (fun le => nm_r (nI_1 i) (ih s ?_)) (fun nle => ⟨vb, cy_in h6 (fun kb => br_f (by decide) ⟨v3, cy_in h6 (fun ka => br_f (by decide) (nm_r (nI_1 i) (ih s ?_))) (fun ka => br_t rfl ⟨v3, v3, ?_⟩)⟩) (fun kb => br_t rfl (nm_r (nI_1 i) (ih s ?_)))⟩))
      · rw [← hn]
        exact (cz_lf_f (fun z => Int32.not_lt.mpr le z.1)).symm
      · rw [cz_cl3 ha] at ka
        rw [← hn]
        exact (cz_lf_f (fun z => by rw [ka] at z; cases z.2.2)).symm
      · have lt := Int32.not_le.mp nle
        rw [cz_cl3 ha] at ka
        rw [cz_cl3 hb] at kb
        have ht := cz_lf_t (st := st) lt kb ka
        rw [hn] at ht
        refine nm_r (e' := vp_updL s.1 a (s.1 a ||| ((1 : Int64) <<< ((nI i).toInt64 &&& 63)))) (by rw [cz_cl3 ha]) ⟨vi, v3, br_c (fun z => nm_e (nm_r (nI_1 i) (ih (_, _, _) ?_))) (fun z => ⟨vi, v3, nm_r (e' := upd s.2.1 a (st i)) (by rw [cz_cl3 ha, cz_cl h6]) (nm_e (nm_r (nI_1 i) (ih (_, _, _) ?_)))⟩)⟩
        · rw [cz_cl3 ha, cz_cl h6] at z
          rw [if_neg (Int32.not_lt.mpr z)] at ht
          exact ht.symm
        · rw [cz_cl3 ha, cz_cl h6] at z
          rw [if_pos (Int32.not_le.mp z)] at ht
          exact ht.symm
      · rw [cz_cl3 hb] at kb
        rw [← hn]
        exact (cz_lf_f (fun z => by rw [kb] at z; cases z.2.1)).symm)
theorem cy_learnS {post : Int32 → SY → Prop} (to fr m : Int32) (h1 : cz_bad 3 to ∨ cz_bad 3 fr → post (-1) (nI c, kn, ro, va, st, re, ne, kw, ss)) (h2 : ∀ a, a < 3 → to = nI a → fr = nI a → post (-5) (nI c, kn, ro, va, st, re, ne, kw, ss)) (hc : c ≤ 60) (h3 : ∀ a b, a < 3 → b < 3 → to = nI a → fr = nI b → ¬ a = b → post (cz_fo (cz_lf st a b m) c (kw, ss, 0)).2.2 (nI c, kn, ro, va, st, re, ne, (cz_fo (cz_lf st a b m) c (kw, ss, 0)).1, (cz_fo (cz_lf st a b m) c (kw, ss, 0)).2.1)) : wpY_learnSome post (nI c, kn, ro, va, st, re, ne, kw, ss) to fr m := by
  unfold wpY_learnSome
  rcases cz_ix to (n := 3) (by decide) with hb | ⟨a, ha, rfl⟩
  · exact cy_rep_f hb (br_f (by decide) (h1 (Or.inl hb)))
  · refine cy_rep_t ha (br_t rfl ?_)
    rcases cz_ix fr (n := 3) (by decide) with hb | ⟨b, hb, rfl⟩
    · exact cy_rep_f hb (br_f (by decide) (h1 (Or.inr hb)))
    · refine cy_rep_t hb (br_t rfl (br_c (fun e => h2 a ha rfl e.symm) (fun e => cy_learn0 hc ha hb m (h3 a b ha hb rfl rfl (fun z => e (by rw [z]))))))
theorem cz_LEARN (kk : Nat) (H : cz_Inv c kn ro ca ne kw) (to fr m : Int32) (W : (Int32 → SY → Prop) → Prop) (hW : ∀ post, wpY_learnSome post (nI c, kn, ro, va, st, re, ne, kw, ss) to fr m → W post) : wpX_learnAtMost (fun r' u' => W (fun r'' v' => r'' = r' ∧ i_Rel kk u' v')) (nI c, kn, ro, va, re, st, ca, kw, ss) to fr m := by
  unfold wpX_learnAtMost
  have hr := cz_rel (va := va) (re := re) (st := st) (ss := ss) kk H
  rcases cz_ix to (n := 3) (by decide) with hb | ⟨a, ha, rfl⟩
  · exact cx_rep_f hb (br_t rfl (hW _ (cy_learnS _ _ _ (fun _ => ⟨rfl, hr⟩) (fun a ha e => absurd e (cz_bad_ne (by decide) hb ha)) H.1 (fun a b ha _ e => absurd e (cz_bad_ne (by decide) hb ha)))))
  · refine cx_rep_t ha (br_f (by decide) ?_)
    rcases cz_ix fr (n := 3) (by decide) with hb | ⟨b, hb, rfl⟩
    · exact cx_rep_f hb (br_t rfl (hW _ (cy_learnS _ _ _ (fun _ => ⟨rfl, hr⟩) (fun a ha _ e => absurd e (cz_bad_ne (by decide) hb ha)) H.1 (fun a b _ hb' _ e => absurd e (cz_bad_ne (by decide) hb hb')))))
    · have n1 : ¬ (cz_bad 3 (nI a) ∨ cz_bad 3 (nI b)) := by
        rintro (z | z)
        · exact cz_bad_ne (by decide) z ha rfl
        · exact cz_bad_ne (by decide) z hb rfl
      have ij : ∀ {p q : Nat}, p < 3 → q < 3 → nI p = nI q → p = q := fun hp hq e => (nI_eq (by omega) (by omega)).mp e
      refine cx_rep_t hb (br_f (by decide) (br_c (fun e => ?_) (fun e => ?_)))
      · have e := ij ha hb e
        subst e
        exact hW _ (cy_learnS _ _ _ (fun z => absurd z n1) (fun _ _ _ _ => ⟨rfl, hr⟩) H.1 (fun p q hp hq ep eq ne => absurd ((ij ha hp ep).symm.trans (ij ha hq eq)) ne))
      · refine cx_learn0 ha hb m ?_
        rw [cz_lf_end H a hb m]
        refine hW _ (cy_learnS _ _ _ (fun z => absurd z n1) (fun p hp ep eq => absurd (ep.trans eq.symm) e) H.1 (fun p q hp hq ep eq _ => ?_))
        have ep := ij ha hp ep
        have eq := ij hb hq eq
        subst ep
        subst eq
        exact ⟨rfl, cz_rel kk (cz_lf_inv H a b m c (Nat.le_refl c))⟩
end
end
section
/-! what is owed -/
theorem i_up {k : Nat} {u : SX} {v : SY} (h : i_Rel k u v) : i_Rel (k + 4) u v := h
theorem i_vc0 : wpX_init (fun u => wpY_init (fun v => i_Rel 0 u v)) := by
  refine ⟨0, fun _ => 0, fun _ => 0, fun _ => 0, fun _ => 0, fun _ => 0, fun _ => 0, fun _ => 0, fun _ => 0, fun _ => 0, rfl, rfl, by omega, ?_, ?_, ?_⟩
  · intro r _ j _; exact cz_0 j
  · intro a ha; omega
  · intro a ha; omega
theorem i_vc_add {k : Nat} {u : SX} {v : SY} (I : i_Rel k u v) (hk : k + 4 ≤ 2048) (v1 : Int32) (v2 : Int32) : wpX_add (fun r u' => wpY_add (fun r' v' => r' = r ∧ i_Rel (k + 4) u' v') v v1 v2) u v1 v2 := by
  obtain ⟨c, kn, ro, va, re, st, ca, ne, kw, ss, rfl, rfl, H⟩ := I
  exact cz_ADD (k + 4) H v1 v2 (fun post => wpY_add post (nI c, kn, ro, va, st, re, ne, kw, ss) v1 v2) (fun post h => h)
theorem i_vc_drop {k : Nat} {u : SX} {v : SY} (I : i_Rel k u v) (hk : k + 4 ≤ 2048) (v1 : Int32) (v2 : Int32) : wpX_drop (fun r u' => wpY_drop (fun r' v' => r' = r ∧ i_Rel (k + 4) u' v') v v1 v2) u v1 v2 := by
  obtain ⟨c, kn, ro, va, re, st, ca, ne, kw, ss, rfl, rfl, H⟩ := I
  exact cz_ART (k + 4) H v1 1 v2 0 (by decide) (fun z => absurd z (by decide)) (fun post => wpY_drop post (nI c, kn, ro, va, st, re, ne, kw, ss) v1 v2) (fun post h => h)
theorem i_vc_name {k : Nat} {u : SX} {v : SY} (I : i_Rel k u v) (hk : k + 4 ≤ 2048) (v1 : Int32) (v2 : Int32) (v3 : Int32) : wpX_name (fun r u' => wpY_name (fun r' v' => r' = r ∧ i_Rel (k + 4) u' v') v v1 v2 v3) u v1 v2 v3 := by
  obtain ⟨c, kn, ro, va, re, st, ca, ne, kw, ss, rfl, rfl, H⟩ := I
  exact cz_ART (k + 4) H v1 2 v2 v3 (by decide) (fun z => absurd z (by decide)) (fun post => wpY_name post (nI c, kn, ro, va, st, re, ne, kw, ss) v1 v2 v3) (fun post h => h)
theorem i_vc_count {k : Nat} {u : SX} {v : SY} (I : i_Rel k u v) (hk : k + 4 ≤ 2048) (v1 : Int32) (v2 : Int32) (v3 : Int32) : wpX_count (fun r u' => wpY_count (fun r' v' => r' = r ∧ i_Rel (k + 4) u' v') v v1 v2 v3) u v1 v2 v3 := by
  obtain ⟨c, kn, ro, va, re, st, ca, ne, kw, ss, rfl, rfl, H⟩ := I
  exact cz_ART (k + 4) H v1 3 v2 v3 (by decide) (fun z => absurd z (by decide)) (fun post => wpY_count post (nI c, kn, ro, va, st, re, ne, kw, ss) v1 v2 v3) (fun post h => h)
theorem i_vc_link {k : Nat} {u : SX} {v : SY} (I : i_Rel k u v) (hk : k + 4 ≤ 2048) (v1 : Int32) (v2 : Int32) (v3 : Int32) : wpX_link (fun r u' => wpY_link (fun r' v' => r' = r ∧ i_Rel (k + 4) u' v') v v1 v2 v3) u v1 v2 v3 := by
  obtain ⟨c, kn, ro, va, re, st, ca, ne, kw, ss, rfl, rfl, H⟩ := I
  exact cz_LINK (k + 4) H v1 v2 v3 (fun post => wpY_link post (nI c, kn, ro, va, st, re, ne, kw, ss) v1 v2 v3) (fun post h => h)
theorem i_vc_learn {k : Nat} {u : SX} {v : SY} (I : i_Rel k u v) (hk : k + 4 ≤ 2048) (v1 : Int32) (v2 : Int32) : wpX_learn (fun r u' => wpY_learn (fun r' v' => r' = r ∧ i_Rel (k + 4) u' v') v v1 v2) u v1 v2 := by
  obtain ⟨c, kn, ro, va, re, st, ca, ne, kw, ss, rfl, rfl, H⟩ := I
  exact cz_LEARN (k + 4) H v1 v2 60 (fun post => wpY_learn post (nI c, kn, ro, va, st, re, ne, kw, ss) v1 v2) (fun post h => h)
theorem i_vc_learnSome {k : Nat} {u : SX} {v : SY} (I : i_Rel k u v) (hk : k + 4 ≤ 2048) (v1 : Int32) (v2 : Int32) (v3 : Int32) : wpX_learnSome (fun r u' => wpY_learnSome (fun r' v' => r' = r ∧ i_Rel (k + 4) u' v') v v1 v2 v3) u v1 v2 v3 := by
  obtain ⟨c, kn, ro, va, re, st, ca, ne, kw, ss, rfl, rfl, H⟩ := I
  exact cz_LEARN (k + 4) H v1 v2 v3 (fun post => wpY_learnSome post (nI c, kn, ro, va, st, re, ne, kw, ss) v1 v2 v3) (fun post h => h)
theorem i_vc_there {k : Nat} {u : SX} {v : SY} (I : i_Rel k u v) (hk : k + 4 ≤ 2048) (v1 : Int32) (v2 : Int32) : wpX_there (fun r => wpY_there (fun r' => r' = r ∧ i_Rel (k + 4) u v) v v1 v2) u v1 v2 := by
  obtain ⟨c, kn, ro, va, re, st, ca, ne, kw, ss, rfl, rfl, H⟩ := I
  exact cx_there H v1 v2 (cy_there H.1 v1 v2 ⟨rfl, cz_rel _ H⟩)
theorem i_vc_nameOf {k : Nat} {u : SX} {v : SY} (I : i_Rel k u v) (hk : k + 4 ≤ 2048) (v1 : Int32) (v2 : Int32) : wpX_nameOf (fun r => wpY_nameOf (fun r' => r' = r ∧ i_Rel (k + 4) u v) v v1 v2) u v1 v2 := by
  obtain ⟨c, kn, ro, va, re, st, ca, ne, kw, ss, rfl, rfl, H⟩ := I
  exact cx_nameOf H v1 v2 (cy_nameOf H v1 v2 ⟨rfl, cz_rel _ H⟩)
theorem i_vc_countOf {k : Nat} {u : SX} {v : SY} (I : i_Rel k u v) (hk : k + 4 ≤ 2048) (v1 : Int32) (v2 : Int32) : wpX_countOf (fun r => wpY_countOf (fun r' => r' = r ∧ i_Rel (k + 4) u v) v v1 v2) u v1 v2 := by
  obtain ⟨c, kn, ro, va, re, st, ca, ne, kw, ss, rfl, rfl, H⟩ := I
  exact cx_countOf H v1 v2 (cy_countOf H v1 v2 ⟨rfl, cz_rel _ H⟩)
theorem i_vc_linkOf {k : Nat} {u : SX} {v : SY} (I : i_Rel k u v) (hk : k + 4 ≤ 2048) (v1 : Int32) (v2 : Int32) : wpX_linkOf (fun r => wpY_linkOf (fun r' => r' = r ∧ i_Rel (k + 4) u v) v v1 v2) u v1 v2 := by
  obtain ⟨c, kn, ro, va, re, st, ca, ne, kw, ss, rfl, rfl, H⟩ := I
  exact cx_linkOf H v1 v2 (cy_linkOf H v1 v2 ⟨rfl, cz_rel _ H⟩)
theorem i_vc_rows {k : Nat} {u : SX} {v : SY} (I : i_Rel k u v) (hk : k + 4 ≤ 2048) (v1 : Int32) : wpX_rows (fun r => wpY_rows (fun r' => r' = r ∧ i_Rel (k + 4) u v) v v1) u v1 := by
  obtain ⟨c, kn, ro, va, re, st, ca, ne, kw, ss, rfl, rfl, H⟩ := I
  unfold wpX_rows wpY_rows
  rcases cz_ix v1 (n := 3) (by decide) with hb | ⟨a, ha, rfl⟩
  · exact cx_rep_f hb (br_t rfl (cy_rep_f hb (br_f (by decide) ⟨rfl, cz_rel _ H⟩)))
  · exact cx_rep_t ha (br_f (by decide) (cx_rows0 H (nI a) (cy_rep_t ha (br_t rfl (cy_rows0 H (nI a) ⟨rfl, cz_rel _ H⟩)))))
theorem i_vc_sum {k : Nat} {u : SX} {v : SY} (I : i_Rel k u v) (hk : k + 4 ≤ 2048) (v1 : Int32) : wpX_sum (fun r => wpY_sum (fun r' => r' = r ∧ i_Rel (k + 4) u v) v v1) u v1 := by
  obtain ⟨c, kn, ro, va, re, st, ca, ne, kw, ss, rfl, rfl, H⟩ := I
  unfold wpX_sum wpY_sum
  rcases cz_ix v1 (n := 3) (by decide) with hb | ⟨a, ha, rfl⟩
  · exact cx_rep_f hb (br_t rfl (cy_rep_f hb (br_f (by decide) ⟨rfl, cz_rel _ H⟩)))
  · exact cx_rep_t ha (br_f (by decide) (cx_sum0 H (nI a) (cy_rep_t ha (br_t rfl (cy_sum0 H (nI a) ⟨rfl, cz_rel _ H⟩)))))
theorem i_vc_known {k : Nat} {u : SX} {v : SY} (I : i_Rel k u v) (hk : k + 4 ≤ 2048) (v1 : Int32) : wpX_known (fun r => wpY_known (fun r' => r' = r ∧ i_Rel (k + 4) u v) v v1) u v1 := by
  obtain ⟨c, kn, ro, va, re, st, ca, ne, kw, ss, rfl, rfl, H⟩ := I
  unfold wpX_known wpY_known
  rcases cz_ix v1 (n := 3) (by decide) with hb | ⟨a, ha, rfl⟩
  · exact cx_rep_f hb (br_t rfl (cy_rep_f hb (br_f (by decide) ⟨rfl, cz_rel _ H⟩)))
  · refine cx_rep_t ha (br_f (by decide) (cx_known0 ha ?_))
    rw [cz_kf_end ha H]
    exact cy_rep_t ha (br_t rfl (cy_known0 H.1 ha ⟨rfl, cz_rel _ H⟩))
theorem i_vc_agree {k : Nat} {u : SX} {v : SY} (I : i_Rel k u v) (hk : k + 4 ≤ 2048) (v1 : Int32) (v2 : Int32) : wpX_agree (fun r => wpY_agree (fun r' => r' = r ∧ i_Rel (k + 4) u v) v v1 v2) u v1 v2 := by
  obtain ⟨c, kn, ro, va, re, st, ca, ne, kw, ss, rfl, rfl, H⟩ := I
  unfold wpX_agree wpY_agree
  rcases cz_ix v1 (n := 3) (by decide) with hb | ⟨a, ha, rfl⟩
  · exact cx_rep_f hb (br_t rfl (cy_rep_f hb (br_f (by decide) ⟨rfl, cz_rel _ H⟩)))
  · refine cx_rep_t ha (br_f (by decide) ?_)
    rcases cz_ix v2 (n := 3) (by decide) with hb | ⟨b, hb, rfl⟩
    · exact cx_rep_f hb (br_t rfl (cy_rep_t ha (br_t rfl (cy_rep_f hb (br_f (by decide) ⟨rfl, cz_rel _ H⟩)))))
    · refine cx_rep_t hb (br_f (by decide) (cx_agree0 H (nI a) (nI b) (fun z => ?_) (fun z => ?_)))
      · exact cy_rep_t ha (br_t rfl (cy_rep_t hb (br_t rfl (cy_agree0 H (nI a) (nI b) (fun _ => ⟨rfl, cz_rel _ H⟩) (fun y => absurd z y)))))
      · exact cy_rep_t ha (br_t rfl (cy_rep_t hb (br_t rfl (cy_agree0 H (nI a) (nI b) (fun y => absurd y z) (fun _ => ⟨rfl, cz_rel _ H⟩)))))
end
