/-! the values that the readers answer -/
def cz_lat (st re : Nat → Int32) (i : Nat) (s : Int32) : Prop := st s.toNatClampNeg < st i ∨ (st i = st s.toNatClampNeg ∧ re s.toNatClampNeg < re i)
noncomputable def cz_lg (st re : Nat → Int32) (i : Nat) (s : Int32) : Int32 := @ite _ (s = -1 ∨ cz_lat st re i s) (Classical.propDecidable _) (nI i) s
noncomputable def cz_la (K : Int64) (kn ro st re : Nat → Int32) (k row : Int32) (e : Nat) : Int32 := cz_fo (cz_fold K kn ro k row (cz_lg st re)) e (-1)
theorem cz_la_rng (K : Int64) (kn ro st re : Nat → Int32) (k row : Int32) : ∀ e, e ≤ 60 → cz_la K kn ro st re k row e = -1 ∨ ∃ b, b < 60 ∧ cz_la K kn ro st re k row e = nI b := by
  intro e
  induction e with
  | zero => intro _; exact Or.inl rfl
  | succ e ih =>
    intro he
    have ih := ih (by omega)
    show cz_fold K kn ro k row (cz_lg st re) e (cz_la K kn ro st re k row e) = _ ∨ ∃ b, b < 60 ∧ cz_fold K kn ro k row (cz_lg st re) e (cz_la K kn ro st re k row e) = nI b
    by_cases p : cz_P K kn ro k row e
    · rw [cz_fold_t p]
      by_cases q : cz_la K kn ro st re k row e = -1 ∨ cz_lat st re e (cz_la K kn ro st re k row e)
      · exact Or.inr ⟨e, by omega, if_pos q⟩
      · rw [show cz_lg st re e (cz_la K kn ro st re k row e) = cz_la K kn ro st re k row e from if_neg q]; exact ih
    · rw [cz_fold_f p]; exact ih
def cz_T (c : Nat) (kn ro : Nat → Int32) (ne kw : Nat → Int64) (r row : Int32) : Prop := ∃ a, a < 3 ∧ r = nI a ∧ ∃ q, q < 8 ∧ row = nI q ∧ cz_th c kn ro ne (kw a) row
noncomputable def cz_tv (c : Nat) (kn ro : Nat → Int32) (ne kw : Nat → Int64) (r row : Int32) : Int32 := @ite _ (cz_T c kn ro ne kw r row) (Classical.propDecidable _) 1 0
theorem cz_tv_t {c : Nat} {kn ro : Nat → Int32} {ne kw : Nat → Int64} {r row : Int32} (h : cz_T c kn ro ne kw r row) : cz_tv c kn ro ne kw r row = 1 := if_pos h
theorem cz_tv_f {c : Nat} {kn ro : Nat → Int32} {ne kw : Nat → Int64} {r row : Int32} (h : ¬ cz_T c kn ro ne kw r row) : cz_tv c kn ro ne kw r row = 0 := if_neg h
theorem cz_tv_01 (c : Nat) (kn ro : Nat → Int32) (ne kw : Nat → Int64) (r row : Int32) : cz_tv c kn ro ne kw r row = 0 ∨ cz_tv c kn ro ne kw r row = 1 := by
  by_cases h : cz_T c kn ro ne kw r row
  · exact Or.inr (cz_tv_t h)
  · exact Or.inl (cz_tv_f h)
theorem cz_tv_n {c : Nat} {kn ro : Nat → Int32} {ne kw : Nat → Int64} {r row : Int32} (h : ¬ cz_tv c kn ro ne kw r row = 0) : ∃ a, a < 3 ∧ r = nI a ∧ ∃ q, q < 8 ∧ row = nI q := by
  by_cases z : cz_T c kn ro ne kw r row
  · obtain ⟨a, ha, ea, q, hq, eq, _⟩ := z
    exact ⟨a, ha, ea, q, hq, eq⟩
  · exact absurd (cz_tv_f z) h
noncomputable def cz_nv (c : Nat) (kn ro va st re : Nat → Int32) (ne kw : Nat → Int64) (r row : Int32) : Int32 :=
  if cz_tv c kn ro ne kw r row = 0 then 0 else if cz_la (kw r.toNatClampNeg) kn ro st re 2 row c = -1 then 0 else va (cz_la (kw r.toNatClampNeg) kn ro st re 2 row c).toNatClampNeg
noncomputable def cz_cv (c : Nat) (kn ro va : Nat → Int32) (ne kw : Nat → Int64) (r row : Int32) : Int32 :=
  if cz_tv c kn ro ne kw r row = 0 then 0 else cz_fo (cz_fold (kw r.toNatClampNeg) kn ro 3 row (fun i (s : Int32) => s + va i)) c 0
noncomputable def cz_lt0 (c : Nat) (kn ro va st re : Nat → Int32) (kw : Nat → Int64) (r row : Int32) : Int32 :=
  if cz_la (kw r.toNatClampNeg) kn ro st re 4 row c = -1 then -1 else va (cz_la (kw r.toNatClampNeg) kn ro st re 4 row c).toNatClampNeg
noncomputable def cz_lv (c : Nat) (kn ro va st re : Nat → Int32) (ne kw : Nat → Int64) (r row : Int32) : Int32 :=
  if cz_tv c kn ro ne kw r row = 0 then -1 else if cz_tv c kn ro ne kw r (cz_lt0 c kn ro va st re kw r row) = 0 then -1 else cz_lt0 c kn ro va st re kw r row
/-! learning -/
noncomputable def cz_lf (st : Nat → Int32) (to fr : Nat) (n : Int32) (i : Nat) (s : (Nat → Int64) × (Nat → Int32) × Int32) : (Nat → Int64) × (Nat → Int32) × Int32 :=
  if s.2.2 < n ∧ cz_b (s.1 fr) i = true ∧ cz_b (s.1 to) i = false then (vp_updL s.1 to (s.1 to ||| ((1 : Int64) <<< ((nI i).toInt64 &&& 63))), (if s.2.1 to < st i then upd s.2.1 to (st i) else s.2.1), s.2.2 + 1) else s
theorem cz_lf_inv {c : Nat} {kn ro st : Nat → Int32} {ca ne kw : Nat → Int64} {ss : Nat → Int32} (h : cz_Inv c kn ro ca ne kw) (to fr : Nat) (n : Int32) : ∀ e, e ≤ c → cz_Inv c kn ro ca ne (cz_fo (cz_lf st to fr n) e (kw, ss, 0)).1 := by
  intro e
  induction e with
  | zero => intro _; exact h
  | succ e ih =>
    intro he
    have ih := ih (by omega)
    show cz_Inv c kn ro ca ne (cz_lf st to fr n e (cz_fo (cz_lf st to fr n) e (kw, ss, 0))).1
    unfold cz_lf at ih ⊢
    split
    · exact cz_Inv_learn ih (by omega)
    · exact ih
theorem cz_lf_end {c : Nat} {kn ro st : Nat → Int32} {ca ne kw : Nat → Int64} {ss : Nat → Int32} (h : cz_Inv c kn ro ca ne kw) (to : Nat) {fr : Nat} (hf : fr < 3) (n : Int32) : cz_fo (cz_lf st to fr n) 60 (kw, ss, 0) = cz_fo (cz_lf st to fr n) c (kw, ss, 0) := by
  apply cz_fo_end _ _ h.1
  intro i hi _
  have hI := cz_lf_inv (st := st) (ss := ss) h to fr n c (Nat.le_refl _)
  apply if_neg
  rintro ⟨_, z, _⟩
  rw [hI.2.1 fr hf i hi] at z
  cases z
theorem cz_lf_stop (st : Nat → Int32) (to fr : Nat) (n : Int32) (s : (Nat → Int64) × (Nat → Int32) × Int32) {i : Nat} (hi : i ≤ 60) (h : ¬ (cz_fo (cz_lf st to fr n) i s).2.2 < n) : cz_fo (cz_lf st to fr n) 60 s = cz_fo (cz_lf st to fr n) i s := by
  apply cz_fo_end _ _ hi
  intro j _ _
  apply if_neg
  rintro ⟨z, _⟩
  exact h z
