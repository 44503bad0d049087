/-! the pure picture: presence, and what the relation holds -/
def cz_dr (c : Nat) (kn ro : Nat → Int32) (ne : Nat → Int64) (K : Int64) (row : Int32) (j : Nat) : Prop := ∃ a, a < c ∧ cz_b K a = true ∧ kn a = 1 ∧ ro a = row ∧ cz_b (ne a) j = true
def cz_th (c : Nat) (kn ro : Nat → Int32) (ne : Nat → Int64) (K : Int64) (row : Int32) : Prop := ∃ j, j < c ∧ cz_b K j = true ∧ kn j = 0 ∧ ro j = row ∧ ¬ cz_dr c kn ro ne K row j
def cz_Inv (c : Nat) (kn ro : Nat → Int32) (ca ne kw : Nat → Int64) : Prop :=
  c ≤ 60 ∧ (∀ r, r < 3 → ∀ j, c ≤ j → cz_b (kw r) j = false) ∧ (∀ a, a < c → ∀ j, c ≤ j → cz_b (ne a) j = false) ∧ (∀ a, a < c → kn a = 1 → ∀ j, j < 60 → (cz_b (ca a) j = true ↔ (cz_b (ne a) j = true ∧ kn j = 0 ∧ ro j = ro a)))
theorem cz_lt {K : Int64} {c j : Nat} (h : ∀ j, c ≤ j → cz_b K j = false) (hj : cz_b K j = true) : j < c := by
  apply Nat.lt_of_not_le
  intro z
  rw [h j z] at hj
  cases hj
theorem cz_th_iff {c : Nat} {kn ro : Nat → Int32} {ca ne kw : Nat → Int64} (h : cz_Inv c kn ro ca ne kw) {r : Nat} (hr : r < 3) (row : Int32) : cz_th 60 kn ro ca (kw r) row ↔ cz_th c kn ro ne (kw r) row := by
  obtain ⟨h1, h2, h3, h4⟩ := h
  constructor
  · rintro ⟨j, hj, kj, k0, rj, nd⟩
    exact ⟨j, cz_lt (h2 r hr) kj, kj, k0, rj, fun ⟨a, ha, ka, k1, ra, hb⟩ => nd ⟨a, by omega, ka, k1, ra, (h4 a ha k1 j hj).mpr ⟨hb, k0, rj.trans ra.symm⟩⟩⟩
  · rintro ⟨j, hj, kj, k0, rj, nd⟩
    refine ⟨j, by omega, kj, k0, rj, fun ⟨a, ha, ka, k1, ra, hb⟩ => ?_⟩
    have hac : a < c := cz_lt (h2 r hr) ka
    exact nd ⟨a, hac, ka, k1, ra, ((h4 a hac k1 j (by omega)).mp hb).1⟩
theorem cz_Inv_act {c : Nat} {kn ro : Nat → Int32} {ca ne kw : Nat → Int64} (h : cz_Inv c kn ro ca ne kw) (hc : c < 60) {r : Nat} (hr : r < 3) (k row : Int32) (x : Int64) (hx : k = 1 → ∀ j, j < 60 → (cz_b x j = true ↔ (cz_b (kw r) j = true ∧ upd kn c k j = 0 ∧ upd ro c row j = row))) : cz_Inv (c + 1) (upd kn c k) (upd ro c row) (vp_updL ca c x) (vp_updL ne c (kw r)) (vp_updL kw r (kw r ||| ((1 : Int64) <<< ((nI c).toInt64 &&& 63)))) := by
  obtain ⟨h1, h2, h3, h4⟩ := h
  refine ⟨hc, ?_, ?_, ?_⟩
  · intro q hq j hj
    by_cases e : q = r
    · subst e
      rw [cz_uLs, cz_or, h2 q hq j (by omega), cz_one (by omega)]
      simp; omega
    · rw [cz_uLn e]; exact h2 q hq j (by omega)
  · intro a ha j hj
    by_cases e : a = c
    · subst e
      rw [cz_uLs]; exact h2 r hr j (by omega)
    · rw [cz_uLn e]; exact h3 a (by omega) j (by omega)
  · intro a ha k1 j hj
    by_cases e : a = c
    · subst e
      rw [cz_us] at k1
      rw [cz_uLs, cz_uLs, cz_us]
      exact hx k1 j hj
    · rw [cz_un e] at k1
      rw [cz_uLn e, cz_uLn e, cz_un e, h4 a (by omega) k1 j hj]
      by_cases g : j = c
      · subst g
        rw [h3 a (by omega) j (Nat.le_refl _)]
        simp
      · rw [cz_un g, cz_un g]
theorem cz_Inv_learn {c : Nat} {kn ro : Nat → Int32} {ca ne kw : Nat → Int64} (h : cz_Inv c kn ro ca ne kw) {r i : Nat} (hi : i < c) : cz_Inv c kn ro ca ne (vp_updL kw r (kw r ||| ((1 : Int64) <<< ((nI i).toInt64 &&& 63)))) := by
  obtain ⟨h1, h2, h3, h4⟩ := h
  refine ⟨h1, ?_, h3, h4⟩
  intro q hq j hj
  by_cases e : q = r
  · subst e
    rw [cz_uLs, cz_or, h2 q hq j (by omega), cz_one (by omega)]
    simp; omega
  · rw [cz_uLn e]; exact h2 q hq j (by omega)
/-! the folds of the readers -/
def cz_P (K : Int64) (kn ro : Nat → Int32) (k row : Int32) (i : Nat) : Prop := cz_b K i = true ∧ kn i = k ∧ ro i = row
noncomputable def cz_fold {α : Type} (K : Int64) (kn ro : Nat → Int32) (k row : Int32) (g : Nat → α → α) (i : Nat) (s : α) : α := @ite _ (cz_P K kn ro k row i) (Classical.propDecidable _) (g i s) s
theorem cz_fold_t {α : Type} {K : Int64} {kn ro : Nat → Int32} {k row : Int32} {g : Nat → α → α} {i : Nat} {s : α} (h : cz_P K kn ro k row i) : cz_fold K kn ro k row g i s = g i s := if_pos h
theorem cz_fold_f {α : Type} {K : Int64} {kn ro : Nat → Int32} {k row : Int32} {g : Nat → α → α} {i : Nat} {s : α} (h : ¬ cz_P K kn ro k row i) : cz_fold K kn ro k row g i s = s := if_neg h
theorem cz_fold_end {α : Type} {K : Int64} {kn ro : Nat → Int32} {k row : Int32} {g : Nat → α → α} {c : Nat} {s : α} (hc : c ≤ 60) (hK : ∀ j, c ≤ j → cz_b K j = false) : cz_fo (cz_fold K kn ro k row g) 60 s = cz_fo (cz_fold K kn ro k row g) c s := by
  apply cz_fo_end _ _ hc
  intro i hi _
  apply cz_fold_f
  rintro ⟨z, _⟩
  rw [hK i hi] at z
  cases z
theorem cz_adds (K : Int64) (kn ro : Nat → Int32) (k row : Int32) : ∀ e, e ≤ 60 → ∀ j, cz_b (cz_fo (cz_fold K kn ro k row (fun i (s : Int64) => s ||| ((1 : Int64) <<< ((nI i).toInt64 &&& 63)))) e 0) j = true ↔ (j < e ∧ cz_P K kn ro k row j) := by
  intro e
  induction e with
  | zero =>
    intro _ j
    show cz_b 0 j = true ↔ _
    rw [cz_0]
    constructor
    · intro h; cases h
    · intro h; omega
  | succ e ih =>
    intro he j
    show cz_b (cz_fold K kn ro k row _ e (cz_fo _ e 0)) j = true ↔ _
    have ih := ih (by omega) j
    by_cases p : cz_P K kn ro k row e
    · rw [cz_fold_t p, cz_or, Bool.or_eq_true, ih, cz_one (by omega), decide_eq_true_iff]
      constructor
      · rintro (⟨a, b⟩ | a)
        · exact ⟨by omega, b⟩
        · subst a; exact ⟨by omega, p⟩
      · rintro ⟨a, b⟩
        by_cases z : e = j
        · exact Or.inr z
        · exact Or.inl ⟨by omega, b⟩
    · rw [cz_fold_f p, ih]
      constructor
      · rintro ⟨a, b⟩; exact ⟨by omega, b⟩
      · rintro ⟨a, b⟩
        refine ⟨?_, b⟩
        by_cases z : e = j
        · subst z; exact absurd b p
        · omega
theorem cz_cans (K : Int64) (kn ro : Nat → Int32) (ca : Nat → Int64) (k row : Int32) (j : Nat) : ∀ e, cz_b (cz_fo (cz_fold K kn ro k row (fun i (s : Int64) => s ||| ca i)) e 0) j = true ↔ ∃ a, a < e ∧ cz_P K kn ro k row a ∧ cz_b (ca a) j = true := by
  intro e
  induction e with
  | zero =>
    show cz_b 0 j = true ↔ _
    rw [cz_0]
    constructor
    · intro h; cases h
    · rintro ⟨a, h, _⟩; omega
  | succ e ih =>
    show cz_b (cz_fold K kn ro k row _ e (cz_fo _ e 0)) j = true ↔ _
    by_cases p : cz_P K kn ro k row e
    · rw [cz_fold_t p, cz_or, Bool.or_eq_true, ih]
      constructor
      · rintro (⟨a, h, b⟩ | h)
        · exact ⟨a, by omega, b⟩
        · exact ⟨e, by omega, p, h⟩
      · rintro ⟨a, h, b⟩
        by_cases z : a = e
        · subst z; exact Or.inr b.2
        · exact Or.inl ⟨a, by omega, b⟩
    · rw [cz_fold_f p, ih]
      constructor
      · rintro ⟨a, h, b⟩; exact ⟨a, by omega, b⟩
      · rintro ⟨a, h, b⟩
        refine ⟨a, ?_, b⟩
        by_cases z : a = e
        · subst z; exact absurd b.1 p
        · omega
theorem cz_thX (K : Int64) (kn ro : Nat → Int32) (ca : Nat → Int64) (row : Int32) : ¬ (cz_fo (cz_fold K kn ro 0 row (fun i (s : Int64) => s ||| ((1 : Int64) <<< ((nI i).toInt64 &&& 63)))) 60 0 &&& (cz_fo (cz_fold K kn ro 1 row (fun i (s : Int64) => s ||| ca i)) 60 0 ^^^ (-1))) = 0 ↔ cz_th 60 kn ro ca K row := by
  rw [cz_ne0]
  constructor
  · rintro ⟨j, hj, h⟩
    rw [cz_and, Bool.and_eq_true, cz_adds K kn ro 0 row 60 (by omega) j, cz_not _ hj, Bool.not_eq_true'] at h
    obtain ⟨⟨h1, h2, h3, h4⟩, h5⟩ := h
    refine ⟨j, h1, h2, h3, h4, fun ⟨a, ha, ka, k1, ra, hb⟩ => ?_⟩
    rw [(cz_cans K kn ro ca 1 row j 60).mpr ⟨a, ha, ⟨ka, k1, ra⟩, hb⟩] at h5
    cases h5
  · rintro ⟨j, hj, kj, k0, rj, nd⟩
    refine ⟨j, by omega, ?_⟩
    rw [cz_and, Bool.and_eq_true, cz_adds K kn ro 0 row 60 (by omega) j, cz_not _ (by omega), Bool.not_eq_true']
    refine ⟨⟨hj, kj, k0, rj⟩, ?_⟩
    cases e : cz_b (cz_fo (cz_fold K kn ro 1 row (fun i (s : Int64) => s ||| ca i)) 60 0) j
    · rfl
    · obtain ⟨a, ha, ⟨ka, k1, ra⟩, hb⟩ := (cz_cans K kn ro ca 1 row j 60).mp e
      exact absurd ⟨a, ha, ka, k1, ra, hb⟩ nd
