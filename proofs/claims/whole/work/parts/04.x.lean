/-! the component's helpers and loops -/
section
variable {c : Nat} {kn ro va re st : Nat → Int32} {ca ne kw : Nat → Int64} {ss : Nat → Int32}
theorem cz_cl {n : Nat} (h : n < 60) : (nI n).toNatClampNeg = n := nI_clamp (by omega)
theorem cz_cl3 {n : Nat} (h : n < 3) : (nI n).toNatClampNeg = n := nI_clamp (by omega)
theorem cz_tf {b : Bool} (h : ¬ b = false) : b = true := by cases b <;> first | rfl | exact absurd rfl h
theorem cz_ft {b : Bool} (h : ¬ b = true) : b = false := by cases b <;> first | rfl | exact absurd rfl h
def cz_bad (n : Nat) (p : Int32) : Prop := p < 0 ∨ nI n ≤ p
theorem cz_ix (p : Int32) {n : Nat} (hn : n < 2 ^ 31) : cz_bad n p ∨ ∃ j : Nat, j < n ∧ p = nI j := by
  by_cases h : p < 0
  · exact Or.inl (Or.inl h)
  · obtain ⟨j, hj, rfl⟩ := nI_of h
    by_cases h2 : j < n
    · exact Or.inr ⟨j, h2, rfl⟩
    · exact Or.inl (Or.inr (nI_le (by omega) hj))
theorem cz_bad_ne {n j : Nat} {p : Int32} (hn : n < 2 ^ 31) (h : cz_bad n p) (hj : j < n) : p ≠ nI j := by
  rintro rfl
  rcases h with h | h
  · exact nI_pos (by omega) h
  · exact nI_ge hj hn h
theorem cx_rep_t {post : Int32 → Prop} {a : Nat} (ha : a < 3) (h : post 1) : wpX_isReplica post (nI a) := br_f (nI_pos (by omega)) (br_f (nI_ge (b := 3) ha (by decide)) h)
theorem cx_rep_f {post : Int32 → Prop} {p : Int32} (hb : cz_bad 3 p) (h : post 0) : wpX_isReplica post p := br_c (fun _ => h) (fun n0 => br_t (hb.resolve_left n0) h)
theorem cx_row_t {post : Int32 → Prop} {a : Nat} (ha : a < 8) (h : post 1) : wpX_isRow post (nI a) := br_f (nI_pos (by omega)) (br_f (nI_ge (b := 8) ha (by decide)) h)
theorem cx_row_f {post : Int32 → Prop} {p : Int32} (hb : cz_bad 8 p) (h : post 0) : wpX_isRow post p := br_c (fun _ => h) (fun n0 => br_t (hb.resolve_left n0) h)
theorem cx_isK {post : Int32 → Prop} {f : Int32} {a i : Nat} (ha : a < 3) (hi : i < 60) (h1 : cz_b (kw a) i = true → post 1) (h0 : cz_b (kw a) i = false → post 0) : wpX_isKnown post (f, kn, ro, va, re, st, ca, kw, ss) (nI a) (nI i) := by
  refine ⟨vp_in_nI ha (by decide), ?_⟩
  rw [cz_cl3 ha]
  exact br_c (fun z => h0 ((cz_inX (kw a) (show i < 64 by omega)).mp z)) (fun z => h1 (cz_tf (fun e => z ((cz_inX (kw a) (show i < 64 by omega)).mpr e))))
theorem cx_isOf {post : Int32 → Prop} {f : Int32} {i : Nat} (hi : i < 60) {k row : Int32} (h1 : kn i = k → ro i = row → post 1) (h0 : ¬ (kn i = k ∧ ro i = row) → post 0) : wpX_isOf post (f, kn, ro, va, re, st, ca, kw, ss) (nI i) k row := by
  refine ⟨vp_in_nI hi (by decide), ?_⟩
  rw [cz_cl hi]
  exact br_c (fun k1 => ⟨vp_in_nI hi (by decide), br_c (fun r1 => h1 k1 r1) (fun r1 => h0 (fun z => r1 z.2))⟩) (fun k1 => h0 (fun z => k1 z.1))
theorem cx_adds0 {post : Int64 → Prop} {f : Int32} {a : Nat} (ha : a < 3) (row : Int32) (hp : post (cz_fo (cz_fold (kw a) kn ro 0 row (fun i (s : Int64) => s ||| ((1 : Int64) <<< ((nI i).toInt64 &&& 63)))) 60 0)) : ∃ n, wX_knownAdds_5 post (nI a) row f kn ro va re st ca kw ss n 0 0 :=
  loop_0 (fun n i s => wX_knownAdds_5 post (nI a) row f kn ro va re st ca kw ss n s (nI i)) (fun i s => s = cz_fo (cz_fold (kw a) kn ro 0 row (fun i (s : Int64) => s ||| ((1 : Int64) <<< ((nI i).toInt64 &&& 63)))) i 0) 60 0 rfl
    (fun n s h => by subst h; exact br_t (nI_le (Nat.le_refl 60) (by decide)) hp)
    (fun n i s hi h ih => by
      subst h
      refine br_f (nI_ge (b := 60) hi (by decide)) (cx_isK ha hi (fun hk => br_f (by decide) (cx_isOf hi (fun k1 r1 => br_f (by decide) ?_) (fun nk => br_t rfl (nm_r (nI_1 i) (ih _ (cz_fold_f (fun z => nk z.2)).symm))))) (fun hk => br_t rfl (nm_r (nI_1 i) (ih _ (cz_fold_f (fun z => by rw [z.1] at hk; cases hk)).symm))))
      exact nm_e (nm_r (nI_1 i) (ih _ (cz_fold_t (g := (fun i (s : Int64) => s ||| ((1 : Int64) <<< ((nI i).toInt64 &&& 63)))) ⟨hk, k1, r1⟩).symm)))
theorem cx_cans0 {post : Int64 → Prop} {f : Int32} {a : Nat} (ha : a < 3) (row : Int32) (hp : post (cz_fo (cz_fold (kw a) kn ro 1 row (fun i (s : Int64) => s ||| ca i)) 60 0)) : ∃ n, wX_knownCancels_5 post (nI a) row f kn ro va re st ca kw ss n 0 0 :=
  loop_0 (fun n i s => wX_knownCancels_5 post (nI a) row f kn ro va re st ca kw ss n s (nI i)) (fun i s => s = cz_fo (cz_fold (kw a) kn ro 1 row (fun i (s : Int64) => s ||| ca i)) i 0) 60 0 rfl
    (fun n s h => by subst h; exact br_t (nI_le (Nat.le_refl 60) (by decide)) hp)
    (fun n i s hi h ih => by
      subst h
      refine br_f (nI_ge (b := 60) hi (by decide)) (cx_isK ha hi (fun hk => br_f (by decide) (cx_isOf hi (fun k1 r1 => br_f (by decide) ?_) (fun nk => br_t rfl (nm_r (nI_1 i) (ih _ (cz_fold_f (fun z => nk z.2)).symm))))) (fun hk => br_t rfl (nm_r (nI_1 i) (ih _ (cz_fold_f (fun z => by rw [z.1] at hk; cases hk)).symm))))
      exact ⟨vp_in_nI hi (by decide), nm_r (by rw [cz_cl hi]) (nm_r (nI_1 i) (ih _ (cz_fold_t ⟨hk, k1, r1⟩).symm))⟩)
theorem cx_cnt0 {post : Int32 → Prop} {f : Int32} {a : Nat} (ha : a < 3) (row : Int32) (hp : post (cz_fo (cz_fold (kw a) kn ro 3 row (fun i (s : Int32) => s + va i)) 60 0)) : ∃ n, wX_countOf_16 post (nI a) row f kn ro va re st ca kw ss n 0 0 :=
  loop_0 (fun n i s => wX_countOf_16 post (nI a) row f kn ro va re st ca kw ss n s (nI i)) (fun i s => s = cz_fo (cz_fold (kw a) kn ro 3 row (fun i (s : Int32) => s + va i)) i 0) 60 0 rfl
    (fun n s h => by subst h; exact br_t (nI_le (Nat.le_refl 60) (by decide)) hp)
    (fun n i s hi h ih => by
      subst h
      refine br_f (nI_ge (b := 60) hi (by decide)) (cx_isK ha hi (fun hk => br_f (by decide) (cx_isOf hi (fun k1 r1 => br_f (by decide) ?_) (fun nk => br_t rfl (nm_r (nI_1 i) (ih _ (cz_fold_f (fun z => nk z.2)).symm))))) (fun hk => br_t rfl (nm_r (nI_1 i) (ih _ (cz_fold_f (fun z => by rw [z.1] at hk; cases hk)).symm))))
      exact ⟨vp_in_nI hi (by decide), nm_r (by rw [cz_cl hi]) (nm_r (nI_1 i) (ih _ (cz_fold_t ⟨hk, k1, r1⟩).symm))⟩)
theorem cx_adds {post : Int64 → Prop} {f : Int32} {a : Nat} (ha : a < 3) (row : Int32) (hp : post (cz_fo (cz_fold (kw a) kn ro 0 row (fun i (s : Int64) => s ||| ((1 : Int64) <<< ((nI i).toInt64 &&& 63)))) 60 0)) : wpX_knownAdds post (f, kn, ro, va, re, st, ca, kw, ss) (nI a) row := cx_adds0 ha row hp
theorem cx_cans {post : Int64 → Prop} {f : Int32} {a : Nat} (ha : a < 3) (row : Int32) (hp : post (cz_fo (cz_fold (kw a) kn ro 1 row (fun i (s : Int64) => s ||| ca i)) 60 0)) : wpX_knownCancels post (f, kn, ro, va, re, st, ca, kw, ss) (nI a) row := cx_cans0 ha row hp
theorem cz_T_bad {r row : Int32} (h : cz_bad 3 r ∨ cz_bad 8 row) : ¬ cz_T c kn ro ne kw r row := by
  rintro ⟨a, ha, rfl, q, hq, rfl, _⟩
  rcases h with h | h
  · exact cz_bad_ne (by decide) h ha rfl
  · exact cz_bad_ne (by decide) h hq rfl
theorem cz_T_iff {a q : Nat} (ha : a < 3) (hq : q < 8) : cz_T c kn ro ne kw (nI a) (nI q) ↔ cz_th c kn ro ne (kw a) (nI q) := by
  constructor
  · rintro ⟨b, hb, e, _, _, _, h⟩
    rw [nI_eq (by omega) (by omega)] at e
    subst e
    exact h
  · intro h
    exact ⟨a, ha, rfl, q, hq, rfl, h⟩
theorem cx_there {post : Int32 → Prop} (H : cz_Inv c kn ro ca ne kw) (r row : Int32) (hp : post (cz_tv c kn ro ne kw r row)) : wpX_there post (nI c, kn, ro, va, re, st, ca, kw, ss) r row := by
  unfold wpX_there
  rcases cz_ix r (n := 3) (by decide) with hb | ⟨a, ha, rfl⟩
  · rw [cz_tv_f (cz_T_bad (Or.inl hb))] at hp
    exact cx_rep_f hb (br_t rfl hp)
  · refine cx_rep_t ha (br_f (by decide) ?_)
    rcases cz_ix row (n := 8) (by decide) with hb | ⟨q, hq, rfl⟩
    · rw [cz_tv_f (cz_T_bad (Or.inr hb))] at hp
      exact cx_row_f hb (br_t rfl hp)
    · refine cx_row_t hq (br_f (by decide) (cx_adds ha (nI q) (cx_cans ha (nI q) ?_)))
      have e := (cz_thX (kw a) kn ro ca (nI q)).trans ((cz_th_iff H ha (nI q)).trans (cz_T_iff ha hq).symm)
      refine br_c (fun z => ?_) (fun z => ?_)
      · rw [cz_tv_f (fun t => e.mpr t z)] at hp; exact hp
      · rw [cz_tv_t (e.mp z)] at hp; exact hp
theorem cx_isL {post : Int32 → Prop} {f : Int32} {i b : Nat} (hi : i < 60) (hb : b < 60) (h1 : cz_lat st re i (nI b) → post 1) (h0 : ¬ cz_lat st re i (nI b) → post 0) : wpX_isLater post (f, kn, ro, va, re, st, ca, kw, ss) (nI i) (nI b) := by
  have vi : vp_in (nI i) 60 := vp_in_nI hi (by decide)
  have vb : vp_in (nI b) 60 := vp_in_nI hb (by decide)
  unfold cz_lat at h1 h0
  rw [cz_cl hb] at h1 h0
  refine ⟨vi, vb, ?_⟩
  rw [cz_cl hi, cz_cl hb]
  refine br_c (fun e => ⟨vi, vb, br_c (fun z => h0 ?_) (fun z => h1 (Or.inr ⟨e, Int32.not_le.mp z⟩))⟩) (fun e => ⟨vi, vb, br_c (fun z => h0 ?_) (fun z => h1 (Or.inl (Int32.not_le.mp z)))⟩)
  · rintro (q | ⟨_, q⟩)
    · rw [e] at q; exact Int32.lt_irrefl q
    · exact Int32.not_le.mpr q z
  · rintro (q | ⟨q, _⟩)
    · exact Int32.not_le.mpr q z
    · exact e q
theorem cz_lg_t {i : Nat} {s : Int32} (h : s = -1 ∨ cz_lat st re i s) : cz_lg st re i s = nI i := if_pos h
theorem cz_lg_f {i : Nat} {s : Int32} (h : ¬ (s = -1 ∨ cz_lat st re i s)) : cz_lg st re i s = s := if_neg h
theorem cx_last0 {post : Int32 → Prop} {f : Int32} {a : Nat} (ha : a < 3) (k row : Int32) (hp : post (cz_la (kw a) kn ro st re k row 60)) : ∃ n, wX_lastKnown_6 post (nI a) k row f kn ro va re st ca kw ss n (-1) 0 :=
  loop_0 (fun n i s => wX_lastKnown_6 post (nI a) k row f kn ro va re st ca kw ss n s (nI i)) (fun i s => s = cz_la (kw a) kn ro st re k row i) 60 (-1) rfl
    (fun n s h => by subst h; exact br_t (nI_le (Nat.le_refl 60) (by decide)) hp)
    (fun n i s hi h ih => by
      have hr := cz_la_rng (kw a) kn ro st re k row i (by omega)
      rw [← h] at hr
      have ht : cz_P (kw a) kn ro k row i → cz_lg st re i s = cz_la (kw a) kn ro st re k row (i + 1) := by
        intro p
        subst h
        exact (cz_fold_t p).symm
      have hf : ¬ cz_P (kw a) kn ro k row i → s = cz_la (kw a) kn ro st re k row (i + 1) := by
        intro p
        subst h
        exact (cz_fold_f p).symm
      clear h
      refine br_f (nI_ge (b := 60) hi (by decide)) (cx_isK ha hi (fun hk => br_f (by decide) (cx_isOf hi (fun k1 r1 => br_f (by decide) ?_) (fun nk => br_t rfl (nm_r (nI_1 i) (ih _ (hf (fun z => nk z.2))))))) (fun hk => br_t rfl (nm_r (nI_1 i) (ih _ (hf (fun z => by rw [z.1] at hk; cases hk))))))
      have ht := ht ⟨hk, k1, r1⟩
      refine br_c (fun e => nm_r (nI_1 i) (ih _ ?_)) (fun e => ?_)
      · rw [← ht, cz_lg_t (Or.inl e)]
      · obtain ⟨b, hb, rfl⟩ := hr.resolve_left e
        refine cx_isL hi hb (fun l => br_f (by decide) (nm_r (nI_1 i) (ih _ ?_))) (fun l => br_t rfl (nm_r (nI_1 i) (ih _ ?_)))
        · rw [← ht, cz_lg_t (Or.inr l)]
        · rw [← ht, cz_lg_f (fun z => z.elim e l)])
theorem cz_la_end {a : Nat} (ha : a < 3) (H : cz_Inv c kn ro ca ne kw) (k row : Int32) : cz_la (kw a) kn ro st re k row 60 = cz_la (kw a) kn ro st re k row c := cz_fold_end H.1 (H.2.1 a ha)
theorem cx_last {post : Int32 → Prop} {f : Int32} {a : Nat} (ha : a < 3) (H : cz_Inv c kn ro ca ne kw) (k row : Int32) (hp : post (cz_la (kw a) kn ro st re k row c)) : wpX_lastKnown post (f, kn, ro, va, re, st, ca, kw, ss) (nI a) k row := by
  rw [← cz_la_end ha H] at hp
  exact cx_last0 ha k row hp
def cz_kf (K : Int64) (i : Nat) (s : Int32) : Int32 := if cz_b K i = true then s + 1 else s
theorem cx_known0 {post : Int32 → Prop} {f : Int32} {a : Nat} (ha : a < 3) (hp : post (cz_fo (cz_kf (kw a)) 60 0)) : ∃ n, wX_known_13 post (nI a) f kn ro va re st ca kw ss n 0 0 :=
  loop_0 (fun n i s => wX_known_13 post (nI a) f kn ro va re st ca kw ss n s (nI i)) (fun i s => s = cz_fo (cz_kf (kw a)) i 0) 60 0 rfl
    (fun n s h => by subst h; exact br_t (nI_le (Nat.le_refl 60) (by decide)) hp)
    (fun n i s hi h ih => by
      subst h
      exact br_f (nI_ge (b := 60) hi (by decide)) (cx_isK ha hi (fun hk => br_f (by decide) (nm_e (nm_r (nI_1 i) (ih _ (if_pos hk).symm)))) (fun hk => br_t rfl (nm_r (nI_1 i) (ih _ (if_neg (fun z => by rw [z] at hk; cases hk)).symm)))))
theorem cz_kf_end {a : Nat} (ha : a < 3) (H : cz_Inv c kn ro ca ne kw) : cz_fo (cz_kf (kw a)) 60 0 = cz_fo (cz_kf (kw a)) c 0 := by
  apply cz_fo_end _ _ H.1
  intro i hi _
  apply if_neg
  intro z
  rw [H.2.1 a ha i hi] at z
  cases z
end
