/-! the reference's helpers and loops -/
section
variable {c : Nat} {kn ro va re st : Nat → Int32} {ca ne kw : Nat → Int64} {ss : Nat → Int32}
theorem cy_rep_t {post : Int32 → Prop} {a : Nat} (ha : a < 3) (h : post 0) : wpY_badReplica post (nI c, kn, ro, va, st, re, ne, kw, ss) (nI a) := br_f (nI_pos (by omega)) (br_t (nI_le (b := 2) (by omega) (by decide)) h)
theorem cy_rep_f {post : Int32 → Prop} {p : Int32} (hb : cz_bad 3 p) (h : post 1) : wpY_badReplica post (nI c, kn, ro, va, st, re, ne, kw, ss) p := br_c (fun _ => h) (fun n0 => br_f (fun z => absurd (Int32.le_trans (hb.resolve_left n0) z) (by decide)) h)
theorem cy_row_t {post : Int32 → Prop} {a : Nat} (ha : a < 8) (h : post 0) : wpY_badRow post (nI c, kn, ro, va, st, re, ne, kw, ss) (nI a) := br_f (nI_pos (by omega)) (br_t (nI_le (b := 7) (by omega) (by decide)) h)
theorem cy_row_f {post : Int32 → Prop} {p : Int32} (hb : cz_bad 8 p) (h : post 1) : wpY_badRow post (nI c, kn, ro, va, st, re, ne, kw, ss) p := br_c (fun _ => h) (fun n0 => br_f (fun z => absurd (Int32.le_trans (hb.resolve_left n0) z) (by decide)) h)
theorem cy_in {post : Int32 → Prop} {w : Int64} {i : Nat} (hi : i < 60) (h1 : cz_b w i = true → post 1) (h0 : cz_b w i = false → post 0) : wpY_in post (nI c, kn, ro, va, st, re, ne, kw, ss) w (nI i) := br_c (fun z => h1 ((cz_inY w (show i < 64 by omega)).mp z)) (fun z => h0 (cz_ft (fun e => z ((cz_inY w (show i < 64 by omega)).mpr e))))
theorem cy_can {post : Int32 → Prop} {a j : Nat} (hc : c ≤ 60) (ha : a < 3) (hj : j < 60) (h1 : cz_dr c kn ro ne (kw a) (ro j) j → post 1) (h0 : ¬ cz_dr c kn ro ne (kw a) (ro j) j → post 0) : wpY_cancelled post (nI c, kn, ro, va, st, re, ne, kw, ss) (nI a) (nI j) :=
  loop_0 (fun n i (_ : Unit) => wY_cancelled_2 post (nI a) (nI j) (nI c) kn ro va st re ne kw ss n (nI i)) (fun i _ => ∀ b, b < i → ¬ (cz_b (kw a) b = true ∧ kn b = 1 ∧ ro b = ro j ∧ cz_b (ne b) j = true)) c () (fun b hb => absurd hb (Nat.not_lt_zero b))
    (fun n _ h => br_t (nI_le (Nat.le_refl c) (by omega)) (h0 (fun ⟨b, hb, q⟩ => h b hb q)))
    (fun n i _ hi h ih => by
      have h6 : i < 60 := by omega
      have vi : vp_in (nI i) 60 := vp_in_nI h6 (by decide)
      have vj : vp_in (nI j) 60 := vp_in_nI hj (by decide)
      refine br_f (nI_ge hi (by omega)) ⟨vp_in_nI ha (by decide), cy_in h6 (fun hk => br_f (by decide) ⟨vi, br_c (fun k1 => ⟨vi, vj, br_c (fun r1 => ⟨vi, cy_in hj (fun nk => br_f (by decide) ?_) (fun nk => br_t rfl (nm_r (nI_1 i) (ih () (lt_s h ?_))))⟩) (fun r1 => nm_r (nI_1 i) (ih () (lt_s h ?_)))⟩) (fun k1 => nm_r (nI_1 i) (ih () (lt_s h ?_)))⟩) (fun hk => br_t rfl (nm_r (nI_1 i) (ih () (lt_s h ?_))))⟩
      · rw [cz_cl3 ha] at hk
        rw [cz_cl h6] at k1 r1 nk
        rw [cz_cl hj] at r1
        exact h1 ⟨i, hi, hk, k1, r1, nk⟩
      · rintro ⟨_, _, _, z⟩
        rw [cz_cl h6, z] at nk
        cases nk
      · rintro ⟨_, _, z, _⟩
        rw [cz_cl h6, cz_cl hj] at r1
        exact r1 z
      · rintro ⟨_, z, _, _⟩
        rw [cz_cl h6] at k1
        exact k1 z
      · rintro ⟨z, _, _, _⟩
        rw [cz_cl3 ha, z] at hk
        cases hk)
theorem cy_there0 {post : Int32 → Prop} {a : Nat} (hc : c ≤ 60) (ha : a < 3) (row : Int32) (h1 : cz_th c kn ro ne (kw a) row → post 1) (h0 : ¬ cz_th c kn ro ne (kw a) row → post 0) : ∃ n, wY_there_20 post (nI a) row (nI c) kn ro va st re ne kw ss n 0 :=
  loop_0 (fun n i (_ : Unit) => wY_there_20 post (nI a) row (nI c) kn ro va st re ne kw ss n (nI i)) (fun i _ => ∀ b, b < i → ¬ (cz_b (kw a) b = true ∧ kn b = 0 ∧ ro b = row ∧ ¬ cz_dr c kn ro ne (kw a) row b)) c () (fun b hb => absurd hb (Nat.not_lt_zero b))
    (fun n _ h => br_t (nI_le (Nat.le_refl c) (by omega)) (h0 (fun ⟨b, hb, q⟩ => h b hb q)))
    (fun n i _ hi h ih => by
      have h6 : i < 60 := by omega
      have vi : vp_in (nI i) 60 := vp_in_nI h6 (by decide)
      refine br_f (nI_ge hi (by omega)) ⟨vp_in_nI ha (by decide), cy_in h6 (fun hk => br_f (by decide) ⟨vi, br_c (fun k1 => ⟨vi, br_c (fun r1 => cy_can hc ha h6 (fun nk => br_f (by decide) (nm_r (nI_1 i) (ih () (lt_s h ?_)))) (fun nk => br_t rfl ?_)) (fun r1 => nm_r (nI_1 i) (ih () (lt_s h ?_)))⟩) (fun k1 => nm_r (nI_1 i) (ih () (lt_s h ?_)))⟩) (fun hk => br_t rfl (nm_r (nI_1 i) (ih () (lt_s h ?_))))⟩
      · rintro ⟨_, _, e, z⟩
        rw [e] at nk
        exact z nk
      · rw [cz_cl3 ha] at hk
        rw [cz_cl h6] at k1 r1
        rw [r1] at nk
        exact h1 ⟨i, hi, hk, k1, r1, nk⟩
      · rintro ⟨_, _, z, _⟩
        rw [cz_cl h6] at r1
        exact r1 z
      · rintro ⟨_, z, _, _⟩
        rw [cz_cl h6] at k1
        exact k1 z
      · rintro ⟨z, _, _, _⟩
        rw [cz_cl3 ha, z] at hk
        cases hk)
theorem cy_there {post : Int32 → Prop} (hc : c ≤ 60) (r row : Int32) (hp : post (cz_tv c kn ro ne kw r row)) : wpY_there post (nI c, kn, ro, va, st, re, ne, kw, ss) r row := by
  unfold wpY_there
  rcases cz_ix r (n := 3) (by decide) with hb | ⟨a, ha, rfl⟩
  · rw [cz_tv_f (cz_T_bad (Or.inl hb))] at hp
    exact cy_rep_f hb (br_f (by decide) hp)
  · refine cy_rep_t ha (br_t rfl ?_)
    rcases cz_ix row (n := 8) (by decide) with hb | ⟨q, hq, rfl⟩
    · rw [cz_tv_f (cz_T_bad (Or.inr hb))] at hp
      exact cy_row_f hb (br_f (by decide) hp)
    · refine cy_row_t hq (br_t rfl (cy_there0 hc ha (nI q) (fun z => ?_) (fun z => ?_)))
      · rw [cz_tv_t ((cz_T_iff ha hq).mpr z)] at hp; exact hp
      · rw [cz_tv_f (fun t => z ((cz_T_iff ha hq).mp t))] at hp; exact hp
theorem cy_cnt0 {post : Int32 → Prop} {a : Nat} (hc : c ≤ 60) (ha : a < 3) (row : Int32) (hp : post (cz_fo (cz_fold (kw a) kn ro 3 row (fun i (s : Int32) => s + va i)) c 0)) : ∃ n, wY_countOf_16 post (nI a) row (nI c) kn ro va st re ne kw ss n 0 0 :=
  loop_0 (fun n i s => wY_countOf_16 post (nI a) row (nI c) kn ro va st re ne kw ss n s (nI i)) (fun i s => s = cz_fo (cz_fold (kw a) kn ro 3 row (fun i (s : Int32) => s + va i)) i 0) c 0 rfl
    (fun n s h => by subst h; exact br_t (nI_le (Nat.le_refl c) (by omega)) hp)
    (fun n i s hi h ih => by
      subst h
      have h6 : i < 60 := by omega
      have vi : vp_in (nI i) 60 := vp_in_nI h6 (by decide)
      refine br_f (nI_ge hi (by omega)) ⟨vp_in_nI ha (by decide), cy_in h6 (fun hk => br_f (by decide) ⟨vi, br_c (fun k1 => ⟨vi, br_c (fun r1 => ⟨vi, nm_r (by rw [cz_cl h6]) (nm_r (nI_1 i) (ih _ (cz_fold_t ?_).symm))⟩) (fun r1 => nm_r (nI_1 i) (ih _ (cz_fold_f ?_).symm))⟩) (fun k1 => nm_r (nI_1 i) (ih _ (cz_fold_f ?_).symm))⟩) (fun hk => br_t rfl (nm_r (nI_1 i) (ih _ (cz_fold_f ?_).symm)))⟩
      · rw [cz_cl3 ha] at hk
        rw [cz_cl h6] at k1 r1
        exact ⟨hk, k1, r1⟩
      · rintro ⟨_, _, z⟩
        rw [cz_cl h6] at r1
        exact r1 z
      · rintro ⟨_, z, _⟩
        rw [cz_cl h6] at k1
        exact k1 z
      · rintro ⟨z, _, _⟩
        rw [cz_cl3 ha, z] at hk
        cases hk)
theorem cy_last0 {post : Int32 → Prop} {a : Nat} (hc : c ≤ 60) (ha : a < 3) (row k : Int32) (hp : post (cz_la (kw a) kn ro st re k row c)) : ∃ n, wY_last_6 post (nI a) row k (nI c) kn ro va st re ne kw ss n (-1) 0 :=
  loop_0 (fun n i s => wY_last_6 post (nI a) row k (nI c) kn ro va st re ne kw ss n s (nI i)) (fun i s => s = cz_la (kw a) kn ro st re k row i) c (-1) rfl
    (fun n s h => by subst h; exact br_t (nI_le (Nat.le_refl c) (by omega)) hp)
    (fun n i s hi h ih => by
      have h6 : i < 60 := by omega
      have vi : vp_in (nI i) 60 := vp_in_nI h6 (by decide)
      have hr := cz_la_rng (kw a) kn ro st re k row i (by omega)
      rw [← h] at hr
      have ht : cz_P (kw a) kn ro k row i → cz_lg st re i s = cz_la (kw a) kn ro st re k row (i + 1) := by
        intro p
        subst h
        exact (cz_fold_t p).symm
      have hf : ¬ cz_P (kw a) kn ro k row i → s = cz_la (kw a) kn ro st re k row (i + 1) := by
        intro p
        subst h
        exact (cz_fold_f p).symm
      clear h
      refine br_f (nI_ge hi (by omega)) ⟨vp_in_nI ha (by decide), cy_in h6 (fun hk => br_f (by decide) ⟨vi, br_c (fun k1 => ⟨vi, br_c (fun r1 => ?_) (fun r1 => nm_r (nI_1 i) (ih _ (hf ?_)))⟩) (fun k1 => nm_r (nI_1 i) (ih _ (hf ?_)))⟩) (fun hk => br_t rfl (nm_r (nI_1 i) (ih _ (hf ?_))))⟩
      · rw [cz_cl3 ha] at hk
        rw [cz_cl h6] at k1 r1
        have ht := ht ⟨hk, k1, r1⟩
        rcases hr with e | ⟨b, hb, e⟩
        · subst e
          exact br_t (by decide) (nm_r (nI_1 i) (ih _ (by rw [← ht, cz_lg_t (Or.inl rfl)])))
        · subst e
          have vb : vp_in (nI b) 60 := vp_in_nI hb (by decide)
          have nb : ¬ nI b < 0 := nI_pos (by omega)
          have n1 : ¬ nI b = -1 := fun z => by rw [z] at nb; exact nb (by decide)
          have lt : cz_lat st re i (nI b) → nI i = cz_la (kw a) kn ro st re k row (i + 1) := fun l => by rw [← ht, cz_lg_t (Or.inr l)]
          have lf : ¬ cz_lat st re i (nI b) → nI b = cz_la (kw a) kn ro st re k row (i + 1) := fun l => by rw [← ht, cz_lg_f (fun z => z.elim n1 l)]
          unfold cz_lat at lt lf
          refine br_f nb ⟨vi, vb, ?_⟩
          rw [cz_cl h6]
          refine br_c (fun q => nm_r (nI_1 i) (ih _ (lt (Or.inl q)))) (fun q => ⟨vi, vb, br_c (fun e => ⟨vi, vb, br_c (fun p => nm_r (nI_1 i) (ih _ (lf ?_))) (fun p => nm_r (nI_1 i) (ih _ (lt (Or.inr ⟨e, Int32.not_le.mp p⟩))))⟩) (fun e => nm_r (nI_1 i) (ih _ (lf ?_)))⟩)
          · rintro (z | ⟨_, z⟩)
            · exact q z
            · exact Int32.not_le.mpr z p
          · rintro (z | ⟨z, _⟩)
            · exact q z
            · exact e z
      · rintro ⟨_, _, z⟩
        rw [cz_cl h6] at r1
        exact r1 z
      · rintro ⟨_, z, _⟩
        rw [cz_cl h6] at k1
        exact k1 z
      · rintro ⟨z, _, _⟩
        rw [cz_cl3 ha, z] at hk
        cases hk)
theorem cy_last {post : Int32 → Prop} {a : Nat} (hc : c ≤ 60) (ha : a < 3) (row k : Int32) (hp : post (cz_la (kw a) kn ro st re k row c)) : wpY_last post (nI c, kn, ro, va, st, re, ne, kw, ss) (nI a) row k := cy_last0 hc ha row k hp
theorem cy_known0 {post : Int32 → Prop} {a : Nat} (hc : c ≤ 60) (ha : a < 3) (hp : post (cz_fo (cz_kf (kw a)) c 0)) : ∃ n, wY_known_14 post (nI a) (nI c) kn ro va st re ne kw ss n 0 0 :=
  loop_0 (fun n i s => wY_known_14 post (nI a) (nI c) kn ro va st re ne kw ss n s (nI i)) (fun i s => s = cz_fo (cz_kf (kw a)) i 0) c 0 rfl
    (fun n s h => by subst h; exact br_t (nI_le (Nat.le_refl c) (by omega)) hp)
    (fun n i s hi h ih => by
      subst h
      have h6 : i < 60 := by omega
      refine br_f (nI_ge hi (by omega)) ⟨vp_in_nI ha (by decide), cy_in h6 (fun hk => br_f (by decide) (nm_e (nm_r (nI_1 i) (ih _ (if_pos ?_).symm)))) (fun hk => br_t rfl (nm_r (nI_1 i) (ih _ (if_neg ?_).symm)))⟩
      · rw [cz_cl3 ha] at hk; exact hk
      · rw [cz_cl3 ha] at hk
        intro z
        rw [z] at hk
        cases hk)
end
