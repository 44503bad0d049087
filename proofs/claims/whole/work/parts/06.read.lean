/-! the readers, both sides -/
section
variable {c : Nat} {kn ro va re st : Nat → Int32} {ca ne kw : Nat → Int64} {ss : Nat → Int32}
theorem cz_la_vp {a : Nat} (H : cz_Inv c kn ro ca ne kw) (k row : Int32) (h : ¬ cz_la (kw a) kn ro st re k row c = -1) : vp_in (cz_la (kw a) kn ro st re k row c) 60 ∧ ¬ cz_la (kw a) kn ro st re k row c < 0 ∧ 0 ≤ cz_la (kw a) kn ro st re k row c := by
  obtain ⟨b, hb, e⟩ := (cz_la_rng (kw a) kn ro st re k row c H.1).resolve_left h
  rw [e]
  exact ⟨vp_in_nI hb (by decide), nI_pos (by omega), nI_pos' (by omega)⟩
theorem cx_nameOf {post : Int32 → Prop} (H : cz_Inv c kn ro ca ne kw) (r row : Int32) (hp : post (cz_nv c kn ro va st re ne kw r row)) : wpX_nameOf post (nI c, kn, ro, va, re, st, ca, kw, ss) r row := by
  unfold wpX_nameOf
  refine cx_there H r row ?_
  unfold cz_nv at hp
  by_cases z : cz_tv c kn ro ne kw r row = 0
  · rw [if_pos z] at hp
    exact br_t z hp
  · obtain ⟨a, ha, rfl, q, hq, rfl⟩ := cz_tv_n z
    rw [if_neg z, cz_cl3 ha] at hp
    refine br_f z (cx_last ha H 2 (nI q) ?_)
    by_cases l : cz_la (kw a) kn ro st re 2 (nI q) c = -1
    · rw [if_pos l] at hp
      exact br_t l hp
    · rw [if_neg l] at hp
      exact br_f l ⟨(cz_la_vp H 2 (nI q) l).1, hp⟩
theorem cy_nameOf {post : Int32 → Prop} (H : cz_Inv c kn ro ca ne kw) (r row : Int32) (hp : post (cz_nv c kn ro va st re ne kw r row)) : wpY_nameOf post (nI c, kn, ro, va, st, re, ne, kw, ss) r row := by
  unfold wpY_nameOf
  refine cy_there H.1 r row ?_
  unfold cz_nv at hp
  by_cases z : cz_tv c kn ro ne kw r row = 0
  · rw [if_pos z] at hp
    exact br_t z hp
  · obtain ⟨a, ha, rfl, q, hq, rfl⟩ := cz_tv_n z
    rw [if_neg z, cz_cl3 ha] at hp
    refine br_f z (cy_last H.1 ha (nI q) 2 ?_)
    by_cases l : cz_la (kw a) kn ro st re 2 (nI q) c = -1
    · rw [if_pos l] at hp
      exact br_f (by rw [l]; decide) hp
    · rw [if_neg l] at hp
      exact br_t (cz_la_vp H 2 (nI q) l).2.2 ⟨(cz_la_vp H 2 (nI q) l).1, hp⟩
theorem cx_countOf {post : Int32 → Prop} (H : cz_Inv c kn ro ca ne kw) (r row : Int32) (hp : post (cz_cv c kn ro va ne kw r row)) : wpX_countOf post (nI c, kn, ro, va, re, st, ca, kw, ss) r row := by
  unfold wpX_countOf
  refine cx_there H r row ?_
  unfold cz_cv at hp
  by_cases z : cz_tv c kn ro ne kw r row = 0
  · rw [if_pos z] at hp
    exact br_t z hp
  · obtain ⟨a, ha, rfl, q, hq, rfl⟩ := cz_tv_n z
    rw [if_neg z, cz_cl3 ha, ← cz_fold_end H.1 (H.2.1 a ha)] at hp
    exact br_f z (cx_cnt0 ha (nI q) hp)
theorem cy_countOf {post : Int32 → Prop} (H : cz_Inv c kn ro ca ne kw) (r row : Int32) (hp : post (cz_cv c kn ro va ne kw r row)) : wpY_countOf post (nI c, kn, ro, va, st, re, ne, kw, ss) r row := by
  unfold wpY_countOf
  refine cy_there H.1 r row ?_
  unfold cz_cv at hp
  by_cases z : cz_tv c kn ro ne kw r row = 0
  · rw [if_pos z] at hp
    exact br_t z hp
  · obtain ⟨a, ha, rfl, q, hq, rfl⟩ := cz_tv_n z
    rw [if_neg z, cz_cl3 ha] at hp
    exact br_f z (cy_cnt0 H.1 ha (nI q) hp)
theorem cz_tv_m1 (r : Int32) : cz_tv c kn ro ne kw r (-1) = 0 := cz_tv_f (cz_T_bad (Or.inr (Or.inl (by decide))))
theorem cx_linkOf {post : Int32 → Prop} (H : cz_Inv c kn ro ca ne kw) (r row : Int32) (hp : post (cz_lv c kn ro va st re ne kw r row)) : wpX_linkOf post (nI c, kn, ro, va, re, st, ca, kw, ss) r row := by
  unfold wpX_linkOf
  refine cx_there H r row ?_
  unfold cz_lv cz_lt0 at hp
  by_cases z : cz_tv c kn ro ne kw r row = 0
  · rw [if_pos z] at hp
    exact br_t z hp
  · obtain ⟨a, ha, rfl, q, hq, rfl⟩ := cz_tv_n z
    rw [if_neg z, cz_cl3 ha] at hp
    refine br_f z (cx_last ha H 4 (nI q) ?_)
    by_cases l : cz_la (kw a) kn ro st re 4 (nI q) c = -1
    · rw [if_pos l, if_pos (cz_tv_m1 _)] at hp
      exact br_t l (cx_there H (nI a) (-1) (br_t (cz_tv_m1 _) hp))
    · rw [if_neg l] at hp
      refine br_f l ⟨(cz_la_vp H 4 (nI q) l).1, cx_there H (nI a) _ (br_c (fun t => ?_) (fun t => ?_))⟩
      · rw [if_pos t] at hp; exact hp
      · rw [if_neg t] at hp; exact hp
theorem cy_linkOf {post : Int32 → Prop} (H : cz_Inv c kn ro ca ne kw) (r row : Int32) (hp : post (cz_lv c kn ro va st re ne kw r row)) : wpY_linkOf post (nI c, kn, ro, va, st, re, ne, kw, ss) r row := by
  unfold wpY_linkOf
  refine cy_there H.1 r row ?_
  unfold cz_lv cz_lt0 at hp
  by_cases z : cz_tv c kn ro ne kw r row = 0
  · rw [if_pos z] at hp
    exact br_t z hp
  · obtain ⟨a, ha, rfl, q, hq, rfl⟩ := cz_tv_n z
    rw [if_neg z, cz_cl3 ha] at hp
    refine br_f z (cy_last H.1 ha (nI q) 4 ?_)
    by_cases l : cz_la (kw a) kn ro st re 4 (nI q) c = -1
    · rw [if_pos l, if_pos (cz_tv_m1 _)] at hp
      exact br_t (by rw [l]; decide) hp
    · rw [if_neg l] at hp
      have vl := (cz_la_vp H 4 (nI q) l).1
      refine br_f (cz_la_vp H 4 (nI q) l).2.1 ⟨vl, cy_there H.1 (nI a) _ (br_c (fun t => ?_) (fun t => ⟨vl, ?_⟩))⟩
      · rw [if_pos t] at hp; exact hp
      · rw [if_neg t] at hp; exact hp
noncomputable def cz_rf (c : Nat) (kn ro : Nat → Int32) (ne kw : Nat → Int64) (r : Int32) (i : Nat) (s : Int32) : Int32 := if cz_tv c kn ro ne kw r (nI i) = 0 then s else s + 1
theorem cx_rows0 {post : Int32 → Prop} (H : cz_Inv c kn ro ca ne kw) (r : Int32) (hp : post (cz_fo (cz_rf c kn ro ne kw r) 8 0)) : ∃ n, wX_rows_13 post r (nI c) kn ro va re st ca kw ss n 0 0 :=
  loop_0 (fun n i s => wX_rows_13 post r (nI c) kn ro va re st ca kw ss n s (nI i)) (fun i s => s = cz_fo (cz_rf c kn ro ne kw r) i 0) 8 0 rfl
    (fun n s h => by subst h; exact br_t (nI_le (Nat.le_refl 8) (by decide)) hp)
    (fun n i s hi h ih => by
      subst h
      exact br_f (nI_ge (b := 8) hi (by decide)) (cx_there H r (nI i) (br_c (fun t => nm_r (nI_1 i) (ih _ (if_pos t).symm)) (fun t => nm_e (nm_r (nI_1 i) (ih _ (if_neg t).symm))))))
theorem cy_rows0 {post : Int32 → Prop} (H : cz_Inv c kn ro ca ne kw) (r : Int32) (hp : post (cz_fo (cz_rf c kn ro ne kw r) 8 0)) : ∃ n, wY_rows_14 post r (nI c) kn ro va st re ne kw ss n 0 0 :=
  loop_0 (fun n i s => wY_rows_14 post r (nI c) kn ro va st re ne kw ss n s (nI i)) (fun i s => s = cz_fo (cz_rf c kn ro ne kw r) i 0) 8 0 rfl
    (fun n s h => by subst h; exact br_t (nI_le (Nat.le_refl 8) (by decide)) hp)
    (fun n i s hi h ih => by
      subst h
      exact br_f (nI_ge (b := 8) hi (by decide)) (cy_there H.1 r (nI i) (br_c (fun t => nm_r (nI_1 i) (ih _ (if_pos t).symm)) (fun t => nm_e (nm_r (nI_1 i) (ih _ (if_neg t).symm))))))
noncomputable def cz_sf (c : Nat) (kn ro va : Nat → Int32) (ne kw : Nat → Int64) (r : Int32) (i : Nat) (s : Int32) : Int32 := s + cz_cv c kn ro va ne kw r (nI i)
theorem cx_sum0 {post : Int32 → Prop} (H : cz_Inv c kn ro ca ne kw) (r : Int32) (hp : post (cz_fo (cz_sf c kn ro va ne kw r) 8 0)) : ∃ n, wX_sum_13 post r (nI c) kn ro va re st ca kw ss n 0 0 :=
  loop_0 (fun n i s => wX_sum_13 post r (nI c) kn ro va re st ca kw ss n s (nI i)) (fun i s => s = cz_fo (cz_sf c kn ro va ne kw r) i 0) 8 0 rfl
    (fun n s h => by subst h; exact br_t (nI_le (Nat.le_refl 8) (by decide)) hp)
    (fun n i s hi h ih => by
      subst h
      exact br_f (nI_ge (b := 8) hi (by decide)) (cx_countOf H r (nI i) (nm_e (nm_r (nI_1 i) (ih _ rfl)))))
theorem cy_sum0 {post : Int32 → Prop} (H : cz_Inv c kn ro ca ne kw) (r : Int32) (hp : post (cz_fo (cz_sf c kn ro va ne kw r) 8 0)) : ∃ n, wY_sum_14 post r (nI c) kn ro va st re ne kw ss n 0 0 :=
  loop_0 (fun n i s => wY_sum_14 post r (nI c) kn ro va st re ne kw ss n s (nI i)) (fun i s => s = cz_fo (cz_sf c kn ro va ne kw r) i 0) 8 0 rfl
    (fun n s h => by subst h; exact br_t (nI_le (Nat.le_refl 8) (by decide)) hp)
    (fun n i s hi h ih => by
      subst h
      exact br_f (nI_ge (b := 8) hi (by decide)) (cy_countOf H r (nI i) (nm_e (nm_r (nI_1 i) (ih _ rfl)))))
def cz_eq (c : Nat) (kn ro va st re : Nat → Int32) (ne kw : Nat → Int64) (a b : Int32) (i : Nat) : Prop := cz_tv c kn ro ne kw a (nI i) = cz_tv c kn ro ne kw b (nI i) ∧ cz_nv c kn ro va st re ne kw a (nI i) = cz_nv c kn ro va st re ne kw b (nI i) ∧ cz_cv c kn ro va ne kw a (nI i) = cz_cv c kn ro va ne kw b (nI i) ∧ cz_lv c kn ro va st re ne kw a (nI i) = cz_lv c kn ro va st re ne kw b (nI i)
theorem cx_agree0 {post : Int32 → Prop} (H : cz_Inv c kn ro ca ne kw) (a b : Int32) (h1 : (∀ i, i < 8 → cz_eq c kn ro va st re ne kw a b i) → post 1) (h0 : ¬ (∀ i, i < 8 → cz_eq c kn ro va st re ne kw a b i) → post 0) : ∃ n, wX_agree_18 post a b (nI c) kn ro va re st ca kw ss n 0 :=
  loop_0 (fun n i (_ : Unit) => wX_agree_18 post a b (nI c) kn ro va re st ca kw ss n (nI i)) (fun i _ => ∀ j, j < i → cz_eq c kn ro va st re ne kw a b j) 8 () (fun b hb => absurd hb (Nat.not_lt_zero b))
    (fun n _ h => br_t (nI_le (Nat.le_refl 8) (by decide)) (h1 h))
    (fun n i _ hi h ih => br_f (nI_ge (b := 8) hi (by decide))
      (cx_there H a (nI i) (cx_there H b (nI i) (br_c (fun e1 =>
        cx_nameOf H a (nI i) (cx_nameOf H b (nI i) (br_c (fun e2 =>
          cx_countOf H a (nI i) (cx_countOf H b (nI i) (br_c (fun e3 =>
            cx_linkOf H a (nI i) (cx_linkOf H b (nI i) (br_c (fun e4 => nm_r (nI_1 i) (ih () (lt_s h ⟨e1, e2, e3, e4⟩)))
              (fun e4 => h0 (fun z => e4 (z i hi).2.2.2)))))
            (fun e3 => h0 (fun z => e3 (z i hi).2.2.1)))))
          (fun e2 => h0 (fun z => e2 (z i hi).2.1)))))
        (fun e1 => h0 (fun z => e1 (z i hi).1))))))
theorem cy_agree0 {post : Int32 → Prop} (H : cz_Inv c kn ro ca ne kw) (a b : Int32) (h1 : (∀ i, i < 8 → cz_eq c kn ro va st re ne kw a b i) → post 1) (h0 : ¬ (∀ i, i < 8 → cz_eq c kn ro va st re ne kw a b i) → post 0) : ∃ n, wY_agree_20 post a b (nI c) kn ro va st re ne kw ss n 0 :=
  loop_0 (fun n i (_ : Unit) => wY_agree_20 post a b (nI c) kn ro va st re ne kw ss n (nI i)) (fun i _ => ∀ j, j < i → cz_eq c kn ro va st re ne kw a b j) 8 () (fun b hb => absurd hb (Nat.not_lt_zero b))
    (fun n _ h => br_t (nI_le (Nat.le_refl 8) (by decide)) (h1 h))
    (fun n i _ hi h ih => br_f (nI_ge (b := 8) hi (by decide))
      (cy_there H.1 a (nI i) (cy_there H.1 b (nI i) (br_c (fun e1 =>
        cy_nameOf H a (nI i) (cy_nameOf H b (nI i) (br_c (fun e2 =>
          cy_countOf H a (nI i) (cy_countOf H b (nI i) (br_c (fun e3 =>
            cy_linkOf H a (nI i) (cy_linkOf H b (nI i) (br_c (fun e4 => nm_r (nI_1 i) (ih () (lt_s h ⟨e1, e2, e3, e4⟩)))
              (fun e4 => h0 (fun z => e4 (z i hi).2.2.2)))))
            (fun e3 => h0 (fun z => e3 (z i hi).2.2.1)))))
          (fun e2 => h0 (fun z => e2 (z i hi).2.1)))))
        (fun e1 => h0 (fun z => e1 (z i hi).1))))))
end
