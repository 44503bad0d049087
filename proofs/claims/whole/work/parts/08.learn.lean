/-! the writers: learning -/
section
variable {c : Nat} {kn ro va re st : Nat → Int32} {ca ne kw : Nat → Int64} {ss : Nat → Int32}
theorem cx_learnA {post : SX → Prop} {f : Int32} {a i : Nat} (ha : a < 3) (hi : i < 60) (hp : post (f, kn, ro, va, re, st, ca, vp_updL kw a (kw a ||| ((1 : Int64) <<< ((nI i).toInt64 &&& 63))), if ss a < st i then upd ss a (st i) else ss)) : wpX_learnAction post (f, kn, ro, va, re, st, ca, kw, ss) (nI a) (nI i) := by
  have v3 : vp_in (nI a) 3 := vp_in_nI ha (by decide)
  have vi : vp_in (nI i) 60 := vp_in_nI hi (by decide)
  refine ⟨v3, v3, nm_r (e' := vp_updL kw a (kw a ||| ((1 : Int64) <<< ((nI i).toInt64 &&& 63)))) (by rw [cz_cl3 ha]) ⟨v3, vi, ?_⟩⟩
  rw [cz_cl3 ha, cz_cl hi]
  refine br_c (fun z => ?_) (fun z => ⟨vi, v3, nm_e ?_⟩)
  · rw [if_neg (Int32.not_lt.mpr z)] at hp; exact hp
  · rw [if_pos (Int32.not_le.mp z)] at hp; exact hp
theorem cz_lf_t {a b i : Nat} {m : Int32} {s : (Nat → Int64) × (Nat → Int32) × Int32} (h1 : s.2.2 < m) (h2 : cz_b (s.1 b) i = true) (h3 : cz_b (s.1 a) i = false) : cz_lf st a b m i s = (vp_updL s.1 a (s.1 a ||| ((1 : Int64) <<< ((nI i).toInt64 &&& 63))), (if s.2.1 a < st i then upd s.2.1 a (st i) else s.2.1), s.2.2 + 1) := if_pos ⟨h1, h2, h3⟩
theorem cz_lf_f {a b i : Nat} {m : Int32} {s : (Nat → Int64) × (Nat → Int32) × Int32} (h : ¬ (s.2.2 < m ∧ cz_b (s.1 b) i = true ∧ cz_b (s.1 a) i = false)) : cz_lf st a b m i s = s := if_neg h
theorem cx_learn0 {post : Int32 → SX → Prop} {a b : Nat} (ha : a < 3) (hb : b < 3) (m : Int32) (hp : post (cz_fo (cz_lf st a b m) 60 (kw, ss, 0)).2.2 (nI c, kn, ro, va, re, st, ca, (cz_fo (cz_lf st a b m) 60 (kw, ss, 0)).1, (cz_fo (cz_lf st a b m) 60 (kw, ss, 0)).2.1)) : ∃ n, wX_learnAtMost_30 post (nI a) (nI b) m n 0 0 (nI c) kn ro va re st ca kw ss :=
  loop_0 (fun n i (s : (Nat → Int64) × (Nat → Int32) × Int32) => wX_learnAtMost_30 post (nI a) (nI b) m n s.2.2 (nI i) (nI c) kn ro va re st ca s.1 s.2.1) (fun i s => s = cz_fo (cz_lf st a b m) i (kw, ss, 0)) 60 (kw, ss, 0) rfl
    (fun n s h => by subst h; exact br_t (nI_le (Nat.le_refl 60) (by decide)) hp)
    (fun n i s hi h ih => by
      have hn : cz_lf st a b m i s = cz_fo (cz_lf st a b m) (i + 1) (kw, ss, 0) := by subst h; rfl
      refine br_f (nI_ge (b := 60) hi (by decide)) (br_c (fun le => ?_) (fun nle => ?_))
      · subst h
        rw [cz_lf_stop st a b m (kw, ss, 0) (by omega) (Int32.not_lt.mpr le)] at hp
        exact hp
      · have lt := Int32.not_le.mp nle
        refine cx_isK hb hi (fun kb => br_f (by decide) (cx_isK ha hi (fun ka => br_f (by decide) (nm_r (nI_1 i) (ih s ?_))) (fun ka => br_t rfl (cx_learnA ha hi (nm_e (nm_r (nI_1 i) (ih (_, _, _) ?_))))))) (fun kb => br_t rfl (nm_r (nI_1 i) (ih s ?_)))
        · rw [← hn]
          exact (cz_lf_f (fun z => by rw [ka] at z; cases z.2.2)).symm
        · rw [← hn]
          exact (cz_lf_t lt kb ka).symm
        · rw [← hn]
          exact (cz_lf_f (fun z => by rw [kb] at z; cases z.2.1)).symm)
theorem cy_learn0 {post : Int32 → SY → Prop} {a b : Nat} (hc : c ≤ 60) (ha : a < 3) (hb : b < 3) (m : Int32) (hp : post (cz_fo (cz_lf st a b m) c (kw, ss, 0)).2.2 (nI c, kn, ro, va, st, re, ne, (cz_fo (cz_lf st a b m) c (kw, ss, 0)).1, (cz_fo (cz_lf st a b m) c (kw, ss, 0)).2.1)) : ∃ n, wY_learnSome_32 post (nI a) (nI b) m (nI c) n 0 0 kn ro va st re ne kw ss :=
  loop_0 (fun n i (s : (Nat → Int64) × (Nat → Int32) × Int32) => wY_learnSome_32 post (nI a) (nI b) m (nI c) n s.2.2 (nI i) kn ro va st re ne s.1 s.2.1) (fun i s => s = cz_fo (cz_lf st a b m) i (kw, ss, 0)) c (kw, ss, 0) rfl
    (fun n s h => by subst h; exact br_t (nI_le (Nat.le_refl c) (by omega)) hp)
    (fun n i s hi h ih => by
      have hn : cz_lf st a b m i s = cz_fo (cz_lf st a b m) (i + 1) (kw, ss, 0) := by subst h; rfl
      clear h hp
      have h6 : i < 60 := by omega
      have vi : vp_in (nI i) 60 := vp_in_nI h6 (by decide)
      have v3 : vp_in (nI a) 3 := vp_in_nI ha (by decide)
      have vb : vp_in (nI b) 3 := vp_in_nI hb (by decide)
      refine br_f (nI_ge hi (by omega)) (br_c (fun le => nm_r (nI_1 i) (ih s ?_)) (fun nle => ⟨vb, cy_in h6 (fun kb => br_f (by decide) ⟨v3, cy_in h6 (fun ka => br_f (by decide) (nm_r (nI_1 i) (ih s ?_))) (fun ka => br_t rfl ⟨v3, v3, ?_⟩)⟩) (fun kb => br_t rfl (nm_r (nI_1 i) (ih s ?_)))⟩))
      · rw [← hn]
        exact (cz_lf_f (fun z => Int32.not_lt.mpr le z.1)).symm
      · rw [cz_cl3 ha] at ka
        rw [← hn]
        exact (cz_lf_f (fun z => by rw [ka] at z; cases z.2.2)).symm
      · have lt := Int32.not_le.mp nle
        rw [cz_cl3 ha] at ka
        rw [cz_cl3 hb] at kb
        have ht := cz_lf_t (st := st) lt kb ka
        rw [hn] at ht
        refine nm_r (e' := vp_updL s.1 a (s.1 a ||| ((1 : Int64) <<< ((nI i).toInt64 &&& 63)))) (by rw [cz_cl3 ha]) ⟨vi, v3, br_c (fun z => nm_e (nm_r (nI_1 i) (ih (_, _, _) ?_))) (fun z => ⟨vi, v3, nm_r (e' := upd s.2.1 a (st i)) (by rw [cz_cl3 ha, cz_cl h6]) (nm_e (nm_r (nI_1 i) (ih (_, _, _) ?_)))⟩)⟩
        · rw [cz_cl3 ha, cz_cl h6] at z
          rw [if_neg (Int32.not_lt.mpr z)] at ht
          exact ht.symm
        · rw [cz_cl3 ha, cz_cl h6] at z
          rw [if_pos (Int32.not_le.mp z)] at ht
          exact ht.symm
      · rw [cz_cl3 hb] at kb
        rw [← hn]
        exact (cz_lf_f (fun z => by rw [kb] at z; cases z.2.1)).symm)
theorem cy_learnS {post : Int32 → SY → Prop} (to fr m : Int32) (h1 : cz_bad 3 to ∨ cz_bad 3 fr → post (-1) (nI c, kn, ro, va, st, re, ne, kw, ss)) (h2 : ∀ a, a < 3 → to = nI a → fr = nI a → post (-5) (nI c, kn, ro, va, st, re, ne, kw, ss)) (hc : c ≤ 60) (h3 : ∀ a b, a < 3 → b < 3 → to = nI a → fr = nI b → ¬ a = b → post (cz_fo (cz_lf st a b m) c (kw, ss, 0)).2.2 (nI c, kn, ro, va, st, re, ne, (cz_fo (cz_lf st a b m) c (kw, ss, 0)).1, (cz_fo (cz_lf st a b m) c (kw, ss, 0)).2.1)) : wpY_learnSome post (nI c, kn, ro, va, st, re, ne, kw, ss) to fr m := by
  unfold wpY_learnSome
  rcases cz_ix to (n := 3) (by decide) with hb | ⟨a, ha, rfl⟩
  · exact cy_rep_f hb (br_f (by decide) (h1 (Or.inl hb)))
  · refine cy_rep_t ha (br_t rfl ?_)
    rcases cz_ix fr (n := 3) (by decide) with hb | ⟨b, hb, rfl⟩
    · exact cy_rep_f hb (br_f (by decide) (h1 (Or.inr hb)))
    · refine cy_rep_t hb (br_t rfl (br_c (fun e => h2 a ha rfl e.symm) (fun e => cy_learn0 hc ha hb m (h3 a b ha hb rfl rfl (fun z => e (by rw [z]))))))
theorem cz_LEARN (kk : Nat) (H : cz_Inv c kn ro ca ne kw) (to fr m : Int32) (W : (Int32 → SY → Prop) → Prop) (hW : ∀ post, wpY_learnSome post (nI c, kn, ro, va, st, re, ne, kw, ss) to fr m → W post) : wpX_learnAtMost (fun r' u' => W (fun r'' v' => r'' = r' ∧ i_Rel kk u' v')) (nI c, kn, ro, va, re, st, ca, kw, ss) to fr m := by
  unfold wpX_learnAtMost
  have hr := cz_rel (va := va) (re := re) (st := st) (ss := ss) kk H
  rcases cz_ix to (n := 3) (by decide) with hb | ⟨a, ha, rfl⟩
  · exact cx_rep_f hb (br_t rfl (hW _ (cy_learnS _ _ _ (fun _ => ⟨rfl, hr⟩) (fun a ha e => absurd e (cz_bad_ne (by decide) hb ha)) H.1 (fun a b ha _ e => absurd e (cz_bad_ne (by decide) hb ha)))))
  · refine cx_rep_t ha (br_f (by decide) ?_)
    rcases cz_ix fr (n := 3) (by decide) with hb | ⟨b, hb, rfl⟩
    · exact cx_rep_f hb (br_t rfl (hW _ (cy_learnS _ _ _ (fun _ => ⟨rfl, hr⟩) (fun a ha _ e => absurd e (cz_bad_ne (by decide) hb ha)) H.1 (fun a b _ hb' _ e => absurd e (cz_bad_ne (by decide) hb hb')))))
    · have n1 : ¬ (cz_bad 3 (nI a) ∨ cz_bad 3 (nI b)) := by
        rintro (z | z)
        · exact cz_bad_ne (by decide) z ha rfl
        · exact cz_bad_ne (by decide) z hb rfl
      have ij : ∀ {p q : Nat}, p < 3 → q < 3 → nI p = nI q → p = q := fun hp hq e => (nI_eq (by omega) (by omega)).mp e
      refine cx_rep_t hb (br_f (by decide) (br_c (fun e => ?_) (fun e => ?_)))
      · have e := ij ha hb e
        subst e
        exact hW _ (cy_learnS _ _ _ (fun z => absurd z n1) (fun _ _ _ _ => ⟨rfl, hr⟩) H.1 (fun p q hp hq ep eq ne => absurd ((ij ha hp ep).symm.trans (ij ha hq eq)) ne))
      · refine cx_learn0 ha hb m ?_
        rw [cz_lf_end H a hb m]
        refine hW _ (cy_learnS _ _ _ (fun z => absurd z n1) (fun p hp ep eq => absurd (ep.trans eq.symm) e) H.1 (fun p q hp hq ep eq _ => ?_))
        have ep := ij ha hp ep
        have eq := ij hb hq eq
        subst ep
        subst eq
        exact ⟨rfl, cz_rel kk (cz_lf_inv H a b m c (Nat.le_refl c))⟩
end
