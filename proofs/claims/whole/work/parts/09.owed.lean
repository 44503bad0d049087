/-! what is owed -/
theorem i_up {k : Nat} {u : SX} {v : SY} (h : i_Rel k u v) : i_Rel (k + 4) u v := h
theorem i_vc0 : wpX_init (fun u => wpY_init (fun v => i_Rel 0 u v)) := by
  refine ⟨0, fun _ => 0, fun _ => 0, fun _ => 0, fun _ => 0, fun _ => 0, fun _ => 0, fun _ => 0, fun _ => 0, fun _ => 0, rfl, rfl, by omega, ?_, ?_, ?_⟩
  · intro r _ j _; exact cz_0 j
  · intro a ha; omega
  · intro a ha; omega
theorem i_vc_add {k : Nat} {u : SX} {v : SY} (I : i_Rel k u v) (hk : k + 4 ≤ 2048) (v1 : Int32) (v2 : Int32) : wpX_add (fun r u' => wpY_add (fun r' v' => r' = r ∧ i_Rel (k + 4) u' v') v v1 v2) u v1 v2 := by
  obtain ⟨c, kn, ro, va, re, st, ca, ne, kw, ss, rfl, rfl, H⟩ := I
  exact cz_ADD (k + 4) H v1 v2 (fun post => wpY_add post (nI c, kn, ro, va, st, re, ne, kw, ss) v1 v2) (fun post h => h)
theorem i_vc_drop {k : Nat} {u : SX} {v : SY} (I : i_Rel k u v) (hk : k + 4 ≤ 2048) (v1 : Int32) (v2 : Int32) : wpX_drop (fun r u' => wpY_drop (fun r' v' => r' = r ∧ i_Rel (k + 4) u' v') v v1 v2) u v1 v2 := by
  obtain ⟨c, kn, ro, va, re, st, ca, ne, kw, ss, rfl, rfl, H⟩ := I
  exact cz_ART (k + 4) H v1 1 v2 0 (by decide) (fun z => absurd z (by decide)) (fun post => wpY_drop post (nI c, kn, ro, va, st, re, ne, kw, ss) v1 v2) (fun post h => h)
theorem i_vc_name {k : Nat} {u : SX} {v : SY} (I : i_Rel k u v) (hk : k + 4 ≤ 2048) (v1 : Int32) (v2 : Int32) (v3 : Int32) : wpX_name (fun r u' => wpY_name (fun r' v' => r' = r ∧ i_Rel (k + 4) u' v') v v1 v2 v3) u v1 v2 v3 := by
  obtain ⟨c, kn, ro, va, re, st, ca, ne, kw, ss, rfl, rfl, H⟩ := I
  exact cz_ART (k + 4) H v1 2 v2 v3 (by decide) (fun z => absurd z (by decide)) (fun post => wpY_name post (nI c, kn, ro, va, st, re, ne, kw, ss) v1 v2 v3) (fun post h => h)
theorem i_vc_count {k : Nat} {u : SX} {v : SY} (I : i_Rel k u v) (hk : k + 4 ≤ 2048) (v1 : Int32) (v2 : Int32) (v3 : Int32) : wpX_count (fun r u' => wpY_count (fun r' v' => r' = r ∧ i_Rel (k + 4) u' v') v v1 v2 v3) u v1 v2 v3 := by
  obtain ⟨c, kn, ro, va, re, st, ca, ne, kw, ss, rfl, rfl, H⟩ := I
  exact cz_ART (k + 4) H v1 3 v2 v3 (by decide) (fun z => absurd z (by decide)) (fun post => wpY_count post (nI c, kn, ro, va, st, re, ne, kw, ss) v1 v2 v3) (fun post h => h)
theorem i_vc_link {k : Nat} {u : SX} {v : SY} (I : i_Rel k u v) (hk : k + 4 ≤ 2048) (v1 : Int32) (v2 : Int32) (v3 : Int32) : wpX_link (fun r u' => wpY_link (fun r' v' => r' = r ∧ i_Rel (k + 4) u' v') v v1 v2 v3) u v1 v2 v3 := by
  obtain ⟨c, kn, ro, va, re, st, ca, ne, kw, ss, rfl, rfl, H⟩ := I
  exact cz_LINK (k + 4) H v1 v2 v3 (fun post => wpY_link post (nI c, kn, ro, va, st, re, ne, kw, ss) v1 v2 v3) (fun post h => h)
theorem i_vc_learn {k : Nat} {u : SX} {v : SY} (I : i_Rel k u v) (hk : k + 4 ≤ 2048) (v1 : Int32) (v2 : Int32) : wpX_learn (fun r u' => wpY_learn (fun r' v' => r' = r ∧ i_Rel (k + 4) u' v') v v1 v2) u v1 v2 := by
  obtain ⟨c, kn, ro, va, re, st, ca, ne, kw, ss, rfl, rfl, H⟩ := I
  exact cz_LEARN (k + 4) H v1 v2 60 (fun post => wpY_learn post (nI c, kn, ro, va, st, re, ne, kw, ss) v1 v2) (fun post h => h)
theorem i_vc_learnSome {k : Nat} {u : SX} {v : SY} (I : i_Rel k u v) (hk : k + 4 ≤ 2048) (v1 : Int32) (v2 : Int32) (v3 : Int32) : wpX_learnSome (fun r u' => wpY_learnSome (fun r' v' => r' = r ∧ i_Rel (k + 4) u' v') v v1 v2 v3) u v1 v2 v3 := by
  obtain ⟨c, kn, ro, va, re, st, ca, ne, kw, ss, rfl, rfl, H⟩ := I
  exact cz_LEARN (k + 4) H v1 v2 v3 (fun post => wpY_learnSome post (nI c, kn, ro, va, st, re, ne, kw, ss) v1 v2 v3) (fun post h => h)
theorem i_vc_there {k : Nat} {u : SX} {v : SY} (I : i_Rel k u v) (hk : k + 4 ≤ 2048) (v1 : Int32) (v2 : Int32) : wpX_there (fun r => wpY_there (fun r' => r' = r ∧ i_Rel (k + 4) u v) v v1 v2) u v1 v2 := by
  obtain ⟨c, kn, ro, va, re, st, ca, ne, kw, ss, rfl, rfl, H⟩ := I
  exact cx_there H v1 v2 (cy_there H.1 v1 v2 ⟨rfl, cz_rel _ H⟩)
theorem i_vc_nameOf {k : Nat} {u : SX} {v : SY} (I : i_Rel k u v) (hk : k + 4 ≤ 2048) (v1 : Int32) (v2 : Int32) : wpX_nameOf (fun r => wpY_nameOf (fun r' => r' = r ∧ i_Rel (k + 4) u v) v v1 v2) u v1 v2 := by
  obtain ⟨c, kn, ro, va, re, st, ca, ne, kw, ss, rfl, rfl, H⟩ := I
  exact cx_nameOf H v1 v2 (cy_nameOf H v1 v2 ⟨rfl, cz_rel _ H⟩)
theorem i_vc_countOf {k : Nat} {u : SX} {v : SY} (I : i_Rel k u v) (hk : k + 4 ≤ 2048) (v1 : Int32) (v2 : Int32) : wpX_countOf (fun r => wpY_countOf (fun r' => r' = r ∧ i_Rel (k + 4) u v) v v1 v2) u v1 v2 := by
  obtain ⟨c, kn, ro, va, re, st, ca, ne, kw, ss, rfl, rfl, H⟩ := I
  exact cx_countOf H v1 v2 (cy_countOf H v1 v2 ⟨rfl, cz_rel _ H⟩)
theorem i_vc_linkOf {k : Nat} {u : SX} {v : SY} (I : i_Rel k u v) (hk : k + 4 ≤ 2048) (v1 : Int32) (v2 : Int32) : wpX_linkOf (fun r => wpY_linkOf (fun r' => r' = r ∧ i_Rel (k + 4) u v) v v1 v2) u v1 v2 := by
  obtain ⟨c, kn, ro, va, re, st, ca, ne, kw, ss, rfl, rfl, H⟩ := I
  exact cx_linkOf H v1 v2 (cy_linkOf H v1 v2 ⟨rfl, cz_rel _ H⟩)
theorem i_vc_rows {k : Nat} {u : SX} {v : SY} (I : i_Rel k u v) (hk : k + 4 ≤ 2048) (v1 : Int32) : wpX_rows (fun r => wpY_rows (fun r' => r' = r ∧ i_Rel (k + 4) u v) v v1) u v1 := by
  obtain ⟨c, kn, ro, va, re, st, ca, ne, kw, ss, rfl, rfl, H⟩ := I
  unfold wpX_rows wpY_rows
  rcases cz_ix v1 (n := 3) (by decide) with hb | ⟨a, ha, rfl⟩
  · exact cx_rep_f hb (br_t rfl (cy_rep_f hb (br_f (by decide) ⟨rfl, cz_rel _ H⟩)))
  · exact cx_rep_t ha (br_f (by decide) (cx_rows0 H (nI a) (cy_rep_t ha (br_t rfl (cy_rows0 H (nI a) ⟨rfl, cz_rel _ H⟩)))))
theorem i_vc_sum {k : Nat} {u : SX} {v : SY} (I : i_Rel k u v) (hk : k + 4 ≤ 2048) (v1 : Int32) : wpX_sum (fun r => wpY_sum (fun r' => r' = r ∧ i_Rel (k + 4) u v) v v1) u v1 := by
  obtain ⟨c, kn, ro, va, re, st, ca, ne, kw, ss, rfl, rfl, H⟩ := I
  unfold wpX_sum wpY_sum
  rcases cz_ix v1 (n := 3) (by decide) with hb | ⟨a, ha, rfl⟩
  · exact cx_rep_f hb (br_t rfl (cy_rep_f hb (br_f (by decide) ⟨rfl, cz_rel _ H⟩)))
  · exact cx_rep_t ha (br_f (by decide) (cx_sum0 H (nI a) (cy_rep_t ha (br_t rfl (cy_sum0 H (nI a) ⟨rfl, cz_rel _ H⟩)))))
theorem i_vc_known {k : Nat} {u : SX} {v : SY} (I : i_Rel k u v) (hk : k + 4 ≤ 2048) (v1 : Int32) : wpX_known (fun r => wpY_known (fun r' => r' = r ∧ i_Rel (k + 4) u v) v v1) u v1 := by
  obtain ⟨c, kn, ro, va, re, st, ca, ne, kw, ss, rfl, rfl, H⟩ := I
  unfold wpX_known wpY_known
  rcases cz_ix v1 (n := 3) (by decide) with hb | ⟨a, ha, rfl⟩
  · exact cx_rep_f hb (br_t rfl (cy_rep_f hb (br_f (by decide) ⟨rfl, cz_rel _ H⟩)))
  · refine cx_rep_t ha (br_f (by decide) (cx_known0 ha ?_))
    rw [cz_kf_end ha H]
    exact cy_rep_t ha (br_t rfl (cy_known0 H.1 ha ⟨rfl, cz_rel _ H⟩))
theorem i_vc_agree {k : Nat} {u : SX} {v : SY} (I : i_Rel k u v) (hk : k + 4 ≤ 2048) (v1 : Int32) (v2 : Int32) : wpX_agree (fun r => wpY_agree (fun r' => r' = r ∧ i_Rel (k + 4) u v) v v1 v2) u v1 v2 := by
  obtain ⟨c, kn, ro, va, re, st, ca, ne, kw, ss, rfl, rfl, H⟩ := I
  unfold wpX_agree wpY_agree
  rcases cz_ix v1 (n := 3) (by decide) with hb | ⟨a, ha, rfl⟩
  · exact cx_rep_f hb (br_t rfl (cy_rep_f hb (br_f (by decide) ⟨rfl, cz_rel _ H⟩)))
  · refine cx_rep_t ha (br_f (by decide) ?_)
    rcases cz_ix v2 (n := 3) (by decide) with hb | ⟨b, hb, rfl⟩
    · exact cx_rep_f hb (br_t rfl (cy_rep_t ha (br_t rfl (cy_rep_f hb (br_f (by decide) ⟨rfl, cz_rel _ H⟩)))))
    · refine cx_rep_t hb (br_f (by decide) (cx_agree0 H (nI a) (nI b) (fun z => ?_) (fun z => ?_)))
      · exact cy_rep_t ha (br_t rfl (cy_rep_t hb (br_t rfl (cy_agree0 H (nI a) (nI b) (fun _ => ⟨rfl, cz_rel _ H⟩) (fun y => absurd z y)))))
      · exact cy_rep_t ha (br_t rfl (cy_rep_t hb (br_t rfl (cy_agree0 H (nI a) (nI b) (fun y => absurd y z) (fun _ => ⟨rfl, cz_rel _ H⟩)))))
