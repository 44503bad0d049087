/-! the writers: an action -/
section
variable {c : Nat} {kn ro va re st : Nat → Int32} {ca ne kw : Nat → Int64} {ss : Nat → Int32}
theorem cx_act72 {post : Int32 → SX → Prop} {a : Nat} (hc : c < 60) (ha : a < 3) (x : Int64) (hp : post (nI c) (nI (c + 1), kn, ro, va, re, upd st c (upd ss a (ss a + 1) a), vp_updL ca c x, vp_updL kw a (kw a ||| ((1 : Int64) <<< ((nI c).toInt64 &&& 63))), upd ss a (ss a + 1))) : wX_act_72 post (nI a) (nI c) x (nI c) (nI c) kn ro va re st ca kw ss := by
  have v : vp_in (nI c) 60 := vp_in_nI hc (by decide)
  have v3 : vp_in (nI a) 3 := vp_in_nI ha (by decide)
  exact ⟨v, nm_r (e' := vp_updL ca c x) (by rw [cz_cl hc]) ⟨v3, v3, nm_r (e' := upd ss a (ss a + 1)) (by rw [cz_cl3 ha]) ⟨v3, v, nm_r (e' := upd st c (upd ss a (ss a + 1) a)) (by rw [cz_cl hc, cz_cl3 ha]) ⟨v3, v3, nm_r (e' := vp_updL kw a (kw a ||| ((1 : Int64) <<< ((nI c).toInt64 &&& 63)))) (by rw [cz_cl3 ha]) (nm_r (nI_1 c) hp)⟩⟩⟩⟩
theorem cx_act {post : Int32 → SX → Prop} {a : Nat} (H : cz_Inv c kn ro ca ne kw) (ha : a < 3) (k row val : Int32) (hF : ¬ c < 60 → post (-3) (nI c, kn, ro, va, re, st, ca, kw, ss)) (hA : c < 60 → ∀ x : Int64, (k = 1 → x = cz_fo (cz_fold (kw a) (upd kn c k) (upd ro c row) 0 row (fun i (s : Int64) => s ||| ((1 : Int64) <<< ((nI i).toInt64 &&& 63)))) 60 0) → post (nI c) (nI (c + 1), upd kn c k, upd ro c row, upd va c val, upd re c (nI a), upd st c (upd ss a (ss a + 1) a), vp_updL ca c x, vp_updL kw a (kw a ||| ((1 : Int64) <<< ((nI c).toInt64 &&& 63))), upd ss a (ss a + 1))) : wpX_act post (nI c, kn, ro, va, re, st, ca, kw, ss) (nI a) k row val := by
  by_cases hc : c < 60
  · have v : vp_in (nI c) 60 := vp_in_nI hc (by decide)
    refine br_t (nI_lt (b := 60) hc (by decide)) ⟨v, nm_r (e' := upd kn c k) (by rw [cz_cl hc]) ⟨v, nm_r (e' := upd ro c row) (by rw [cz_cl hc]) ⟨v, nm_r (e' := upd va c val) (by rw [cz_cl hc]) ⟨v, nm_r (e' := upd re c (nI a)) (by rw [cz_cl hc]) (br_c (fun k1 => cx_adds ha row (cx_act72 hc ha _ (hA hc _ (fun _ => rfl)))) (fun k1 => cx_act72 hc ha _ (hA hc _ (fun z => absurd z k1))))⟩⟩⟩⟩
  · exact br_f (nI_nlt (b := 60) (by omega) (by have := H.1; omega)) (hF hc)
theorem cy_act57 {post : Int32 → SY → Prop} {a : Nat} (h6 : c ≤ 60) (ha : a < 3) (k row val : Int32) (hF : ¬ c < 60 → post (-3) (nI c, kn, ro, va, st, re, ne, kw, ss)) (hA : c < 60 → post (nI c) (nI (c + 1), upd kn c k, upd ro c row, upd va c val, upd st c (upd ss a (ss a + 1) a), upd re c (nI a), vp_updL ne c (kw a), vp_updL kw a (kw a ||| ((1 : Int64) <<< ((nI c).toInt64 &&& 63))), upd ss a (ss a + 1))) : wY_act_57 post (nI a) k row val (nI c) kn ro va st re ne kw ss := by
  by_cases hc : c < 60
  · have v : vp_in (nI c) 60 := vp_in_nI hc (by decide)
    have v3 : vp_in (nI a) 3 := vp_in_nI ha (by decide)
    have n6 : ¬ nI c = 60 := fun z => by
      have := (nI_eq (a := c) (b := 60) (by omega) (by decide)).mp z
      omega
    exact br_f n6 ⟨v, nm_r (e' := upd kn c k) (by rw [cz_cl hc]) ⟨v, nm_r (e' := upd ro c row) (by rw [cz_cl hc]) ⟨v, nm_r (e' := upd va c val) (by rw [cz_cl hc]) ⟨v, nm_r (e' := upd re c (nI a)) (by rw [cz_cl hc]) ⟨v3, v, nm_r (e' := vp_updL ne c (kw a)) (by rw [cz_cl hc, cz_cl3 ha]) ⟨v3, v3, nm_r (e' := upd ss a (ss a + 1)) (by rw [cz_cl3 ha]) ⟨v3, v, nm_r (e' := upd st c (upd ss a (ss a + 1) a)) (by rw [cz_cl hc, cz_cl3 ha]) ⟨v3, v3, nm_r (e' := vp_updL kw a (kw a ||| ((1 : Int64) <<< ((nI c).toInt64 &&& 63)))) (by rw [cz_cl3 ha]) (nm_r (nI_1 c) (hA hc))⟩⟩⟩⟩⟩⟩⟩⟩
  · have e : c = 60 := by omega
    exact br_t (by rw [e]; rfl) (hF hc)
theorem cy_act41 {post : Int32 → SY → Prop} {a : Nat} {row : Int32} (h6 : c ≤ 60) (ha : a < 3) (k val : Int32) (hT : ¬ k = 0 → cz_tv c kn ro ne kw (nI a) row = 0 → post (-4) (nI c, kn, ro, va, st, re, ne, kw, ss)) (hF : ¬ c < 60 → (k = 0 ∨ ¬ cz_tv c kn ro ne kw (nI a) row = 0) → post (-3) (nI c, kn, ro, va, st, re, ne, kw, ss)) (hA : c < 60 → (k = 0 ∨ ¬ cz_tv c kn ro ne kw (nI a) row = 0) → post (nI c) (nI (c + 1), upd kn c k, upd ro c row, upd va c val, upd st c (upd ss a (ss a + 1) a), upd re c (nI a), vp_updL ne c (kw a), vp_updL kw a (kw a ||| ((1 : Int64) <<< ((nI c).toInt64 &&& 63))), upd ss a (ss a + 1))) : wY_act_41 post (nI a) k row val (nI c) kn ro va st re ne kw ss :=
  br_c (fun k0 => cy_act57 h6 ha k row val (fun z => hF z (Or.inl k0)) (fun z => hA z (Or.inl k0))) (fun k0 => cy_there h6 (nI a) row (br_c (fun t => hT k0 t) (fun t => cy_act57 h6 ha k row val (fun z => hF z (Or.inr t)) (fun z => hA z (Or.inr t)))))
theorem cy_act_rep {post : Int32 → SY → Prop} {r k row val : Int32} (hb : cz_bad 3 r) (h : post (-1) (nI c, kn, ro, va, st, re, ne, kw, ss)) : wpY_act post (nI c, kn, ro, va, st, re, ne, kw, ss) r k row val := by
  unfold wpY_act
  exact cy_rep_f hb (br_f (by decide) h)
theorem cy_act_row {post : Int32 → SY → Prop} {a : Nat} {k row val : Int32} (ha : a < 3) (hb : cz_bad 8 row) (h : post (-2) (nI c, kn, ro, va, st, re, ne, kw, ss)) : wpY_act post (nI c, kn, ro, va, st, re, ne, kw, ss) (nI a) k row val := by
  unfold wpY_act
  exact cy_rep_t ha (br_t rfl (cy_row_f hb (br_f (by decide) h)))
theorem cy_act_to {post : Int32 → SY → Prop} {a : Nat} {row val : Int32} (ha : a < 3) (hv : ¬ val = -1) (hb : cz_bad 8 val) (h : post (-2) (nI c, kn, ro, va, st, re, ne, kw, ss)) : wpY_act post (nI c, kn, ro, va, st, re, ne, kw, ss) (nI a) 4 row val := by
  rcases cz_ix row (n := 8) (by decide) with hr | ⟨q, hq, rfl⟩
  · exact cy_act_row ha hr h
  · unfold wpY_act
    exact cy_rep_t ha (br_t rfl (cy_row_t hq (br_t rfl (br_t rfl (br_f hv (cy_row_f hb (br_f (by decide) h)))))))
theorem cy_act_go {post : Int32 → SY → Prop} {a q : Nat} {k val : Int32} (ha : a < 3) (hq : q < 8) (hv : k = 4 → val = -1 ∨ ∃ t, t < 8 ∧ val = nI t) (h : wY_act_41 post (nI a) k (nI q) val (nI c) kn ro va st re ne kw ss) : wpY_act post (nI c, kn, ro, va, st, re, ne, kw, ss) (nI a) k (nI q) val := by
  unfold wpY_act
  refine cy_rep_t ha (br_t rfl (cy_row_t hq (br_t rfl (br_c (fun k4 => br_c (fun _ => h) (fun n1 => ?_)) (fun _ => h)))))
  obtain ⟨t, ht, e⟩ := (hv k4).resolve_left n1
  rw [e] at h ⊢
  exact cy_row_t ht (br_t rfl h)
end
/-- both sides hold the same actions, known sets and stamps; a DROP's cancelled ADDs are those of its row in what the replica knew -/
def i_Rel (_ : Nat) (u : SX) (v : SY) : Prop := ∃ (c : Nat) (kn ro va re st : Nat → Int32) (ca ne kw : Nat → Int64) (ss : Nat → Int32), u = (nI c, kn, ro, va, re, st, ca, kw, ss) ∧ v = (nI c, kn, ro, va, st, re, ne, kw, ss) ∧ cz_Inv c kn ro ca ne kw
section
variable {c : Nat} {kn ro va re st : Nat → Int32} {ca ne kw : Nat → Int64} {ss : Nat → Int32}
theorem cz_rel (kk : Nat) (H : cz_Inv c kn ro ca ne kw) : i_Rel kk (nI c, kn, ro, va, re, st, ca, kw, ss) (nI c, kn, ro, va, st, re, ne, kw, ss) := ⟨c, kn, ro, va, re, st, ca, ne, kw, ss, rfl, rfl, H⟩
theorem cz_rel_act (kk : Nat) {a : Nat} (H : cz_Inv c kn ro ca ne kw) (hc : c < 60) (ha : a < 3) (k row val : Int32) (x : Int64) (hx : k = 1 → x = cz_fo (cz_fold (kw a) (upd kn c k) (upd ro c row) 0 row (fun i (s : Int64) => s ||| ((1 : Int64) <<< ((nI i).toInt64 &&& 63)))) 60 0) : i_Rel kk (nI (c + 1), upd kn c k, upd ro c row, upd va c val, upd re c (nI a), upd st c (upd ss a (ss a + 1) a), vp_updL ca c x, vp_updL kw a (kw a ||| ((1 : Int64) <<< ((nI c).toInt64 &&& 63))), upd ss a (ss a + 1)) (nI (c + 1), upd kn c k, upd ro c row, upd va c val, upd st c (upd ss a (ss a + 1) a), upd re c (nI a), vp_updL ne c (kw a), vp_updL kw a (kw a ||| ((1 : Int64) <<< ((nI c).toInt64 &&& 63))), upd ss a (ss a + 1)) := by
  refine cz_rel kk (cz_Inv_act H hc ha k row x (fun k1 j hj => ?_))
  rw [hx k1, cz_adds _ _ _ 0 row 60 (by omega) j]
  exact ⟨fun z => z.2, fun z => ⟨hj, z⟩⟩
theorem cz_ART (kk : Nat) (H : cz_Inv c kn ro ca ne kw) (r k row val : Int32) (hk : ¬ k = 0) (hv : k = 4 → val = -1 ∨ ∃ t, t < 8 ∧ val = nI t) (W : (Int32 → SY → Prop) → Prop) (hW : ∀ post, wpY_act post (nI c, kn, ro, va, st, re, ne, kw, ss) r k row val → W post) : wpX_actOnRowThere (fun r' u' => W (fun r'' v' => r'' = r' ∧ i_Rel kk u' v')) (nI c, kn, ro, va, re, st, ca, kw, ss) r k row val := by
  unfold wpX_actOnRowThere
  have hr := cz_rel (va := va) (re := re) (st := st) (ss := ss) kk H
  rcases cz_ix r (n := 3) (by decide) with hb | ⟨a, ha, rfl⟩
  · exact cx_rep_f hb (br_t rfl (hW _ (cy_act_rep hb ⟨rfl, hr⟩)))
  · refine cx_rep_t ha (br_f (by decide) ?_)
    rcases cz_ix row (n := 8) (by decide) with hb | ⟨q, hq, rfl⟩
    · exact cx_row_f hb (br_t rfl (hW _ (cy_act_row ha hb ⟨rfl, hr⟩)))
    · refine cx_row_t hq (br_f (by decide) (cx_there H (nI a) (nI q) (br_c (fun t => ?_) (fun t => ?_))))
      · exact hW _ (cy_act_go ha hq hv (cy_act41 H.1 ha k val (fun _ _ => ⟨rfl, hr⟩) (fun _ z => absurd t (z.resolve_left hk)) (fun _ z => absurd t (z.resolve_left hk))))
      · refine cx_act H ha k (nI q) val (fun hc => ?_) (fun hc x hx => ?_)
        · exact hW _ (cy_act_go ha hq hv (cy_act41 H.1 ha k val (fun _ z => absurd z t) (fun _ _ => ⟨rfl, hr⟩) (fun z => absurd z hc)))
        · exact hW _ (cy_act_go ha hq hv (cy_act41 H.1 ha k val (fun _ z => absurd z t) (fun z => absurd hc z) (fun _ _ => ⟨rfl, cz_rel_act kk H hc ha k (nI q) val x hx⟩)))
theorem cz_ADD (kk : Nat) (H : cz_Inv c kn ro ca ne kw) (r row : Int32) (W : (Int32 → SY → Prop) → Prop) (hW : ∀ post, wpY_act post (nI c, kn, ro, va, st, re, ne, kw, ss) r 0 row 0 → W post) : wpX_add (fun r' u' => W (fun r'' v' => r'' = r' ∧ i_Rel kk u' v')) (nI c, kn, ro, va, re, st, ca, kw, ss) r row := by
  unfold wpX_add
  have hr := cz_rel (va := va) (re := re) (st := st) (ss := ss) kk H
  rcases cz_ix r (n := 3) (by decide) with hb | ⟨a, ha, rfl⟩
  · exact cx_rep_f hb (br_t rfl (hW _ (cy_act_rep hb ⟨rfl, hr⟩)))
  · refine cx_rep_t ha (br_f (by decide) ?_)
    rcases cz_ix row (n := 8) (by decide) with hb | ⟨q, hq, rfl⟩
    · exact cx_row_f hb (br_t rfl (hW _ (cy_act_row ha hb ⟨rfl, hr⟩)))
    · refine cx_row_t hq (br_f (by decide) (cx_act H ha 0 (nI q) 0 (fun hc => ?_) (fun hc x hx => ?_)))
      · exact hW _ (cy_act_go ha hq (fun z => absurd z (by decide)) (cy_act41 H.1 ha 0 0 (fun z => absurd rfl z) (fun _ _ => ⟨rfl, hr⟩) (fun z => absurd z hc)))
      · exact hW _ (cy_act_go ha hq (fun z => absurd z (by decide)) (cy_act41 H.1 ha 0 0 (fun z => absurd rfl z) (fun z => absurd hc z) (fun _ _ => ⟨rfl, cz_rel_act kk H hc ha 0 (nI q) 0 x hx⟩)))
theorem cz_LINK (kk : Nat) (H : cz_Inv c kn ro ca ne kw) (r row val : Int32) (W : (Int32 → SY → Prop) → Prop) (hW : ∀ post, wpY_act post (nI c, kn, ro, va, st, re, ne, kw, ss) r 4 row val → W post) : wpX_link (fun r' u' => W (fun r'' v' => r'' = r' ∧ i_Rel kk u' v')) (nI c, kn, ro, va, re, st, ca, kw, ss) r row val := by
  unfold wpX_link
  have hr := cz_rel (va := va) (re := re) (st := st) (ss := ss) kk H
  rcases cz_ix r (n := 3) (by decide) with hb | ⟨a, ha, rfl⟩
  · exact cx_rep_f hb (br_t rfl (hW _ (cy_act_rep hb ⟨rfl, hr⟩)))
  · refine cx_rep_t ha (br_f (by decide) (br_c (fun e => ?_) (fun e => ?_)))
    · exact cz_ART kk H (nI a) 4 row val (by decide) (fun _ => Or.inl e) W hW
    · rcases cz_ix val (n := 8) (by decide) with hb | ⟨t, ht, et⟩
      · exact cx_row_f hb (br_t rfl (hW _ (cy_act_to ha e hb ⟨rfl, hr⟩)))
      · rw [et] at hW ⊢
        exact cx_row_t ht (br_f (by decide) (cz_ART kk H (nI a) 4 row (nI t) (by decide) (fun _ => Or.inr ⟨t, ht, rfl⟩) W hW))
end
