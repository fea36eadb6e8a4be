/-! the tokens -/
theorem i_vc_num {k : Nat} {u : SX} {v : SY} (I : i_Rel k u v) (hk : k + 3 ≤ 1536) (v1 : Int32) : wpX_num (fun r u' => wpY_num (fun r' v' => r' = r ∧ i_Rel (k + 3) u' v') v v1) u v1 := by
  obtain ⟨dL, dH, ph, nd, tp, inp, bK, bF, bS, bL, dK, dF, dS, st, sv, sn, sb, vb, pl, kd, fi, se, sz, vl, ns, ov, ok, rfl, rfl, hB, hD, hO⟩ := I
  unfold wpX_num
  rcases rq_appAll (k := k + 3) (ph := ph) (nd := nd) (tp := tp) (inp := inp) (st := st) (sv := sv) (sn := sn) (sb := sb) (vb := vb) (pl := pl) (vl := vl) (ns := ns) (ov := ov) (ok := ok) (t := 0) (a := 4) (b := 0) (f := v1) (s := 0) (w := 1) (by omega) rq_tk0a (fun g _ => Or.inl ⟨rfl, rfl, rfl⟩) rq_w1 hB hD hO with ⟨z, hX⟩ | ⟨z, g, e, _, lt, _⟩ | ⟨z, g, e, _, le, r, u', v', R, hX, hY⟩
  · refine hX _ ?_
    unfold wpY_num
    exact br_t z ⟨rfl, rq_mk hB hD hO⟩
  · exact absurd lt (Nat.not_lt_zero g)
  · obtain ⟨x0, x1, x2, x3, x4, x5, x6, x7, x8, x9, x10, x11, x12, x13, x14, x15, x16, x17⟩ := u'
    obtain ⟨y0, y1, y2, y3, y4, y5, y6, y7, y8, y9, y10, y11, y12⟩ := v'
    refine hX _ ?_
    unfold wpY_num
    exact br_f z (hY _ ⟨rfl, R⟩)
theorem i_vc_input {k : Nat} {u : SX} {v : SY} (I : i_Rel k u v) (hk : k + 3 ≤ 1536) (v1 : Int32) : wpX_input (fun r u' => wpY_input (fun r' v' => r' = r ∧ i_Rel (k + 3) u' v') v v1) u v1 := by
  obtain ⟨dL, dH, ph, nd, tp, inp, bK, bF, bS, bL, dK, dF, dS, st, sv, sn, sb, vb, pl, kd, fi, se, sz, vl, ns, ov, ok, rfl, rfl, hB, hD, hO⟩ := I
  unfold wpX_input
  rcases rq_inC v1 with ⟨j, hj, rfl⟩ | ⟨hX, hY⟩
  · refine rq_xIn hj (br_f (by decide) ?_)
    rcases rq_appAll (k := k + 3) (ph := ph) (nd := nd) (tp := tp) (inp := inp) (st := st) (sv := sv) (sn := sn) (sb := sb) (vb := vb) (pl := pl) (vl := vl) (ns := ns) (ov := ov) (ok := ok) (t := 0) (a := 5) (b := 1) (f := nI j) (s := 0) (w := 1) (by omega) rq_tk0b (fun g _ => Or.inr (Or.inl ⟨rfl, rfl, ⟨j, hj, rfl⟩, rfl⟩)) rq_w1 hB hD hO with ⟨z, hX⟩ | ⟨z, g, e, _, lt, _⟩ | ⟨z, g, e, _, le, r, u', v', R, hX, hY⟩
    · refine hX _ ?_
      unfold wpY_input
      exact rq_yIn hj (br_f (by decide) (br_t z ⟨rfl, rq_mk hB hD hO⟩))
    · exact absurd lt (Nat.not_lt_zero g)
    · obtain ⟨x0, x1, x2, x3, x4, x5, x6, x7, x8, x9, x10, x11, x12, x13, x14, x15, x16, x17⟩ := u'
      obtain ⟨y0, y1, y2, y3, y4, y5, y6, y7, y8, y9, y10, y11, y12⟩ := v'
      refine hX _ ?_
      unfold wpY_input
      exact rq_yIn hj (br_f (by decide) (br_f z (hY _ ⟨rfl, R⟩)))
  · refine hX _ (br_t rfl ?_)
    unfold wpY_input
    exact hY _ _ (br_t rfl ⟨rfl, rq_mk hB hD hO⟩)
theorem i_vc_query {k : Nat} {u : SX} {v : SY} (I : i_Rel k u v) (hk : k + 3 ≤ 1536) (v1 : Int32) : wpX_query (fun r u' => wpY_query (fun r' v' => r' = r ∧ i_Rel (k + 3) u' v') v v1) u v1 := by
  obtain ⟨dL, dH, ph, nd, tp, inp, bK, bF, bS, bL, dK, dF, dS, st, sv, sn, sb, vb, pl, kd, fi, se, sz, vl, ns, ov, ok, rfl, rfl, hB, hD, hO⟩ := I
  unfold wpX_query
  rcases rq_quC v1 with ⟨j, hj, rfl⟩ | ⟨hX, hY⟩
  · refine rq_xQu hj (br_f (by decide) ?_)
    rcases rq_appAll (k := k + 3) (ph := ph) (nd := nd) (tp := tp) (inp := inp) (st := st) (sv := sv) (sn := sn) (sb := sb) (vb := vb) (pl := pl) (vl := vl) (ns := ns) (ov := ov) (ok := ok) (t := 0) (a := 6) (b := 2) (f := nI j) (s := 0) (w := 1) (by omega) rq_tk0c (fun g _ => Or.inr (Or.inr (Or.inl ⟨rfl, rfl, ⟨j, hj, rfl⟩, rfl⟩))) rq_w1 hB hD hO with ⟨z, hX⟩ | ⟨z, g, e, _, lt, _⟩ | ⟨z, g, e, _, le, r, u', v', R, hX, hY⟩
    · refine hX _ ?_
      unfold wpY_query
      exact rq_yQu hj (br_f (by decide) (br_t z ⟨rfl, rq_mk hB hD hO⟩))
    · exact absurd lt (Nat.not_lt_zero g)
    · obtain ⟨x0, x1, x2, x3, x4, x5, x6, x7, x8, x9, x10, x11, x12, x13, x14, x15, x16, x17⟩ := u'
      obtain ⟨y0, y1, y2, y3, y4, y5, y6, y7, y8, y9, y10, y11, y12⟩ := v'
      refine hX _ ?_
      unfold wpY_query
      exact rq_yQu hj (br_f (by decide) (br_f z (hY _ ⟨rfl, R⟩)))
  · refine hX _ (br_t rfl ?_)
    unfold wpY_query
    exact hY _ _ (br_t rfl ⟨rfl, rq_mk hB hD hO⟩)
theorem i_vc_choose {k : Nat} {u : SX} {v : SY} (I : i_Rel k u v) (hk : k + 3 ≤ 1536) (v1 : Int32) (v2 : Int32) : wpX_choose (fun r u' => wpY_choose (fun r' v' => r' = r ∧ i_Rel (k + 3) u' v') v v1 v2) u v1 v2 := by
  obtain ⟨dL, dH, ph, nd, tp, inp, bK, bF, bS, bL, dK, dF, dS, st, sv, sn, sb, vb, pl, kd, fi, se, sz, vl, ns, ov, ok, rfl, rfl, hB, hD, hO⟩ := I
  unfold wpX_choose
  rcases rq_quC v1 with ⟨j, hj, rfl⟩ | ⟨hX, hY⟩
  · refine rq_xQu hj (br_f (by decide) ?_)
    rcases rq_quC v2 with ⟨j2, hj2, rfl⟩ | ⟨hX, hY⟩
    · refine rq_xQu hj2 (br_f (by decide) ?_)
      rcases rq_appAll (k := k + 3) (ph := ph) (nd := nd) (tp := tp) (inp := inp) (st := st) (sv := sv) (sn := sn) (sb := sb) (vb := vb) (pl := pl) (vl := vl) (ns := ns) (ov := ov) (ok := ok) (t := 1) (a := 7) (b := 3) (f := nI j) (s := nI j2) (w := 0) (by omega) rq_tk1 (fun g hg => Or.inr (Or.inr (Or.inr (Or.inl ⟨rfl, rfl, ⟨j, hj, rfl⟩, ⟨j2, hj2, rfl⟩, hg, rfl⟩)))) rq_w0 hB hD hO with ⟨z, hX⟩ | ⟨z, g, rfl, g10, lt, hX⟩ | ⟨z, g, rfl, g10, le, r, u', v', R, hX, hY⟩
      · refine hX _ ?_
        unfold wpY_choose
        exact rq_yQu hj (br_f (by decide) (rq_yQu hj2 (br_f (by decide) (br_t z ⟨rfl, rq_mk hB hD hO⟩))))
      · obtain rfl : g = 0 := by omega
        refine hX _ ?_
        unfold wpY_choose
        exact rq_yQu hj (br_f (by decide) (rq_yQu hj2 (br_f (by decide) (br_f z (br_t rfl ⟨rfl, rq_mk hB hD hO⟩)))))
      · obtain ⟨x0, x1, x2, x3, x4, x5, x6, x7, x8, x9, x10, x11, x12, x13, x14, x15, x16, x17⟩ := u'
        obtain ⟨y0, y1, y2, y3, y4, y5, y6, y7, y8, y9, y10, y11, y12⟩ := v'
        refine hX _ ?_
        unfold wpY_choose
        exact rq_yQu hj (br_f (by decide) (rq_yQu hj2 (br_f (by decide) (br_f z (br_f (nI_ne0 le (by omega)) (hY _ ⟨rfl, R⟩))))))
    · refine hX _ (br_t rfl ?_)
      unfold wpY_choose
      exact rq_yQu hj (br_f (by decide) (hY _ _ (br_t rfl ⟨rfl, rq_mk hB hD hO⟩)))
  · refine hX _ (br_t rfl ?_)
    unfold wpY_choose
    exact hY _ _ (br_t rfl ⟨rfl, rq_mk hB hD hO⟩)
theorem i_vc_apply {k : Nat} {u : SX} {v : SY} (I : i_Rel k u v) (hk : k + 3 ≤ 1536) (v1 : Int32) : wpX_apply (fun r u' => wpY_apply (fun r' v' => r' = r ∧ i_Rel (k + 3) u' v') v v1) u v1 := by
  obtain ⟨dL, dH, ph, nd, tp, inp, bK, bF, bS, bL, dK, dF, dS, st, sv, sn, sb, vb, pl, kd, fi, se, sz, vl, ns, ov, ok, rfl, rfl, hB, hD, hO⟩ := I
  unfold wpX_apply
  by_cases c : v1 < 0
  · refine br_t c ?_
    unfold wpY_apply
    exact br_t c ⟨rfl, rq_mk hB hD hO⟩
  · refine br_f c ?_
    obtain ⟨p, hp0, rfl⟩ := nI_of c
    by_cases hp : p < 4
    · have l3 : ¬ (3 : Int32) < nI p := nI_nlt (a := 3) (by omega) (by omega)
      have l3' : nI p ≤ 3 := nI_le (b := 3) (by omega) (by omega)
      refine br_f l3 ?_
      rcases rq_appAll (k := k + 3) (ph := ph) (nd := nd) (tp := tp) (inp := inp) (st := st) (sv := sv) (sn := sn) (sb := sb) (vb := vb) (pl := pl) (vl := vl) (ns := ns) (ov := ov) (ok := ok) (t := 2) (a := nI p) (b := 4 + nI p) (f := 0) (s := 0) (w := -1) (by omega) (rq_tk2 hp) (fun g hg => Or.inr (Or.inr (Or.inr (Or.inr ⟨p, hp, rfl, nI_add 4 p, hg, by omega⟩)))) rq_wm hB hD hO with ⟨z, hX⟩ | ⟨z, g, rfl, g10, lt, hX⟩ | ⟨z, g, rfl, g10, le, r, u', v', R, hX, hY⟩
      · refine hX _ ?_
        unfold wpY_apply
        exact br_f c (br_t l3' (br_t z ⟨rfl, rq_mk hB hD hO⟩))
      · refine hX _ ?_
        unfold wpY_apply
        exact br_f c (br_t l3' (br_f z (br_f (nI_ge (b := 2) lt (by omega)) ⟨rfl, rq_mk hB hD hO⟩)))
      · obtain ⟨x0, x1, x2, x3, x4, x5, x6, x7, x8, x9, x10, x11, x12, x13, x14, x15, x16, x17⟩ := u'
        obtain ⟨y0, y1, y2, y3, y4, y5, y6, y7, y8, y9, y10, y11, y12⟩ := v'
        refine hX _ ?_
        unfold wpY_apply
        exact br_f c (br_t l3' (br_f z (br_t (nI_le (a := 2) le (by omega)) (hY _ ⟨rfl, R⟩))))
    · refine br_t (nI_lt (a := 3) (by omega) hp0) ?_
      unfold wpY_apply
      exact br_f c (br_f (nI_ge (a := 3) (by omega) hp0) ⟨rfl, rq_mk hB hD hO⟩)
