/-! the calls that read -/
theorem i_vc_value {k : Nat} {u : SX} {v : SY} (I : i_Rel k u v) (hk : k + 3 ≤ 1536) (v1 : Int32) : wpX_value (fun r u' => wpY_value (fun r' v' => r' = r ∧ i_Rel (k + 3) u' v') v v1) u v1 := by
  obtain ⟨dL, dH, ph, nd, tp, inp, bK, bF, bS, bL, dK, dF, dS, st, sv, sn, sb, vb, pl, kd, fi, se, sz, vl, ns, ov, ok, rfl, rfl, hB, hD, hO⟩ := I
  unfold wpX_value
  rcases rq_quC v1 with ⟨q, hq, rfl⟩ | ⟨hX, hY⟩
  · have cq : (nI q).toNatClampNeg = q := rq_cl (by omega)
    have qi : vp_in (nI q) 8 := vp_in_nI hq (by omega)
    obtain ⟨ph1, nd1, tp1, st1, sv1, sn1, pl1, vl1, ns1, hV, tX, tY⟩ := rq_all (dL := dL) (dH := dH) (ph := ph) (nd := nd) (hY := dH) (tp := tp) (inp := inp) (dK := dK) (dF := dF) (dS := dS) (st := st) (sv := sv) (sn := sn) (sb := sb) (vb := vb) (pl := pl) (vl := vl) (ns := ns) (ov := ov) (ok := ok) hB hO.1
    refine rq_xQu hq (br_f (by decide) (tX _ ?_))
    by_cases z : st1 (nI q).toNatClampNeg = 0
    · refine And.intro qi (br_t z ?_)
      unfold wpY_value
      exact rq_yQu hq (br_f (by decide) (tY _ (And.intro qi (br_t z ⟨rfl, rq_mk hB hD hO⟩))))
    · refine And.intro qi (br_f z (And.intro qi ?_))
      unfold wpY_value
      refine rq_yQu hq (br_f (by decide) (tY _ (And.intro qi (br_f z (And.intro qi ⟨?_, rq_mk hB hD hO⟩)))))
      rw [cq] at z ⊢
      exact (hV q hq z).1.symm
  · refine hX _ (br_t rfl ?_)
    unfold wpY_value
    exact hY _ _ (br_t rfl ⟨rfl, rq_mk hB hD hO⟩)
theorem i_vc_needs {k : Nat} {u : SX} {v : SY} (I : i_Rel k u v) (hk : k + 3 ≤ 1536) (v1 : Int32) : wpX_needs (fun r u' => wpY_needs (fun r' v' => r' = r ∧ i_Rel (k + 3) u' v') v v1) u v1 := by
  obtain ⟨dL, dH, ph, nd, tp, inp, bK, bF, bS, bL, dK, dF, dS, st, sv, sn, sb, vb, pl, kd, fi, se, sz, vl, ns, ov, ok, rfl, rfl, hB, hD, hO⟩ := I
  unfold wpX_needs
  rcases rq_quC v1 with ⟨q, hq, rfl⟩ | ⟨hX, hY⟩
  · have cq : (nI q).toNatClampNeg = q := rq_cl (by omega)
    have qi : vp_in (nI q) 8 := vp_in_nI hq (by omega)
    obtain ⟨ph1, nd1, tp1, st1, sv1, sn1, pl1, vl1, ns1, hV, tX, tY⟩ := rq_all (dL := dL) (dH := dH) (ph := ph) (nd := nd) (hY := dH) (tp := tp) (inp := inp) (dK := dK) (dF := dF) (dS := dS) (st := st) (sv := sv) (sn := sn) (sb := sb) (vb := vb) (pl := pl) (vl := vl) (ns := ns) (ov := ov) (ok := ok) hB hO.1
    refine rq_xQu hq (br_f (by decide) (tX _ ?_))
    by_cases z : st1 (nI q).toNatClampNeg = 0
    · refine And.intro qi (br_t z ?_)
      unfold wpY_needs
      exact rq_yQu hq (br_f (by decide) (tY _ (And.intro qi (br_t z ⟨rfl, rq_mk hB hD hO⟩))))
    · refine And.intro qi (br_f z (And.intro qi ?_))
      unfold wpY_needs
      refine rq_yQu hq (br_f (by decide) (tY _ (And.intro qi (br_f z (And.intro qi ⟨?_, rq_mk hB hD hO⟩)))))
      rw [cq] at z ⊢
      exact (hV q hq z).2.symm
  · refine hX _ (br_t rfl ?_)
    unfold wpY_needs
    exact hY _ _ (br_t rfl ⟨rfl, rq_mk hB hD hO⟩)
theorem i_vc_circular {k : Nat} {u : SX} {v : SY} (I : i_Rel k u v) (hk : k + 3 ≤ 1536) (v1 : Int32) : wpX_circular (fun r u' => wpY_circular (fun r' v' => r' = r ∧ i_Rel (k + 3) u' v') v v1) u v1 := by
  obtain ⟨dL, dH, ph, nd, tp, inp, bK, bF, bS, bL, dK, dF, dS, st, sv, sn, sb, vb, pl, kd, fi, se, sz, vl, ns, ov, ok, rfl, rfl, hB, hD, hO⟩ := I
  unfold wpX_circular
  rcases rq_quC v1 with ⟨q, hq, rfl⟩ | ⟨hX, hY⟩
  · have qi : vp_in (nI q) 8 := vp_in_nI hq (by omega)
    obtain ⟨ph1, nd1, tp1, st1, sv1, sn1, pl1, vl1, ns1, hV, tX, tY⟩ := rq_all (dL := dL) (dH := dH) (ph := ph) (nd := nd) (hY := dH) (tp := tp) (inp := inp) (dK := dK) (dF := dF) (dS := dS) (st := st) (sv := sv) (sn := sn) (sb := sb) (vb := vb) (pl := pl) (vl := vl) (ns := ns) (ov := ov) (ok := ok) hB hO.1
    refine rq_xQu hq (br_f (by decide) (tX _ ?_))
    by_cases z : st1 (nI q).toNatClampNeg = 0
    · refine And.intro qi (br_t z ?_)
      unfold wpY_circular
      exact rq_yQu hq (br_f (by decide) (tY _ (And.intro qi (br_t z ⟨rfl, rq_mk hB hD hO⟩))))
    · refine And.intro qi (br_f z ?_)
      unfold wpY_circular
      exact rq_yQu hq (br_f (by decide) (tY _ (And.intro qi (br_f z ⟨rfl, rq_mk hB hD hO⟩))))
  · refine hX _ (br_t rfl ?_)
    unfold wpY_circular
    exact hY _ _ (br_t rfl ⟨rfl, rq_mk hB hD hO⟩)
section RQT
variable {dL dH ph nd hY tp : Int32} {inp bK bF bS bL dK dF dS st sv sn sb vb pl kd fi se sz vl ns ov ok : Nat → Int32}
theorem rq_tot (hV : rq_V st sv sn vl ns) : ∀ d q, q + d = 8 → ∀ x : Int32, ∃ r : Int32,
    (∀ P : Int32 → SX → Prop, P r (dL, dH, ph, nd, inp, bK, bF, bS, bL, dK, dF, dS, st, sv, sn, sb, vb, pl) → wX_total_8 P dL dH ph nd inp bK bF bS bL dK dF dS st sv sn sb vb pl (d + 1) x (nI q)) ∧
    (∀ P : Int32 → SY → Prop, P r (hY, tp, inp, kd, fi, se, sz, pl, vl, st, ns, ov, ok) → wY_total_8 P hY tp inp kd fi se sz pl vl st ns ov ok (d + 1) x (nI q)) := by
  intro d
  induction d with
  | zero =>
    intro q hq x
    obtain rfl : q = 8 := by omega
    exact ⟨x, fun P hP => br_t (by decide) hP, fun P hP => br_t (by decide) hP⟩
  | succ d ih =>
    intro q hq x
    have cq : (nI q).toNatClampNeg = q := rq_cl (by omega)
    have qi : vp_in (nI q) 8 := vp_in_nI (by omega) (by omega)
    have g8 : ¬ (8 : Int32) ≤ nI q := nI_ge (b := 8) (by omega) (by omega)
    by_cases z : st (nI q).toNatClampNeg = 0
    · obtain ⟨r, gX, gY⟩ := ih (q + 1) (by omega) x
      exact ⟨r, fun P hP => br_f g8 (And.intro qi (br_t z (nm_r (e' := nI (q + 1)) (nI_1 q) (gX P hP)))),
        fun P hP => br_f g8 (And.intro qi (br_t z (nm_r (e' := nI (q + 1)) (nI_1 q) (gY P hP))))⟩
    · obtain ⟨r, gX, gY⟩ := ih (q + 1) (by omega) (x + (nI q + 1) * sv q)
      have z' : ¬ st q = 0 := by rw [cq] at z; exact z
      have e := (hV q (by omega) z').1
      exact ⟨r, fun P hP => br_f g8 (And.intro qi (br_f z (And.intro qi (nm_r (e' := x + (nI q + 1) * sv q) (by rw [cq]) (nm_r (e' := nI (q + 1)) (nI_1 q) (gX P hP)))))),
        fun P hP => br_f g8 (And.intro qi (br_f z (And.intro qi (nm_r (e' := x + (nI q + 1) * sv q) (by rw [cq, e]) (nm_r (e' := nI (q + 1)) (nI_1 q) (gY P hP))))))⟩
theorem rq_cir : ∀ d q, q + d = 8 → ∀ m, m < 2 ^ q → ∃ r : Int32,
    (∀ P : Int32 → SX → Prop, P r (dL, dH, ph, nd, inp, bK, bF, bS, bL, dK, dF, dS, st, sv, sn, sb, vb, pl) → wX_circulars_8 P dL dH ph nd inp bK bF bS bL dK dF dS st sv sn sb vb pl (d + 1) (nI m) (nI q)) ∧
    (∀ P : Int32 → SY → Prop, P r (hY, tp, inp, kd, fi, se, sz, pl, vl, st, ns, ov, ok) → wY_circulars_8 P hY tp inp kd fi se sz pl vl st ns ov ok (d + 1) (nI m) (nI q)) := by
  intro d
  induction d with
  | zero =>
    intro q hq m hm
    obtain rfl : q = 8 := by omega
    exact ⟨nI m, fun P hP => br_t (by decide) hP, fun P hP => br_t (by decide) hP⟩
  | succ d ih =>
    intro q hq m hm
    have qi : vp_in (nI q) 8 := vp_in_nI (by omega) (by omega)
    have g8 : ¬ (8 : Int32) ≤ nI q := nI_ge (b := 8) (by omega) (by omega)
    have hp : 2 ^ (q + 1) = 2 ^ q * 2 := Nat.pow_succ 2 q
    by_cases z : st (nI q).toNatClampNeg = 0
    · obtain ⟨b1, b2⟩ := rq_bits q (by omega) m hm
      obtain ⟨r, gX, gY⟩ := ih (q + 1) (by omega) (m + 2 ^ q) (by omega)
      exact ⟨r, fun P hP => br_f g8 (And.intro qi (br_t z (nm_r (e' := nI (m + 2 ^ q)) b1 (nm_r (e' := nI (q + 1)) (nI_1 q) (gX P hP))))),
        fun P hP => br_f g8 (And.intro qi (br_t z (nm_r (e' := nI (m + 2 ^ q)) b2 (nm_r (e' := nI (q + 1)) (nI_1 q) (gY P hP)))))⟩
    · obtain ⟨r, gX, gY⟩ := ih (q + 1) (by omega) m (by omega)
      exact ⟨r, fun P hP => br_f g8 (And.intro qi (br_f z (nm_r (e' := nI (q + 1)) (nI_1 q) (gX P hP)))),
        fun P hP => br_f g8 (And.intro qi (br_f z (nm_r (e' := nI (q + 1)) (nI_1 q) (gY P hP))))⟩
end RQT
theorem i_vc_total {k : Nat} {u : SX} {v : SY} (I : i_Rel k u v) (hk : k + 3 ≤ 1536) : wpX_total (fun r u' => wpY_total (fun r' v' => r' = r ∧ i_Rel (k + 3) u' v') v) u := by
  obtain ⟨dL, dH, ph, nd, tp, inp, bK, bF, bS, bL, dK, dF, dS, st, sv, sn, sb, vb, pl, kd, fi, se, sz, vl, ns, ov, ok, rfl, rfl, hB, hD, hO⟩ := I
  unfold wpX_total
  obtain ⟨ph1, nd1, tp1, st1, sv1, sn1, pl1, vl1, ns1, hV, tX, tY⟩ := rq_all (dL := dL) (dH := dH) (ph := ph) (nd := nd) (hY := dH) (tp := tp) (inp := inp) (dK := dK) (dF := dF) (dS := dS) (st := st) (sv := sv) (sn := sn) (sb := sb) (vb := vb) (pl := pl) (vl := vl) (ns := ns) (ov := ov) (ok := ok) hB hO.1
  obtain ⟨r, gX, gY⟩ := rq_tot (dL := dL) (dH := dH) (ph := ph1) (nd := nd1) (hY := dH) (tp := tp1) (inp := inp) (bK := bK) (bF := bF) (bS := bS) (bL := bL) (dK := dK) (dF := dF) (dS := dS) (sb := sb) (vb := vb) (pl := pl1) (kd := kd) (fi := fi) (se := se) (sz := sz) (ov := ov) (ok := ok) hV 8 0 (by omega) 0
  refine tX _ ⟨8 + 1, gX _ ?_⟩
  unfold wpY_total
  exact tY _ ⟨8 + 1, gY _ ⟨rfl, rq_mk hB hD hO⟩⟩
theorem i_vc_circulars {k : Nat} {u : SX} {v : SY} (I : i_Rel k u v) (hk : k + 3 ≤ 1536) : wpX_circulars (fun r u' => wpY_circulars (fun r' v' => r' = r ∧ i_Rel (k + 3) u' v') v) u := by
  obtain ⟨dL, dH, ph, nd, tp, inp, bK, bF, bS, bL, dK, dF, dS, st, sv, sn, sb, vb, pl, kd, fi, se, sz, vl, ns, ov, ok, rfl, rfl, hB, hD, hO⟩ := I
  unfold wpX_circulars
  obtain ⟨ph1, nd1, tp1, st1, sv1, sn1, pl1, vl1, ns1, hV, tX, tY⟩ := rq_all (dL := dL) (dH := dH) (ph := ph) (nd := nd) (hY := dH) (tp := tp) (inp := inp) (dK := dK) (dF := dF) (dS := dS) (st := st) (sv := sv) (sn := sn) (sb := sb) (vb := vb) (pl := pl) (vl := vl) (ns := ns) (ov := ov) (ok := ok) hB hO.1
  obtain ⟨r, gX, gY⟩ := rq_cir (dL := dL) (dH := dH) (ph := ph1) (nd := nd1) (hY := dH) (tp := tp1) (inp := inp) (bK := bK) (bF := bF) (bS := bS) (bL := bL) (dK := dK) (dF := dF) (dS := dS) (st := st1) (sv := sv1) (sn := sn1) (sb := sb) (vb := vb) (pl := pl1) (kd := kd) (fi := fi) (se := se) (sz := sz) (vl := vl1) (ns := ns1) (ov := ov) (ok := ok) 8 0 (by omega) 0 (by decide)
  refine tX _ ⟨8 + 1, gX _ ?_⟩
  unfold wpY_circulars
  exact tY _ ⟨8 + 1, gY _ ⟨rfl, rq_mk hB hD hO⟩⟩
