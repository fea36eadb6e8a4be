/-! stirred -/
section RQS
variable {dL dH ph nd hY tp : Int32} {inp bK bF bS bL dK dF dS st sv sn sb vb pl kd fi se sz vl ns ov ok : Nat → Int32}
theorem rq_cp_z {a s : Nat → Int32} {i : Nat} : upd (rq_cp a s 0 i) i (s i) = rq_cp a s 0 (i + 1) := by
  have e := rq_cp_s (a := a) (s := s) (o := 0) (i := i)
  rw [Nat.zero_add] at e
  exact e
theorem rq_cp_i0 {a s : Nat → Int32} {n t : Nat} (h : t < n) : rq_cp a s 0 n t = s t := by
  have e := rq_cp_in (a := a) (s := s) (o := 0) h
  rw [Nat.zero_add] at e
  exact e
theorem rq_xRem {P : SX → Prop} (h : P (dL, dH, ph, nd, inp, bK, bF, bS, bL, dK, dF, dS, st, sv, sn, rq_cp sb (fun t => vp_nar .boolean (st t)) 0 8, rq_cp vb sv 0 8, pl)) :
    ∀ d q, q + d = 8 → wX_rememberSettled_2 P dL dH ph nd (d + 1) (nI q) inp bK bF bS bL dK dF dS st sv sn (rq_cp sb (fun t => vp_nar .boolean (st t)) 0 q) (rq_cp vb sv 0 q) pl := by
  intro d
  induction d with
  | zero =>
    intro q hq
    obtain rfl : q = 8 := by omega
    exact br_t (by decide) h
  | succ d ih =>
    intro q hq
    have cq : (nI q).toNatClampNeg = q := rq_cl (by omega)
    have qi : vp_in (nI q) 8 := vp_in_nI (by omega) (by omega)
    refine br_f (nI_ge (b := 8) (by omega) (by omega)) ?_
    refine And.intro qi (And.intro qi (nm_r (e' := rq_cp sb (fun t => vp_nar .boolean (st t)) 0 (q + 1)) (by rw [cq]; exact rq_cp_z) ?_))
    refine And.intro qi (And.intro qi (nm_r (e' := rq_cp vb sv 0 (q + 1)) (by rw [cq]; exact rq_cp_z) ?_))
    exact nm_r (e' := nI (q + 1)) (nI_1 q) (ih (q + 1) (by omega))
theorem rq_xRemember {P : SX → Prop} (h : P (dL, dH, ph, nd, inp, bK, bF, bS, bL, dK, dF, dS, st, sv, sn, rq_cp sb (fun t => vp_nar .boolean (st t)) 0 8, rq_cp vb sv 0 8, pl)) : wpX_rememberSettled P (dL, dH, ph, nd, inp, bK, bF, bS, bL, dK, dF, dS, st, sv, sn, sb, vb, pl) := by
  unfold wpX_rememberSettled
  have g := rq_xRem h 8 0 (by omega)
  rw [rq_cp_0, rq_cp_0] at g
  exact ⟨8 + 1, g⟩
theorem rq_yRem {post : Int32 → SY → Prop} {x1 x2 : Int32} (h : wY_stirred_16 post x1 x2 hY tp (0 + 1) (nI 8) inp kd fi se sz pl vl st ns (rq_cp ov vl 0 8) (rq_cp ok (fun t => vp_nar .boolean (st t)) 0 8)) :
    ∀ d q, q + d = 8 → wY_stirred_16 post x1 x2 hY tp (d + 1) (nI q) inp kd fi se sz pl vl st ns (rq_cp ov vl 0 q) (rq_cp ok (fun t => vp_nar .boolean (st t)) 0 q) := by
  intro d
  induction d with
  | zero =>
    intro q hq
    obtain rfl : q = 8 := by omega
    exact h
  | succ d ih =>
    intro q hq
    have cq : (nI q).toNatClampNeg = q := rq_cl (by omega)
    have qi : vp_in (nI q) 8 := vp_in_nI (by omega) (by omega)
    refine br_f (nI_ge (b := 8) (by omega) (by omega)) ?_
    refine And.intro qi (And.intro qi (nm_r (e' := rq_cp ov vl 0 (q + 1)) (by rw [cq]; exact rq_cp_z) ?_))
    refine And.intro qi (And.intro qi (nm_r (e' := rq_cp ok (fun t => vp_nar .boolean (st t)) 0 (q + 1)) (by rw [cq]; exact rq_cp_z) ?_))
    exact nm_r (e' := nI (q + 1)) (nI_1 q) (ih (q + 1) (by omega))
theorem rq_yRem0 {post : Int32 → SY → Prop} {x1 x2 : Int32} (h : wY_stirred_16 post x1 x2 hY tp (0 + 1) (nI 8) inp kd fi se sz pl vl st ns (rq_cp ov vl 0 8) (rq_cp ok (fun t => vp_nar .boolean (st t)) 0 8)) : wY_stirred_16 post x1 x2 hY tp (8 + 1) 0 inp kd fi se sz pl vl st ns ov ok := by
  have g := rq_yRem h 8 0 (by omega)
  rw [rq_cp_0, rq_cp_0] at g
  exact g
theorem rq_cnt (hC : ∀ k, k < 8 → sb k = ok k ∧ (st k = sb k → ¬ st k = 0 → sv k = vl k ∧ vb k = ov k)) :
    ∀ d q, q + d = 8 → ∀ x : Int32, ∃ r : Int32,
    (∀ P : Int32 → Prop, P r → wX_countChanged_4 P dL dH ph nd inp bK bF bS bL dK dF dS st sv sn sb vb pl (d + 1) x (nI q)) ∧
    (∀ P : Int32 → SY → Prop, P r (hY, tp, inp, kd, fi, se, sz, pl, vl, st, ns, ov, ok) → wY_stirred_83 P hY tp inp kd fi se sz pl vl st ns ov ok (d + 1) x (nI q)) := by
  intro d
  induction d with
  | zero =>
    intro q hq x
    obtain rfl : q = 8 := by omega
    exact ⟨x, fun P hP => br_t (by decide) hP, fun P hP => br_t (by decide) hP⟩
  | succ d ih =>
    intro q hq x
    have cq : (nI q).toNatClampNeg = q := rq_cl (by omega)
    have qi : vp_in (nI q) 8 := vp_in_nI (by omega) (by omega)
    have g8 : ¬ (8 : Int32) ≤ nI q := nI_ge (b := 8) (by omega) (by omega)
    obtain ⟨c1, c2⟩ := hC q (by omega)
    obtain ⟨r0, gX0, gY0⟩ := ih (q + 1) (by omega) x
    obtain ⟨r1, gX1, gY1⟩ := ih (q + 1) (by omega) (x + 1)
    by_cases e : st q = sb q
    · have e1 : st (nI q).toNatClampNeg = sb (nI q).toNatClampNeg := by rw [cq]; exact e
      have e2 : st (nI q).toNatClampNeg = ok (nI q).toNatClampNeg := by rw [cq]; exact e.trans c1
      by_cases z : st q = 0
      · have z1 : st (nI q).toNatClampNeg = 0 := by rw [cq]; exact z
        refine ⟨r0, fun P hP => br_f g8 (And.intro qi (And.intro qi (br_t e1 ?_))), fun P hP => br_f g8 (And.intro qi (And.intro qi (br_t e2 (And.intro qi (br_t z1 (nm_r (e' := nI (q + 1)) (nI_1 q) (gY0 P hP)))))))⟩
        unfold wX_countChanged_30
        exact br_t rfl (And.intro qi (br_t z1 (nm_r (e' := nI (q + 1)) (nI_1 q) (gX0 P hP))))
      · have z1 : ¬ st (nI q).toNatClampNeg = 0 := by rw [cq]; exact z
        obtain ⟨d1, d2⟩ := c2 e z
        by_cases y : sv q = vb q
        · have y1 : sv (nI q).toNatClampNeg = vb (nI q).toNatClampNeg := by rw [cq]; exact y
          have y2 : vl (nI q).toNatClampNeg = ov (nI q).toNatClampNeg := by rw [cq, ← d1, ← d2]; exact y
          refine ⟨r0, fun P hP => br_f g8 (And.intro qi (And.intro qi (br_t e1 ?_))), fun P hP => br_f g8 (And.intro qi (And.intro qi (br_t e2 (And.intro qi (br_f z1 (And.intro qi (And.intro qi (br_t y2 (nm_r (e' := nI (q + 1)) (nI_1 q) (gY0 P hP))))))))))⟩
          unfold wX_countChanged_30
          exact br_t rfl (And.intro qi (br_f z1 (And.intro qi (And.intro qi (br_t y1 (nm_r (e' := nI (q + 1)) (nI_1 q) (gX0 P hP)))))))
        · have y1 : ¬ sv (nI q).toNatClampNeg = vb (nI q).toNatClampNeg := by rw [cq]; exact y
          have y2 : ¬ vl (nI q).toNatClampNeg = ov (nI q).toNatClampNeg := by rw [cq, ← d1, ← d2]; exact y
          refine ⟨r1, fun P hP => br_f g8 (And.intro qi (And.intro qi (br_t e1 ?_))), fun P hP => br_f g8 (And.intro qi (And.intro qi (br_t e2 (And.intro qi (br_f z1 (And.intro qi (And.intro qi (br_f y2 (nm_e (nm_r (e' := nI (q + 1)) (nI_1 q) (gY1 P hP)))))))))))⟩
          unfold wX_countChanged_30
          exact br_t rfl (And.intro qi (br_f z1 (And.intro qi (And.intro qi (br_f y1 (nm_e (nm_r (e' := nI (q + 1)) (nI_1 q) (gX1 P hP))))))))
    · have e1 : ¬ st (nI q).toNatClampNeg = sb (nI q).toNatClampNeg := by rw [cq]; exact e
      have e2 : ¬ st (nI q).toNatClampNeg = ok (nI q).toNatClampNeg := by rw [cq, ← c1]; exact e
      refine ⟨r1, fun P hP => br_f g8 (And.intro qi (And.intro qi (br_f e1 ?_))), fun P hP => br_f g8 (And.intro qi (And.intro qi (br_f e2 (nm_e (nm_r (e' := nI (q + 1)) (nI_1 q) (gY1 P hP))))))⟩
      unfold wX_countChanged_30
      exact br_f (by decide) (nm_e (nm_r (e' := nI (q + 1)) (nI_1 q) (gX1 P hP)))
end RQS
theorem i_vc_stirred {k : Nat} {u : SX} {v : SY} (I : i_Rel k u v) (hk : k + 3 ≤ 1536) (v1 : Int32) (v2 : Int32) : wpX_stirred (fun r u' => wpY_stirred (fun r' v' => r' = r ∧ i_Rel (k + 3) u' v') v v1 v2) u v1 v2 := by
  obtain ⟨dL, dH, ph, nd, tp, inp, bK, bF, bS, bL, dK, dF, dS, st, sv, sn, sb, vb, pl, kd, fi, se, sz, vl, ns, ov, ok, rfl, rfl, hB, hD, hO⟩ := I
  unfold wpX_stirred
  rcases rq_inC v1 with ⟨j, hj, rfl⟩ | ⟨hX, hY⟩
  · have ji : vp_in (nI j) 6 := vp_in_nI hj (by omega)
    obtain ⟨ph1, nd1, tp1, st1, sv1, sn1, pl1, vl1, ns1, hV1, tX, tY⟩ := rq_all (dL := dL) (dH := dH) (ph := ph) (nd := nd) (hY := dH) (tp := tp) (inp := inp) (dK := dK) (dF := dF) (dS := dS) (st := st) (sv := sv) (sn := sn) (sb := sb) (vb := vb) (pl := pl) (vl := vl) (ns := ns) (ov := ov) (ok := ok) hB hO.1
    obtain ⟨ph2, nd2, tp2, st2, sv2, sn2, pl2, vl2, ns2, hV2, t2X, t2Y⟩ := rq_all (dL := dL) (dH := dH) (ph := ph1) (nd := nd1) (hY := dH) (tp := tp1) (inp := upd inp (nI j).toNatClampNeg v2) (dK := dK) (dF := dF) (dS := dS) (st := st1) (sv := sv1) (sn := sn1) (sb := rq_cp sb (fun t => vp_nar .boolean (st1 t)) 0 8) (vb := rq_cp vb sv1 0 8) (pl := pl1) (vl := vl1) (ns := ns1) (ov := rq_cp ov vl1 0 8) (ok := rq_cp ok (fun t => vp_nar .boolean (st1 t)) 0 8) hB hO.1
    have hC : ∀ k, k < 8 → rq_cp sb (fun t => vp_nar .boolean (st1 t)) 0 8 k = rq_cp ok (fun t => vp_nar .boolean (st1 t)) 0 8 k ∧ (st2 k = rq_cp sb (fun t => vp_nar .boolean (st1 t)) 0 8 k → ¬ st2 k = 0 → sv2 k = vl2 k ∧ rq_cp vb sv1 0 8 k = rq_cp ov vl1 0 8 k) := by
      intro k hk
      have a1 : rq_cp sb (fun t => vp_nar .boolean (st1 t)) 0 8 k = vp_nar .boolean (st1 k) := rq_cp_i0 hk
      have a2 : rq_cp ok (fun t => vp_nar .boolean (st1 t)) 0 8 k = vp_nar .boolean (st1 k) := rq_cp_i0 hk
      have a3 : rq_cp vb sv1 0 8 k = sv1 k := rq_cp_i0 hk
      have a4 : rq_cp ov vl1 0 8 k = vl1 k := rq_cp_i0 hk
      refine ⟨a1.trans a2.symm, fun e z => ⟨(hV2 k hk z).1, ?_⟩⟩
      rw [a3, a4]
      exact (hV1 k hk (fun y => z (by rw [e, a1, y]; exact rq_b0))).1
    obtain ⟨r, gX, gY⟩ := rq_cnt (dL := dL) (dH := dH) (ph := ph2) (nd := nd2) (hY := dH) (tp := tp2) (inp := upd (upd inp (nI j).toNatClampNeg v2) (nI j).toNatClampNeg (inp (nI j).toNatClampNeg)) (bK := bK) (bF := bF) (bS := bS) (bL := bL) (dK := dK) (dF := dF) (dS := dS) (sn := sn2) (pl := pl2) (kd := kd) (fi := fi) (se := se) (sz := sz) (ns := ns2) hC 8 0 (by omega) 0
    refine rq_xIn hj (br_f (by decide) (tX _ ?_))
    refine rq_xRemember ?_
    refine And.intro ji (nm_e (And.intro ji (nm_e (t2X _ ?_))))
    refine And.intro ji (nm_e ?_)
    unfold wpX_countChanged
    refine ⟨8 + 1, gX _ ?_⟩
    unfold wpY_stirred
    refine rq_yIn hj (br_f (by decide) (tY _ ?_))
    refine ⟨8 + 1, rq_yRem0 ?_⟩
    refine br_t (by decide) (And.intro ji (nm_e (And.intro ji (nm_e (t2Y _ ?_)))))
    exact And.intro ji (nm_e ⟨8 + 1, gY _ ⟨rfl, rq_mk hB hD hO⟩⟩)
  · refine hX _ (br_t rfl ?_)
    unfold wpY_stirred
    exact hY _ _ (br_t rfl ⟨rfl, rq_mk hB hD hO⟩)
