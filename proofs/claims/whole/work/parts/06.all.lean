/-! all bodies, eight rounds -/
abbrev rq_JX : Type := Int32 → Int32 → Int32 → Int32 → Int32 → (Nat → Int32) → (Nat → Int32) → (Nat → Int32) → (Nat → Int32) → (Nat → Int32) → (Nat → Int32) → (Nat → Int32) → (Nat → Int32) → (Nat → Int32) → (Nat → Int32) → (Nat → Int32) → (Nat → Int32) → (Nat → Int32) → (Nat → Int32) → Prop
abbrev rq_JY : Type := Int32 → Int32 → Int32 → (Nat → Int32) → (Nat → Int32) → (Nat → Int32) → (Nat → Int32) → (Nat → Int32) → (Nat → Int32) → (Nat → Int32) → (Nat → Int32) → (Nat → Int32) → (Nat → Int32) → (Nat → Int32) → Prop
section RQA
variable {dL dH ph nd hY tp : Int32} {inp bK bF bS bL dK dF dS st sv sn sb vb pl kd fi se sz vl ns ov ok : Nat → Int32}
theorem rq_round (hB0 : rq_Bod bK bL kd fi se sz) (hO : ∀ j, j < 80 → bF j = fi j ∧ bS j = se j) :
    ∀ d q, q + d = 8 → ∀ (ph nd tp : Int32) (st sv sn pl vl ns : Nat → Int32), rq_V st sv sn vl ns →
    ∃ (ph' nd' tp' : Int32) (st' sv' sn' pl' vl' ns' : Nat → Int32), rq_V st' sv' sn' vl' ns' ∧
      (∀ (P : SX → Prop) (J : rq_JX) (x : Int32), J (x + 1) dL dH ph' nd' inp bK bF bS bL dK dF dS st' sv' sn' sb vb pl' → wX_settleAll_31 P J x (d + 1) (nI q) dL dH ph nd inp bK bF bS bL dK dF dS st sv sn sb vb pl) ∧
      (∀ (P : SY → Prop) (J : rq_JY) (x : Int32), J (x + 1) hY tp' inp kd fi se sz pl' vl' st' ns' ov ok → wY_computeAll_38 P J x (d + 1) (nI q) hY tp inp kd fi se sz pl vl st ns ov ok) := by
  intro d
  induction d with
  | zero =>
    intro q hq ph nd tp st sv sn pl vl ns hV
    obtain rfl : q = 8 := by omega
    exact ⟨ph, nd, tp, st, sv, sn, pl, vl, ns, hV, fun P J x hJ => br_t (by decide) (nm_e hJ), fun P J x hJ => br_t (by decide) (nm_e hJ)⟩
  | succ d ih =>
    intro q hq ph nd tp st sv sn pl vl ns hV
    have cq : (nI q).toNatClampNeg = q := rq_cl (by omega)
    have qi : vp_in (nI q) 8 := vp_in_nI (by omega) (by omega)
    have g8 : ¬ (8 : Int32) ≤ nI q := nI_ge (b := 8) (by omega) (by omega)
    by_cases hs : st q = 0
    · have hs' : st (nI q).toNatClampNeg = 0 := by rw [cq]; exact hs
      obtain ⟨r, ph1, nd1, tp1, st1, sv1, sn1, pl1, vl1, ns1, hV1, hU1, tX, tY⟩ := rq_one (dL := dL) (dH := dH) (ph := ph) (nd := nd) (hY := hY) (tp := tp) (inp := inp) (bF := bF) (bS := bS) (dK := dK) (dF := dF) (dS := dS) (sb := sb) (vb := vb) (pl := pl) (ov := ov) (ok := ok) (show q < 8 by omega) hB0 hO hs hV
      obtain ⟨ph2, nd2, tp2, st2, sv2, sn2, pl2, vl2, ns2, hV2, gX, gY⟩ := ih (q + 1) (by omega) ph1 nd1 tp1 st1 sv1 sn1 pl1 vl1 ns1 hV1
      refine ⟨ph2, nd2, tp2, st2, sv2, sn2, pl2, vl2, ns2, hV2, fun P J x hJ => ?_, fun P J x hJ => ?_⟩
      · refine br_f g8 (And.intro qi (br_t hs' (tX _ ?_)))
        exact nm_r (e' := nI (q + 1)) (nI_1 q) (gX P J x hJ)
      · refine br_f g8 (And.intro qi (br_t hs' (tY _ ?_)))
        refine And.intro qi (nm_r (e' := st1) (by rw [cq]; exact hU1) ?_)
        exact nm_r (e' := nI (q + 1)) (nI_1 q) (gY P J x hJ)
    · have hs' : ¬ st (nI q).toNatClampNeg = 0 := by rw [cq]; exact hs
      obtain ⟨ph2, nd2, tp2, st2, sv2, sn2, pl2, vl2, ns2, hV2, gX, gY⟩ := ih (q + 1) (by omega) ph nd tp st sv sn pl vl ns hV
      refine ⟨ph2, nd2, tp2, st2, sv2, sn2, pl2, vl2, ns2, hV2, fun P J x hJ => ?_, fun P J x hJ => ?_⟩
      · refine br_f g8 (And.intro qi (br_f hs' ?_))
        exact nm_r (e' := nI (q + 1)) (nI_1 q) (gX P J x hJ)
      · refine br_f g8 (And.intro qi (br_f hs' ?_))
        exact nm_r (e' := nI (q + 1)) (nI_1 q) (gY P J x hJ)
theorem rq_rounds (hB0 : rq_Bod bK bL kd fi se sz) (hO : ∀ j, j < 80 → bF j = fi j ∧ bS j = se j) :
    ∀ d p, p + d = 8 → ∀ (ph nd tp : Int32) (st sv sn pl vl ns : Nat → Int32), rq_V st sv sn vl ns →
    ∃ (ph' nd' tp' : Int32) (st' sv' sn' pl' vl' ns' : Nat → Int32), rq_V st' sv' sn' vl' ns' ∧
      (∀ (P : SX → Prop), P (dL, dH, ph', nd', inp, bK, bF, bS, bL, dK, dF, dS, st', sv', sn', sb, vb, pl') → wX_settleAll_23 P (d + 1) (nI p) dL dH ph nd inp bK bF bS bL dK dF dS st sv sn sb vb pl) ∧
      (∀ (P : SY → Prop), P (hY, tp', inp, kd, fi, se, sz, pl', vl', st', ns', ov, ok) → wY_computeAll_30 P (d + 1) (nI p) hY tp inp kd fi se sz pl vl st ns ov ok) := by
  intro d
  induction d with
  | zero =>
    intro p hp ph nd tp st sv sn pl vl ns hV
    obtain rfl : p = 8 := by omega
    exact ⟨ph, nd, tp, st, sv, sn, pl, vl, ns, hV, fun P hP => br_t (by decide) hP, fun P hP => br_t (by decide) hP⟩
  | succ d ih =>
    intro p hp ph nd tp st sv sn pl vl ns hV
    have g8 : ¬ (8 : Int32) ≤ nI p := nI_ge (b := 8) (by omega) (by omega)
    obtain ⟨ph1, nd1, tp1, st1, sv1, sn1, pl1, vl1, ns1, hV1, tX, tY⟩ := rq_round (dL := dL) (dH := dH) (hY := hY) (inp := inp) (bF := bF) (bS := bS) (dK := dK) (dF := dF) (dS := dS) (sb := sb) (vb := vb) (ov := ov) (ok := ok) hB0 hO 8 0 (by omega) ph nd tp st sv sn pl vl ns hV
    obtain ⟨ph2, nd2, tp2, st2, sv2, sn2, pl2, vl2, ns2, hV2, gX, gY⟩ := ih (p + 1) (by omega) ph1 nd1 tp1 st1 sv1 sn1 pl1 vl1 ns1 hV1
    refine ⟨ph2, nd2, tp2, st2, sv2, sn2, pl2, vl2, ns2, hV2, fun P hP => ?_, fun P hP => ?_⟩
    · refine br_f g8 ⟨8 + 1, tX P (wX_settleAll_23 P (d + 1)) (nI p) ?_⟩
      rw [nI_1 p]
      exact gX P hP
    · refine br_f g8 ⟨8 + 1, tY P (wY_computeAll_30 P (d + 1)) (nI p) ?_⟩
      rw [nI_1 p]
      exact gY P hP
theorem rq_zero : ∀ d q, q + d = 8 → ∀ (st vl : Nat → Int32), (∀ k, k < q → st k = 0) →
    ∃ (st' vl' : Nat → Int32), (∀ k, k < 8 → st' k = 0) ∧
      (∀ (P : SX → Prop), (∃ n, wX_settleAll_23 P n 0 dL dH ph nd inp bK bF bS bL dK dF dS st' sv sn sb vb pl) → wX_settleAll_2 P dL dH ph nd (d + 1) (nI q) inp bK bF bS bL dK dF dS st sv sn sb vb pl) ∧
      (∀ (P : SY → Prop), (∃ n, wY_computeAll_30 P n 0 hY tp inp kd fi se sz pl vl' st' ns ov ok) → wY_computeAll_2 P hY tp (d + 1) (nI q) inp kd fi se sz pl vl st ns ov ok) := by
  intro d
  induction d with
  | zero =>
    intro q hq st vl h0
    obtain rfl : q = 8 := by omega
    exact ⟨st, vl, h0, fun P hP => br_t (by decide) hP, fun P hP => br_t (by decide) hP⟩
  | succ d ih =>
    intro q hq st vl h0
    have cq : (nI q).toNatClampNeg = q := rq_cl (by omega)
    have qi : vp_in (nI q) 8 := vp_in_nI (by omega) (by omega)
    have g8 : ¬ (8 : Int32) ≤ nI q := nI_ge (b := 8) (by omega) (by omega)
    obtain ⟨st2, vl2, h2, gX, gY⟩ := ih (q + 1) (by omega) (upd st q 0) (upd vl q 0) (fun k hk => by
      by_cases e : k = q
      · rw [e, pk_us]
      · rw [pk_un e]
        exact h0 k (by omega))
    refine ⟨st2, vl2, h2, fun P hP => ?_, fun P hP => ?_⟩
    · refine br_f g8 (And.intro qi (nm_r (e' := upd st q 0) (by rw [cq, rq_b0]) ?_))
      exact nm_r (e' := nI (q + 1)) (nI_1 q) (gX P hP)
    · refine br_f g8 (And.intro qi (nm_r (e' := upd st q 0) (by rw [cq, rq_b0]) (And.intro qi (nm_r (e' := upd vl q 0) (by rw [cq]) ?_))))
      exact nm_r (e' := nI (q + 1)) (nI_1 q) (gY P hP)
theorem rq_all (hB0 : rq_Bod bK bL kd fi se sz) (hO : ∀ j, j < 80 → bF j = fi j ∧ bS j = se j) :
    ∃ (ph' nd' tp' : Int32) (st' sv' sn' pl' vl' ns' : Nat → Int32), rq_V st' sv' sn' vl' ns' ∧
      (∀ (P : SX → Prop), P (dL, dH, ph', nd', inp, bK, bF, bS, bL, dK, dF, dS, st', sv', sn', sb, vb, pl') → wpX_settleAll P (dL, dH, ph, nd, inp, bK, bF, bS, bL, dK, dF, dS, st, sv, sn, sb, vb, pl)) ∧
      (∀ (P : SY → Prop), P (hY, tp', inp, kd, fi, se, sz, pl', vl', st', ns', ov, ok) → wpY_computeAll P (hY, tp, inp, kd, fi, se, sz, pl, vl, st, ns, ov, ok)) := by
  obtain ⟨st1, vl1, h1, zX, zY⟩ := rq_zero (dL := dL) (dH := dH) (ph := ph) (nd := nd) (hY := hY) (tp := tp) (inp := inp) (bK := bK) (bF := bF) (bS := bS) (bL := bL) (dK := dK) (dF := dF) (dS := dS) (sv := sv) (sn := sn) (sb := sb) (vb := vb) (pl := pl) (kd := kd) (fi := fi) (se := se) (sz := sz) (ns := ns) (ov := ov) (ok := ok) 8 0 (by omega) st vl (fun k hk => absurd hk (Nat.not_lt_zero k))
  obtain ⟨ph2, nd2, tp2, st2, sv2, sn2, pl2, vl2, ns2, hV2, gX, gY⟩ := rq_rounds (dL := dL) (dH := dH) (hY := hY) (inp := inp) (bF := bF) (bS := bS) (dK := dK) (dF := dF) (dS := dS) (sb := sb) (vb := vb) (ov := ov) (ok := ok) hB0 hO 8 0 (by omega) ph nd tp st1 sv sn pl vl1 ns (fun k hk hz => absurd (h1 k hk) hz)
  refine ⟨ph2, nd2, tp2, st2, sv2, sn2, pl2, vl2, ns2, hV2, fun P hP => ?_, fun P hP => ?_⟩
  · unfold wpX_settleAll
    exact ⟨8 + 1, zX P ⟨8 + 1, gX P hP⟩⟩
  · unfold wpY_computeAll
    exact ⟨8 + 1, zY P ⟨8 + 1, gY P hP⟩⟩
end RQA
