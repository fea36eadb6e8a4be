/-! token by token, body by body, round by round: both sides in step -/
section RQB
variable {dL dH ph nd hY tp : Int32} {inp bK bF bS bL dK dF dS st sv sn sb vb pl kd fi se sz vl ns ov ok : Nat → Int32}
theorem rq_V_upd {q : Nat} {x : Int32} (hV : rq_V st sv sn vl ns) (hs : st q = 0) : rq_V st sv sn vl (upd ns q x) := by
  intro k hk hz
  have e : k ≠ q := fun z => hz (by rw [z]; exact hs)
  rw [pk_un e]
  exact hV k hk hz
theorem rq_V_done {q : Nat} {x y : Int32} (hV : rq_V st sv sn vl ns) (hN : ns q = y) : rq_V (upd st q (vp_nar .boolean 1)) (upd sv q x) (upd sn q y) (upd vl q x) ns := by
  intro k hk hz
  by_cases e : k = q
  · subst e
    rw [pk_us, pk_us, pk_us]
    exact ⟨rfl, hN.symm⟩
  · rw [pk_un e] at hz
    rw [pk_un e, pk_un e, pk_un e]
    exact hV k hk hz
theorem rq_tok {a b f s : Int32} {i o q w : Nat} (hT : rq_T a b f s i o) (hi : i ≤ 9) (hq : q < 8) (ha : w < 90) (e1 : kd w = b) (e2 : fi w = f) (e3 : se w = s) (hV : rq_V st sv sn vl ns) (hs : st q = 0) (hN : ns q = nd) :
    (∃ (nd' : Int32) (pl' ns' : Nat → Int32), rq_V st sv sn vl ns' ∧ ns' q = nd' ∧
      (∀ P : Int32 → SX → Prop, P 1 (dL, dH, nI o, nd', inp, bK, bF, bS, bL, dK, dF, dS, st, sv, sn, sb, vb, pl') → wpX_workOff P (dL, dH, nI i, nd, inp, bK, bF, bS, bL, dK, dF, dS, st, sv, sn, sb, vb, pl) a f s) ∧
      (∀ P : Int32 → SY → Prop, P (-1) (hY, nI o, inp, kd, fi, se, sz, pl', vl, st, ns', ov, ok) → wpY_step P (hY, nI i, inp, kd, fi, se, sz, pl, vl, st, ns, ov, ok) (nI w) (nI q))) ∨
    (∃ (ph' tp' r : Int32), ¬ r < 0 ∧
      (∀ P : Int32 → SX → Prop, P 0 (dL, dH, ph', nd, inp, bK, bF, bS, bL, dK, dF, dS, st, sv, sn, sb, vb, pl) → wpX_workOff P (dL, dH, nI i, nd, inp, bK, bF, bS, bL, dK, dF, dS, st, sv, sn, sb, vb, pl) a f s) ∧
      (∀ P : Int32 → SY → Prop, P r (hY, tp', inp, kd, fi, se, sz, pl, vl, st, ns, ov, ok) → wpY_step P (hY, nI i, inp, kd, fi, se, sz, pl, vl, st, ns, ov, ok) (nI w) (nI q))) := by
  rcases hT with ⟨rfl, rfl, rfl⟩ | ⟨rfl, rfl, ⟨j, hj, rfl⟩, rfl⟩ | ⟨rfl, rfl, ⟨k, hk, rfl⟩, rfl⟩ | ⟨rfl, rfl, ⟨j1, hj1, rfl⟩, ⟨j2, hj2, rfl⟩, h1, rfl⟩ | ⟨p, hp, rfl, rfl, h2, ho⟩
  · exact Or.inl ⟨nd, upd pl i f, ns, hV, hN, fun P h => rq_xNum hi h, fun P h => rq_yNum hi ha e1 (by rw [e2]; exact h)⟩
  · exact Or.inl ⟨_, upd pl i (inp j), upd ns q (nd ||| ((1 : Int32) <<< (nI j &&& 31))), rq_V_upd hV hs, pk_us, fun P h => rq_xInp hi hj h, fun P h => rq_yInp hi hj hq ha e1 e2 (by rw [hN]; exact h)⟩
  · by_cases z : st k = 0
    · exact Or.inr ⟨_, _, nI k, nI_pos (by omega), fun P h => rq_xQry0 hi hk z h, fun P h => rq_yQry0 hk ha e1 e2 z h⟩
    · obtain ⟨v1, v2⟩ := hV k hk z
      refine Or.inl ⟨_, upd pl i (sv k), upd ns q (nd ||| (sn k ||| ((1 : Int32) <<< ((6 + nI k) &&& 31)))), rq_V_upd hV hs, pk_us, fun P h => rq_xQry1 hi hk z h, fun P h => rq_yQry1 hi hk hq ha e1 e2 z ?_⟩
      rw [hN, Int32.or_assoc, ← v1, ← v2]
      exact h
  · obtain ⟨m, rfl⟩ : ∃ m, o = m + 1 := ⟨o - 1, by omega⟩
    obtain ⟨k, hk, c1, c2⟩ : ∃ k, k < 8 ∧ (pl m = 0 → nI j2 = nI k) ∧ (¬ pl m = 0 → nI j1 = nI k) := by
      by_cases c : pl m = 0
      · exact ⟨j2, hj2, fun _ => rfl, fun z => absurd c z⟩
      · exact ⟨j1, hj1, fun z => absurd z c, fun _ => rfl⟩
    by_cases z : st k = 0
    · exact Or.inr ⟨_, _, nI k, nI_pos (by omega), fun P h => rq_xCho0 (by omega) hk c1 c2 z h, fun P h => rq_yCho0 (by omega) hk ha e1 (fun y => e3.trans (c1 y)) (fun y => e2.trans (c2 y)) z h⟩
    · obtain ⟨v1, v2⟩ := hV k hk z
      refine Or.inl ⟨_, upd pl m (sv k), upd ns q (nd ||| (sn k ||| ((1 : Int32) <<< ((6 + nI k) &&& 31)))), rq_V_upd hV hs, pk_us, fun P h => rq_xCho1 (by omega) hk c1 c2 z h, fun P h => rq_yCho1 (by omega) hk hq ha e1 (fun y => e3.trans (c1 y)) (fun y => e2.trans (c2 y)) z ?_⟩
      rw [hN, Int32.or_assoc, ← v1, ← v2]
      exact h
  · obtain ⟨m, rfl⟩ : ∃ m, o = m + 1 := ⟨o - 1, by omega⟩
    obtain rfl : i = m + 2 := by omega
    exact Or.inl ⟨nd, upd pl m (rq_op p (pl m) (pl (m + 1))), ns, hV, hN, fun P h => rq_xOp (by omega) hp h, fun P h => rq_yOps (by omega) hp ha e1 h⟩
theorem rq_body {n q : Nat} {h : Nat → Nat} (hq : q < 8) (hn : n ≤ 10) (h1 : h n = 1) (hz : sz q = nI n)
    (hB : rq_B (fun t => bK (10 * q + t)) (fun t => kd (10 * q + t)) (fun t => fi (10 * q + t)) (fun t => se (10 * q + t)) n h)
    (hO : ∀ j, j < 80 → bF j = fi j ∧ bS j = se j) (hs : st q = 0) :
    ∀ d t, t + d = n → ∀ (nd : Int32) (pl ns : Nat → Int32), rq_V st sv sn vl ns → ns q = nd →
    ∃ (r ph' nd' tp' : Int32) (st' sv' sn' pl' vl' ns' : Nat → Int32), rq_V st' sv' sn' vl' ns' ∧ upd st q (vp_nar .boolean r) = st' ∧
      (∀ P : SX → Prop, P (dL, dH, ph', nd', inp, bK, bF, bS, bL, dK, dF, dS, st', sv', sn', sb, vb, pl') → wX_tryToSettle_27 P (nI q) (nI (10 * q + n)) (d + 1) (nI (10 * q + t)) dL dH (nI (h t)) nd inp bK bF bS bL dK dF dS st sv sn sb vb pl) ∧
      (∀ P : Int32 → SY → Prop, P r (hY, tp', inp, kd, fi, se, sz, pl', vl', st, ns', ov, ok) → wY_workOff_14 P (nI q) (d + 1) (nI t) hY (nI (h t)) inp kd fi se sz pl vl st ns ov ok) := by
  have cq : (nI q).toNatClampNeg = q := rq_cl (by omega)
  have qi : vp_in (nI q) 8 := vp_in_nI hq (by omega)
  have qi9 : vp_in (nI q) 9 := vp_in_nI (by omega) (by omega)
  have es : sz (nI q).toNatClampNeg = nI n := by rw [cq]; exact hz
  intro d
  induction d with
  | zero =>
    intro t ht nd pl ns hV hN
    obtain rfl : t = n := by omega
    refine ⟨1, nI (h t), nd, nI 0, upd st q (vp_nar .boolean 1), upd sv q (pl 0), upd sn q nd, pl, upd vl q (pl 0), ns, rq_V_done hV hN, rfl, fun P hP => ?_, fun P hP => ?_⟩
    · refine br_t (Int32.le_refl _) (And.intro qi ?_)
      refine nm_r (e' := upd st q (vp_nar .boolean 1)) (by rw [cq]) (And.intro qi ?_)
      refine nm_r (e' := upd sv q (pl 0)) (by rw [cq]) (And.intro qi ?_)
      exact nm_r (e' := upd sn q nd) (by rw [cq]) hP
    · rw [h1]
      refine And.intro qi9 (br_t (by rw [es]; exact Int32.le_refl _) ?_)
      refine rq_yPop (m := 0) (by omega) (And.intro qi ?_)
      exact nm_r (e' := upd vl q (pl 0)) (by rw [cq]) hP
  | succ d ih =>
    intro t ht nd pl ns hV hN
    have hT : rq_T (bK (10 * q + t)) (kd (10 * q + t)) (fi (10 * q + t)) (se (10 * q + t)) (h t) (h (t + 1)) := hB.2 t (by omega)
    have hle := rq_B_le hB t (by omega)
    obtain ⟨o1, o2⟩ := hO (10 * q + t) (by omega)
    have cw : (nI (10 * q + t)).toNatClampNeg = 10 * q + t := rq_cl (by omega)
    have wi : vp_in (nI (10 * q + t)) 80 := vp_in_nI (by omega) (by omega)
    have g1 : ¬ nI (10 * q + n) ≤ nI (10 * q + t) := nI_ge (by omega) (by omega)
    have g2 : ¬ sz (nI q).toNatClampNeg ≤ nI t := by rw [es]; exact nI_ge (by omega) (by omega)
    rcases rq_tok (dL := dL) (dH := dH) (hY := hY) (inp := inp) (bK := bK) (bF := bF) (bS := bS) (bL := bL) (dK := dK) (dF := dF) (dS := dS) (sb := sb) (vb := vb) (pl := pl) (sz := sz) (ov := ov) (ok := ok) hT (by omega) hq (show 10 * q + t < 90 by omega) rfl rfl rfl hV hs hN with ⟨nd1, pl1, ns1, hV1, hN1, tX, tY⟩ | ⟨ph1, tp1, r, hr, tX, tY⟩
    · obtain ⟨r, ph2, nd2, tp2, st2, sv2, sn2, pl2, vl2, ns2, hV2, hU2, gX, gY⟩ := ih (t + 1) (by omega) nd1 pl1 ns1 hV1 hN1
      refine ⟨r, ph2, nd2, tp2, st2, sv2, sn2, pl2, vl2, ns2, hV2, hU2, fun P hP => ?_, fun P hP => ?_⟩
      · refine br_f g1 (And.intro wi (And.intro wi (And.intro wi ?_)))
        rw [cw, o1, o2]
        refine tX _ ?_
        exact br_f (by decide) (nm_r (e' := nI (10 * q + (t + 1))) (nI_1 _) (gX P hP))
      · refine And.intro qi9 (br_f g2 ?_)
        rw [rq_mulL, nI_add (10 * q) t]
        refine tY _ ?_
        exact br_t (by decide) (nm_r (e' := nI (t + 1)) (nI_1 t) (gY P hP))
    · refine ⟨0, ph1, nd, tp1, st, sv, sn, pl, vl, ns, hV, by rw [rq_b0]; exact rq_us hs, fun P hP => ?_, fun P hP => ?_⟩
      · refine br_f g1 (And.intro wi (And.intro wi (And.intro wi ?_)))
        rw [cw, o1, o2]
        refine tX _ ?_
        exact br_t rfl hP
      · refine And.intro qi9 (br_f g2 ?_)
        rw [rq_mulL, nI_add (10 * q) t]
        refine tY _ ?_
        exact br_f hr hP
theorem rq_one {q : Nat} (hq : q < 8) (hB0 : rq_Bod bK bL kd fi se sz) (hO : ∀ j, j < 80 → bF j = fi j ∧ bS j = se j) (hs : st q = 0) (hV : rq_V st sv sn vl ns) :
    ∃ (r ph' nd' tp' : Int32) (st' sv' sn' pl' vl' ns' : Nat → Int32), rq_V st' sv' sn' vl' ns' ∧ upd st q (vp_nar .boolean r) = st' ∧
      (∀ P : SX → Prop, P (dL, dH, ph', nd', inp, bK, bF, bS, bL, dK, dF, dS, st', sv', sn', sb, vb, pl') → wpX_tryToSettle P (dL, dH, ph, nd, inp, bK, bF, bS, bL, dK, dF, dS, st, sv, sn, sb, vb, pl) (nI q)) ∧
      (∀ P : Int32 → SY → Prop, P r (hY, tp', inp, kd, fi, se, sz, pl', vl', st, ns', ov, ok) → wpY_workOff P (hY, tp, inp, kd, fi, se, sz, pl, vl, st, ns, ov, ok) (nI q)) := by
  have cq : (nI q).toNatClampNeg = q := rq_cl (by omega)
  have qi : vp_in (nI q) 8 := vp_in_nI hq (by omega)
  obtain ⟨n, h, n1, n2, l1, l2, h1, hB⟩ := hB0 q hq
  obtain ⟨r, ph2, nd2, tp2, st2, sv2, sn2, pl2, vl2, ns2, hV2, hU2, gX, gY⟩ := rq_body (dL := dL) (dH := dH) (hY := hY) (inp := inp) (bK := bK) (bF := bF) (bS := bS) (bL := bL) (dK := dK) (dF := dF) (dS := dS) (sb := sb) (vb := vb) (sz := sz) (ov := ov) (ok := ok) hq n2 h1 l2 hB hO hs n 0 (by omega) 0 pl (upd ns q 0) (rq_V_upd hV hs) pk_us
  refine ⟨r, ph2, nd2, tp2, st2, sv2, sn2, pl2, vl2, ns2, hV2, hU2, fun P hP => ?_, fun P hP => ?_⟩
  · unfold wpX_tryToSettle
    refine nm_r (e' := nI (10 * q)) (rq_mulR q) (And.intro qi (nm_r (e' := nI (10 * q + n)) (by rw [cq, l1, nI_add]) ⟨n + 1, ?_⟩))
    have g := gX P hP
    rw [hB.1] at g
    exact g
  · unfold wpY_workOff
    refine And.intro qi (nm_r (e' := upd ns q 0) (by rw [cq]) ⟨n + 1, ?_⟩)
    have g := gY P hP
    rw [hB.1] at g
    exact g
end RQB
