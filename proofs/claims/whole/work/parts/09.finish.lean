/-! scrap, drafted, finish, the constructors -/
section RQF
variable {dL dH ph nd hY tp : Int32} {inp bK bF bS bL dK dF dS st sv sn sb vb pl kd fi se sz vl ns ov ok : Nat → Int32}
theorem rq_xFin {post : Int32 → SX → Prop} {n q : Nat} (hq : q < 8) (hn : n ≤ 10)
    (h : post (nI n) (0, 0, ph, nd, inp, rq_cp bK dK (10 * q) n, rq_cp bF dF (10 * q) n, rq_cp bS dS (10 * q) n, upd bL q (nI n), dK, dF, dS, st, sv, sn, sb, vb, pl)) :
    ∀ d i, i + d = n → wX_finish_33 post (nI q) (nI (10 * q)) (nI n) dL dH ph nd (d + 1) (nI i) inp (rq_cp bK dK (10 * q) i) (rq_cp bF dF (10 * q) i) (rq_cp bS dS (10 * q) i) bL dK dF dS st sv sn sb vb pl := by
  have cq : (nI q).toNatClampNeg = q := rq_cl (by omega)
  have qi : vp_in (nI q) 8 := vp_in_nI hq (by omega)
  intro d
  induction d with
  | zero =>
    intro i hi
    obtain rfl : i = n := by omega
    refine br_t (Int32.le_refl _) (And.intro qi (nm_r (e' := upd bL q (nI i)) (by rw [cq]) ?_))
    unfold wpX_scrap
    exact h
  | succ d ih =>
    intro i hi
    have ci : (nI i).toNatClampNeg = i := rq_cl (by omega)
    have cw : (nI (10 * q) + nI i).toNatClampNeg = 10 * q + i := by rw [nI_add]; exact rq_cl (by omega)
    have ii : vp_in (nI i) 10 := vp_in_nI (by omega) (by omega)
    have wi : vp_in (nI (10 * q) + nI i) 80 := by rw [nI_add]; exact vp_in_nI (by omega) (by omega)
    refine br_f (nI_ge (by omega) (by omega)) ?_
    refine And.intro ii (And.intro wi (nm_r (e' := rq_cp bK dK (10 * q) (i + 1)) (by rw [cw, ci, rq_cp_s]) ?_))
    refine And.intro ii (And.intro wi (nm_r (e' := rq_cp bF dF (10 * q) (i + 1)) (by rw [cw, ci, rq_cp_s]) ?_))
    refine And.intro ii (And.intro wi (nm_r (e' := rq_cp bS dS (10 * q) (i + 1)) (by rw [cw, ci, rq_cp_s]) ?_))
    exact nm_r (e' := nI (i + 1)) (nI_1 i) (ih (i + 1) (by omega))
theorem rq_ycp {a : Nat → Int32} {q n i : Nat} (hq : q < 8) (hn : n ≤ 10) (hi : i < n) : upd (rq_cp a (fun t => a (80 + t)) (10 * q) i) (10 * q + i) (rq_cp a (fun t => a (80 + t)) (10 * q) i (80 + i)) = rq_cp a (fun t => a (80 + t)) (10 * q) (i + 1) := by
  have e : rq_cp a (fun t => a (80 + t)) (10 * q) i (80 + i) = (fun t => a (80 + t)) i := rq_cp_out (by omega)
  rw [e]
  exact rq_cp_s
theorem rq_yFin {post : Int32 → SY → Prop} {n q : Nat} (hq : q < 8) (hn : n ≤ 10) (hz : sz 8 = nI n)
    (h : post (nI n) (0, tp, inp, rq_cp kd (fun t => kd (80 + t)) (10 * q) n, rq_cp fi (fun t => fi (80 + t)) (10 * q) n, rq_cp se (fun t => se (80 + t)) (10 * q) n, upd (upd sz q (nI n)) 8 0, pl, vl, st, ns, ov, ok)) :
    ∀ d i, i + d = n → wY_finish_23 post (nI q) hY tp (d + 1) (nI i) inp (rq_cp kd (fun t => kd (80 + t)) (10 * q) i) (rq_cp fi (fun t => fi (80 + t)) (10 * q) i) (rq_cp se (fun t => se (80 + t)) (10 * q) i) sz pl vl st ns ov ok := by
  have cq : (nI q).toNatClampNeg = q := rq_cl (by omega)
  have qi : vp_in (nI q) 9 := vp_in_nI (by omega) (by omega)
  intro d
  induction d with
  | zero =>
    intro i hi
    obtain rfl : i = n := by omega
    refine br_t (by rw [hz]; exact Int32.le_refl _) (And.intro qi (nm_r (e' := upd sz q (nI i)) (by rw [cq, hz]) ?_))
    unfold wpY_scrap
    refine nm_e (And.intro qi ?_)
    rw [cq, pk_un (show q ≠ 8 by omega), pk_us]
    exact h
  | succ d ih =>
    intro i hi
    have cs : (80 + nI i).toNatClampNeg = 80 + i := by
      rw [show (80 : Int32) = nI 80 from rfl, nI_add]
      exact rq_cl (by omega)
    have cw : (10 * nI q + nI i).toNatClampNeg = 10 * q + i := by rw [rq_mulL, nI_add]; exact rq_cl (by omega)
    have si : vp_in (80 + nI i) 90 := by
      rw [show (80 : Int32) = nI 80 from rfl, nI_add]
      exact vp_in_nI (by omega) (by omega)
    have wi : vp_in (10 * nI q + nI i) 90 := by rw [rq_mulL, nI_add]; exact vp_in_nI (by omega) (by omega)
    refine br_f (by rw [hz]; exact nI_ge (by omega) (by omega)) ?_
    refine And.intro si (And.intro wi (nm_r (e' := rq_cp kd (fun t => kd (80 + t)) (10 * q) (i + 1)) (by rw [cw, cs]; exact rq_ycp hq hn (by omega)) ?_))
    refine And.intro si (And.intro wi (nm_r (e' := rq_cp fi (fun t => fi (80 + t)) (10 * q) (i + 1)) (by rw [cw, cs]; exact rq_ycp hq hn (by omega)) ?_))
    refine And.intro si (And.intro wi (nm_r (e' := rq_cp se (fun t => se (80 + t)) (10 * q) (i + 1)) (by rw [cw, cs]; exact rq_ycp hq hn (by omega)) ?_))
    exact nm_r (e' := nI (i + 1)) (nI_1 i) (ih (i + 1) (by omega))
theorem rq_xFinish {post : Int32 → SX → Prop} {n q : Nat} (hq : q < 8) (hn : n ≤ 10) (h1 : dH = 1)
    (h : post (nI n) (0, 0, ph, nd, inp, rq_cp bK dK (10 * q) n, rq_cp bF dF (10 * q) n, rq_cp bS dS (10 * q) n, upd bL q (nI n), dK, dF, dS, st, sv, sn, sb, vb, pl)) :
    wpX_finish post (nI n, dH, ph, nd, inp, bK, bF, bS, bL, dK, dF, dS, st, sv, sn, sb, vb, pl) (nI q) := by
  unfold wpX_finish
  refine rq_xQu hq (br_f (by decide) (br_t h1 (nm_r (e' := nI (10 * q)) (rq_mulR q) ⟨n + 1, ?_⟩)))
  have g := rq_xFin (dL := nI n) (dH := dH) hq hn h n 0 (by omega)
  rw [rq_cp_0, rq_cp_0, rq_cp_0] at g
  exact g
theorem rq_yFinish {post : Int32 → SY → Prop} {n q : Nat} (hq : q < 8) (hn : n ≤ 10) (hz : sz 8 = nI n) (h1 : hY = 1)
    (h : post (nI n) (0, tp, inp, rq_cp kd (fun t => kd (80 + t)) (10 * q) n, rq_cp fi (fun t => fi (80 + t)) (10 * q) n, rq_cp se (fun t => se (80 + t)) (10 * q) n, upd (upd sz q (nI n)) 8 0, pl, vl, st, ns, ov, ok)) :
    wpY_finish post (hY, tp, inp, kd, fi, se, sz, pl, vl, st, ns, ov, ok) (nI q) := by
  unfold wpY_finish
  refine rq_yQu hq (br_f (by decide) (br_t h1 ⟨n + 1, ?_⟩))
  have g := rq_yFin (hY := hY) hq hn hz h n 0 (by omega)
  rw [rq_cp_0, rq_cp_0, rq_cp_0] at g
  exact g
theorem rq_xInit {P : SX → Prop} (h : ∀ (bK bL : Nat → Int32), (∀ k, k < 8 → bK (10 * k) = 4 ∧ bL k = 1) → P (dL, dH, ph, nd, inp, bK, bF, bS, bL, dK, dF, dS, st, sv, sn, sb, vb, pl)) :
    ∀ d q, q + d = 8 → ∀ (bK bL : Nat → Int32), (∀ k, k < q → bK (10 * k) = 4 ∧ bL k = 1) → wX_init_118 P dL dH ph nd (d + 1) (nI q) inp bK bF bS bL dK dF dS st sv sn sb vb pl := by
  intro d
  induction d with
  | zero =>
    intro q hq bK bL h0
    obtain rfl : q = 8 := by omega
    exact br_t (by decide) (h bK bL h0)
  | succ d ih =>
    intro q hq bK bL h0
    have cq : (nI q).toNatClampNeg = q := rq_cl (by omega)
    have cw : (nI q * 10).toNatClampNeg = 10 * q := by rw [rq_mulR]; exact rq_cl (by omega)
    have wi : vp_in (nI q * 10) 80 := by rw [rq_mulR]; exact vp_in_nI (by omega) (by omega)
    have qi : vp_in (nI q) 8 := vp_in_nI (by omega) (by omega)
    refine br_f (nI_ge (b := 8) (by omega) (by omega)) ?_
    refine And.intro wi (nm_r (e' := upd bK (10 * q) 4) (by rw [cw]) (And.intro qi (nm_r (e' := upd bL q 1) (by rw [cq]) ?_)))
    refine nm_r (e' := nI (q + 1)) (nI_1 q) (ih (q + 1) (by omega) _ _ fun k hk => ?_)
    by_cases e : k = q
    · subst e
      exact ⟨pk_us, pk_us⟩
    · rw [pk_un e, pk_un (show 10 * k ≠ 10 * q by omega)]
      exact h0 k (by omega)
theorem rq_yInit {P : SY → Prop} (h : ∀ (sz : Nat → Int32), (∀ k, k < 8 → sz k = 1) → sz 8 = 0 → P (hY, tp, inp, kd, fi, se, sz, pl, vl, st, ns, ov, ok)) :
    ∀ d q, q + d = 8 → ∀ (sz : Nat → Int32), (∀ k, k < q → sz k = 1) → sz 8 = 0 → wY_init_94 P hY tp (d + 1) (nI q) inp kd fi se sz pl vl st ns ov ok := by
  intro d
  induction d with
  | zero =>
    intro q hq sz h0 h8
    obtain rfl : q = 8 := by omega
    exact br_t (by decide) (h sz h0 h8)
  | succ d ih =>
    intro q hq sz h0 h8
    have cq : (nI q).toNatClampNeg = q := rq_cl (by omega)
    have qi : vp_in (nI q) 9 := vp_in_nI (by omega) (by omega)
    refine br_f (nI_ge (b := 8) (by omega) (by omega)) ?_
    refine And.intro qi (nm_r (e' := upd sz q 1) (by rw [cq]) ?_)
    refine nm_r (e' := nI (q + 1)) (nI_1 q) (ih (q + 1) (by omega) _ (fun k hk => ?_) ?_)
    · by_cases e : k = q
      · subst e
        exact pk_us
      · rw [pk_un e]
        exact h0 k (by omega)
    · rw [pk_un (by omega)]
      exact h8
end RQF
theorem i_vc0 : wpX_init (fun u => wpY_init (fun v => i_Rel 0 u v)) := by
  unfold wpX_init
  refine ⟨8 + 1, rq_xInit (fun bK bL hX => ?_) 8 0 (by omega) (fun _ => 0) (fun _ => 0) (fun k hk => absurd hk (Nat.not_lt_zero k))⟩
  unfold wpY_init
  refine ⟨8 + 1, rq_yInit (fun sz hY h8 => ?_) 8 0 (by omega) (fun _ => 0) (fun k hk => absurd hk (Nat.not_lt_zero k)) rfl⟩
  refine rq_mk (fun q hq => ?_) ⟨0, fun _ => 0, by omega, rfl, h8, rfl, rfl, fun t ht => absurd ht (Nat.not_lt_zero t)⟩ ⟨fun j hj => ⟨rfl, rfl⟩, fun i hi => ⟨rfl, rfl⟩⟩
  refine ⟨1, fun t => t, by omega, by omega, (hX q hq).2, hY q hq, rfl, rfl, fun t ht => ?_⟩
  obtain rfl : t = 0 := by omega
  exact Or.inl ⟨(hX q hq).1, rfl, rfl⟩
theorem i_vc_scrap {k : Nat} {u : SX} {v : SY} (I : i_Rel k u v) (hk : k + 3 ≤ 1536) : wpX_scrap (fun u' => wpY_scrap (fun v' => i_Rel (k + 3) u' v') v) u := by
  obtain ⟨dL, dH, ph, nd, tp, inp, bK, bF, bS, bL, dK, dF, dS, st, sv, sn, sb, vb, pl, kd, fi, se, sz, vl, ns, ov, ok, rfl, rfl, hB, hD, hO⟩ := I
  unfold wpX_scrap
  unfold wpY_scrap
  exact nm_e (rq_mk (rq_Bod_sz hB) rq_Dra_0 hO)
theorem i_vc_drafted {k : Nat} {u : SX} {v : SY} (I : i_Rel k u v) (hk : k + 3 ≤ 1536) : wpX_drafted (fun r => wpY_drafted (fun r' => r' = r ∧ i_Rel (k + 3) u v) v) u := by
  have J := I
  obtain ⟨dL, dH, ph, nd, tp, inp, bK, bF, bS, bL, dK, dF, dS, st, sv, sn, sb, vb, pl, kd, fi, se, sz, vl, ns, ov, ok, rfl, rfl, hB, hD, hO⟩ := I
  obtain ⟨n, h, hn, rfl, hz, rfl, H⟩ := hD
  unfold wpX_drafted
  unfold wpY_drafted
  exact ⟨hz, J⟩
theorem i_vc_finish {k : Nat} {u : SX} {v : SY} (I : i_Rel k u v) (hk : k + 3 ≤ 1536) (v1 : Int32) : wpX_finish (fun r u' => wpY_finish (fun r' v' => r' = r ∧ i_Rel (k + 3) u' v') v v1) u v1 := by
  obtain ⟨dL, dH, ph, nd, tp, inp, bK, bF, bS, bL, dK, dF, dS, st, sv, sn, sb, vb, pl, kd, fi, se, sz, vl, ns, ov, ok, rfl, rfl, hB, hD, hO⟩ := I
  rcases rq_quC v1 with ⟨q, hq, rfl⟩ | ⟨hX, hY⟩
  · have hD0 := hD
    obtain ⟨n, h, hn, rfl, hz, rfl, H⟩ := hD
    have hle := rq_B_le H n (Nat.le_refl n)
    by_cases h1 : h n = 1
    · have e1 : nI (h n) = 1 := by rw [h1]; rfl
      obtain ⟨hB', hD', hO'⟩ := rq_fin hq hn h1 hB hO H
      exact rq_xFinish hq hn e1 (rq_yFinish hq hn hz e1 ⟨rfl, rq_mk hB' hD' hO'⟩)
    · have e1 : ¬ nI (h n) = 1 := fun y => h1 ((nI_eq (b := 1) (by omega) (by omega)).mp y)
      unfold wpX_finish
      refine rq_xQu hq (br_f (by decide) (br_f e1 ?_))
      unfold wpY_finish
      exact rq_yQu hq (br_f (by decide) (br_f e1 ⟨rfl, rq_mk hB hD0 hO⟩))
  · unfold wpX_finish
    refine hX _ (br_t rfl ?_)
    unfold wpY_finish
    exact hY _ _ (br_t rfl ⟨rfl, rq_mk hB hD hO⟩)
