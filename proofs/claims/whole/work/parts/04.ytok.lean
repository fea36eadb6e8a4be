/-! the reference: one token worked off -/
section RQY
variable {post : Int32 → SY → Prop} {hY tp : Int32} {inp kd fi se sz pl vl st ns ov ok : Nat → Int32}
theorem rq_yPush {P : SY → Prop} {i : Nat} {x : Int32} (hi : i ≤ 9) (h : P (hY, nI (i + 1), inp, kd, fi, se, sz, upd pl i x, vl, st, ns, ov, ok)) : wpY_push P (hY, nI i, inp, kd, fi, se, sz, pl, vl, st, ns, ov, ok) x := by
  unfold wpY_push
  have ci : (nI i).toNatClampNeg = i := rq_cl (by omega)
  exact br_f (nI_ge (b := 10) (by omega) (by omega)) ⟨vp_in_nI (by omega) (by omega), nm_r (e' := upd pl i x) (by rw [ci]) (nm_r (e' := nI (i + 1)) (nI_1 i) h)⟩
theorem rq_yPop {m : Nat} (hm : m ≤ 9) (h : post (pl m) (hY, nI m, inp, kd, fi, se, sz, pl, vl, st, ns, ov, ok)) : wpY_pop post (hY, nI (m + 1), inp, kd, fi, se, sz, pl, vl, st, ns, ov, ok) := by
  unfold wpY_pop
  have cm : (nI m).toNatClampNeg = m := rq_cl (by omega)
  exact br_f (nI_ne0 (by omega) (by omega)) (nm_r (e' := nI m) (nI_pred m) ⟨vp_in_nI (by omega) (by omega), by rw [cm]; exact h⟩)
theorem rq_yOp {P : SY → Prop} {m p : Nat} (hm : m ≤ 8) (hp : p < 4) (h : P (hY, nI (m + 1), inp, kd, fi, se, sz, upd pl m (rq_op p (pl m) (pl (m + 1))), vl, st, ns, ov, ok)) : wpY_operate P (hY, nI (m + 2), inp, kd, fi, se, sz, pl, vl, st, ns, ov, ok) (nI (4 + p)) := by
  unfold wpY_operate
  refine rq_yPop (m := m + 1) (by omega) ?_
  refine rq_yPop (m := m) (by omega) ?_
  match p, hp with
  | 0, _ => exact br_t rfl (rq_yPush (by omega) h)
  | 1, _ => exact br_f (by decide) (br_t rfl (rq_yPush (by omega) h))
  | 2, _ => exact br_f (by decide) (br_f (by decide) (br_t rfl (rq_yPush (by omega) h)))
  | 3, _ =>
    refine br_f (by decide) (br_f (by decide) (br_f (by decide) ?_))
    by_cases c : pl (m + 1) ≤ pl m
    · have e : rq_op 3 (pl m) (pl (m + 1)) = 0 := by
        show (if pl (m + 1) ≤ pl m then (0 : Int32) else 1) = 0
        exact if_pos c
      rw [e] at h
      refine br_t c ?_
      unfold wY_operate_67
      exact rq_yPush (by omega) h
    · have e : rq_op 3 (pl m) (pl (m + 1)) = 1 := by
        show (if pl (m + 1) ≤ pl m then (0 : Int32) else 1) = 1
        exact if_neg c
      rw [e] at h
      refine br_f c ?_
      unfold wY_operate_67
      exact rq_yPush (by omega) h
theorem rq_yNum {i a : Nat} {x : Int32} (hi : i ≤ 9) (ha : a < 90) (e1 : kd a = 0) (h : post (-1) (hY, nI (i + 1), inp, kd, fi, se, sz, upd pl i (fi a), vl, st, ns, ov, ok)) : wpY_step post (hY, nI i, inp, kd, fi, se, sz, pl, vl, st, ns, ov, ok) (nI a) x := by
  unfold wpY_step
  have ca : (nI a).toNatClampNeg = a := rq_cl (by omega)
  have ai : vp_in (nI a) 90 := vp_in_nI ha (by omega)
  rw [ca]
  exact ⟨ai, br_t e1 ⟨ai, rq_yPush hi h⟩⟩
theorem rq_yInp {i j a q : Nat} (hi : i ≤ 9) (hj : j < 6) (hq : q < 8) (ha : a < 90) (e1 : kd a = 1) (e2 : fi a = nI j) (h : post (-1) (hY, nI (i + 1), inp, kd, fi, se, sz, upd pl i (inp j), vl, st, upd ns q (ns q ||| ((1 : Int32) <<< (nI j &&& 31))), ov, ok)) : wpY_step post (hY, nI i, inp, kd, fi, se, sz, pl, vl, st, ns, ov, ok) (nI a) (nI q) := by
  unfold wpY_step
  have ca : (nI a).toNatClampNeg = a := rq_cl (by omega)
  have cq : (nI q).toNatClampNeg = q := rq_cl (by omega)
  have cj : (nI j).toNatClampNeg = j := rq_cl (by omega)
  have ai : vp_in (nI a) 90 := vp_in_nI ha (by omega)
  have qi : vp_in (nI q) 8 := vp_in_nI hq (by omega)
  dsimp only
  rw [ca, cq, e1, e2, cj]
  exact ⟨ai, br_f (by decide) ⟨ai, br_t rfl ⟨qi, ai, qi, nm_e ⟨ai, vp_in_nI hj (by omega), rq_yPush hi h⟩⟩⟩⟩
theorem rq_y134_0 {k : Nat} {x : Int32} (hk : k < 8) (hs : st k = 0) (h : post (nI k) (hY, tp, inp, kd, fi, se, sz, pl, vl, st, ns, ov, ok)) : wY_step_134 post x (nI k) hY tp inp kd fi se sz pl vl st ns ov ok := by
  unfold wY_step_134
  have ck : (nI k).toNatClampNeg = k := rq_cl (by omega)
  rw [ck]
  exact ⟨vp_in_nI hk (by omega), br_t hs h⟩
theorem rq_y134_1 {i k q : Nat} (hi : i ≤ 9) (hk : k < 8) (hq : q < 8) (hs : ¬ st k = 0) (h : post (-1) (hY, nI (i + 1), inp, kd, fi, se, sz, upd pl i (vl k), vl, st, upd ns q ((ns q ||| ns k) ||| ((1 : Int32) <<< ((6 + nI k) &&& 31))), ov, ok)) : wY_step_134 post (nI q) (nI k) hY (nI i) inp kd fi se sz pl vl st ns ov ok := by
  unfold wY_step_134
  have ck : (nI k).toNatClampNeg = k := rq_cl (by omega)
  have cq : (nI q).toNatClampNeg = q := rq_cl (by omega)
  have ki : vp_in (nI k) 8 := vp_in_nI hk (by omega)
  have qi : vp_in (nI q) 8 := vp_in_nI hq (by omega)
  rw [ck, cq]
  exact ⟨ki, br_f hs ⟨qi, ki, qi, nm_e ⟨ki, rq_yPush hi h⟩⟩⟩
theorem rq_yQry0 {i k a : Nat} {x : Int32} (hk : k < 8) (ha : a < 90) (e1 : kd a = 2) (e2 : fi a = nI k) (hs : st k = 0) (h : post (nI k) (hY, nI i, inp, kd, fi, se, sz, pl, vl, st, ns, ov, ok)) : wpY_step post (hY, nI i, inp, kd, fi, se, sz, pl, vl, st, ns, ov, ok) (nI a) x := by
  unfold wpY_step
  have ca : (nI a).toNatClampNeg = a := rq_cl (by omega)
  have ai : vp_in (nI a) 90 := vp_in_nI ha (by omega)
  dsimp only
  rw [ca, e1]
  exact ⟨ai, br_f (by decide) ⟨ai, br_f (by decide) ⟨ai, br_t (by decide) ⟨ai, nm_r e2 ⟨ai, br_f (by decide) (rq_y134_0 hk hs h)⟩⟩⟩⟩⟩
theorem rq_yQry1 {i k a q : Nat} (hi : i ≤ 9) (hk : k < 8) (hq : q < 8) (ha : a < 90) (e1 : kd a = 2) (e2 : fi a = nI k) (hs : ¬ st k = 0) (h : post (-1) (hY, nI (i + 1), inp, kd, fi, se, sz, upd pl i (vl k), vl, st, upd ns q ((ns q ||| ns k) ||| ((1 : Int32) <<< ((6 + nI k) &&& 31))), ov, ok)) : wpY_step post (hY, nI i, inp, kd, fi, se, sz, pl, vl, st, ns, ov, ok) (nI a) (nI q) := by
  unfold wpY_step
  have ca : (nI a).toNatClampNeg = a := rq_cl (by omega)
  have ai : vp_in (nI a) 90 := vp_in_nI ha (by omega)
  dsimp only
  rw [ca, e1]
  exact ⟨ai, br_f (by decide) ⟨ai, br_f (by decide) ⟨ai, br_t (by decide) ⟨ai, nm_r e2 ⟨ai, br_f (by decide) (rq_y134_1 hi hk hq hs h)⟩⟩⟩⟩⟩
theorem rq_yCho0 {m k a : Nat} {x : Int32} (hm : m ≤ 9) (hk : k < 8) (ha : a < 90) (e1 : kd a = 3) (c1 : pl m = 0 → se a = nI k) (c2 : ¬ pl m = 0 → fi a = nI k) (hs : st k = 0) (h : post (nI k) (hY, nI m, inp, kd, fi, se, sz, pl, vl, st, ns, ov, ok)) : wpY_step post (hY, nI (m + 1), inp, kd, fi, se, sz, pl, vl, st, ns, ov, ok) (nI a) x := by
  unfold wpY_step
  have ca : (nI a).toNatClampNeg = a := rq_cl (by omega)
  have ai : vp_in (nI a) 90 := vp_in_nI ha (by omega)
  dsimp only
  rw [ca, e1]
  refine ⟨ai, br_f (by decide) ⟨ai, br_f (by decide) ⟨ai, br_t (by decide) ⟨ai, nm_e ⟨ai, br_t rfl (rq_yPop hm ?_)⟩⟩⟩⟩⟩
  refine br_c (fun z => ⟨ai, ?_⟩) (fun z => ⟨ai, ?_⟩)
  · unfold wY_step_133
    dsimp only
    rw [c1 z]
    exact rq_y134_0 hk hs h
  · unfold wY_step_133
    dsimp only
    rw [c2 z]
    exact rq_y134_0 hk hs h
theorem rq_yCho1 {m k a q : Nat} (hm : m ≤ 9) (hk : k < 8) (hq : q < 8) (ha : a < 90) (e1 : kd a = 3) (c1 : pl m = 0 → se a = nI k) (c2 : ¬ pl m = 0 → fi a = nI k) (hs : ¬ st k = 0) (h : post (-1) (hY, nI (m + 1), inp, kd, fi, se, sz, upd pl m (vl k), vl, st, upd ns q ((ns q ||| ns k) ||| ((1 : Int32) <<< ((6 + nI k) &&& 31))), ov, ok)) : wpY_step post (hY, nI (m + 1), inp, kd, fi, se, sz, pl, vl, st, ns, ov, ok) (nI a) (nI q) := by
  unfold wpY_step
  have ca : (nI a).toNatClampNeg = a := rq_cl (by omega)
  have ai : vp_in (nI a) 90 := vp_in_nI ha (by omega)
  dsimp only
  rw [ca, e1]
  refine ⟨ai, br_f (by decide) ⟨ai, br_f (by decide) ⟨ai, br_t (by decide) ⟨ai, nm_e ⟨ai, br_t rfl (rq_yPop hm ?_)⟩⟩⟩⟩⟩
  refine br_c (fun z => ⟨ai, ?_⟩) (fun z => ⟨ai, ?_⟩)
  · unfold wY_step_133
    dsimp only
    rw [c1 z]
    exact rq_y134_1 hm hk hq hs h
  · unfold wY_step_133
    dsimp only
    rw [c2 z]
    exact rq_y134_1 hm hk hq hs h
theorem rq_yOps {m p a : Nat} {x : Int32} (hm : m ≤ 8) (hp : p < 4) (ha : a < 90) (e1 : kd a = nI (4 + p)) (h : post (-1) (hY, nI (m + 1), inp, kd, fi, se, sz, upd pl m (rq_op p (pl m) (pl (m + 1))), vl, st, ns, ov, ok)) : wpY_step post (hY, nI (m + 2), inp, kd, fi, se, sz, pl, vl, st, ns, ov, ok) (nI a) x := by
  unfold wpY_step
  have ca : (nI a).toNatClampNeg = a := rq_cl (by omega)
  have ai : vp_in (nI a) 90 := vp_in_nI ha (by omega)
  dsimp only
  rw [ca, e1]
  have n0 : ¬ nI (4 + p) = 0 := nI_ne0 (by omega) (by omega)
  have n1 : ¬ nI (4 + p) = 1 := fun z => by
    have := (nI_eq (a := 4 + p) (b := 1) (by omega) (by omega)).mp z
    omega
  exact ⟨ai, br_f n0 ⟨ai, br_f n1 ⟨ai, br_f (nI_ge (b := 4 + p) (a := 3) (by omega) (by omega)) ⟨ai, rq_yOp hm hp h⟩⟩⟩⟩
end RQY
