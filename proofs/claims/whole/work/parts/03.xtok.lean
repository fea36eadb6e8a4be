/-! the class: one token worked off -/
section RQX
variable {post : Int32 → SX → Prop} {dL dH ph nd : Int32} {inp bK bF bS bL dK dF dS st sv sn sb vb pl : Nat → Int32}
theorem rq_cl {n : Nat} (h : n < 1000) : (nI n).toNatClampNeg = n := nI_clamp (by omega)
theorem rq_xPut0 {x : Int32} {k : Nat} (hk : k < 8) (hs : st k = 0) (h : post 0 (dL, dH, ph, nd, inp, bK, bF, bS, bL, dK, dF, dS, st, sv, sn, sb, vb, pl)) : wpX_putQuery post (dL, dH, ph, nd, inp, bK, bF, bS, bL, dK, dF, dS, st, sv, sn, sb, vb, pl) x (nI k) := by
  unfold wpX_putQuery
  have ck : (nI k).toNatClampNeg = k := rq_cl (by omega)
  have e : st (nI k).toNatClampNeg = 0 := by rw [ck]; exact hs
  exact ⟨vp_in_nI hk (by omega), br_t e h⟩
theorem rq_xPut1 {i k : Nat} (hi : i ≤ 9) (hk : k < 8) (hs : ¬ st k = 0) (h : post 1 (dL, dH, ph, nd ||| (sn k ||| ((1 : Int32) <<< ((6 + nI k) &&& 31))), inp, bK, bF, bS, bL, dK, dF, dS, st, sv, sn, sb, vb, upd pl i (sv k))) : wpX_putQuery post (dL, dH, ph, nd, inp, bK, bF, bS, bL, dK, dF, dS, st, sv, sn, sb, vb, pl) (nI i) (nI k) := by
  unfold wpX_putQuery
  have ck : (nI k).toNatClampNeg = k := rq_cl (by omega)
  have ci : (nI i).toNatClampNeg = i := rq_cl (by omega)
  have e : ¬ st (nI k).toNatClampNeg = 0 := by rw [ck]; exact hs
  have ki := vp_in_nI hk (show 8 < 2 ^ 31 by omega)
  exact ⟨ki, br_f e ⟨ki, vp_in_nI (by omega) (by omega), nm_r (e' := upd pl i (sv k)) (by rw [ck, ci]) ⟨ki, nm_r (e' := nd ||| (sn k ||| ((1 : Int32) <<< ((6 + nI k) &&& 31)))) (by rw [ck]) h⟩⟩⟩
/-- what an op makes of two numbers -/
def rq_op (p : Nat) (x y : Int32) : Int32 := if p = 0 then x + y else if p = 1 then x - y else if p = 2 then x * y else if y ≤ x then 0 else 1
theorem rq_xComb {P : Int32 → Prop} {p : Nat} {x y : Int32} (hp : p < 4) (h : P (rq_op p x y)) : wpX_combine P (nI p) x y := by
  match p, hp with
  | 0, _ => exact br_f (by decide) (br_f (by decide) (br_t rfl h))
  | 1, _ => exact br_f (by decide) (br_f (by decide) (br_f (by decide) (br_t rfl h)))
  | 2, _ => exact br_f (by decide) (br_f (by decide) (br_f (by decide) (br_f (by decide) (br_t rfl h))))
  | 3, _ =>
    refine br_f (by decide) (br_t (by decide) ?_)
    by_cases c : y ≤ x
    · have e : rq_op 3 x y = 0 := by
        show (if y ≤ x then (0 : Int32) else 1) = 0
        exact if_pos c
      rw [e] at h
      exact br_t c h
    · have e : rq_op 3 x y = 1 := by
        show (if y ≤ x then (0 : Int32) else 1) = 1
        exact if_neg c
      rw [e] at h
      exact br_f c h
theorem rq_xNum {i : Nat} {f s : Int32} (hi : i ≤ 9) (h : post 1 (dL, dH, nI (i + 1), nd, inp, bK, bF, bS, bL, dK, dF, dS, st, sv, sn, sb, vb, upd pl i f)) : wpX_workOff post (dL, dH, nI i, nd, inp, bK, bF, bS, bL, dK, dF, dS, st, sv, sn, sb, vb, pl) 4 f s := by
  unfold wpX_workOff
  have ci : (nI i).toNatClampNeg = i := rq_cl (by omega)
  refine br_t (by decide) (br_f (by decide) ?_)
  refine nm_r (e' := nI i) (Int32.sub_zero _) (nm_r (e' := nI (i + 1)) (nI_1 i) ?_)
  refine br_f (by decide) (br_f (by decide) (br_t rfl ⟨vp_in_nI (by omega) (by omega), ?_⟩))
  exact nm_r (e' := upd pl i f) (by rw [ci]) h
theorem rq_xInp {i j : Nat} {s : Int32} (hi : i ≤ 9) (hj : j < 6) (h : post 1 (dL, dH, nI (i + 1), nd ||| ((1 : Int32) <<< (nI j &&& 31)), inp, bK, bF, bS, bL, dK, dF, dS, st, sv, sn, sb, vb, upd pl i (inp j))) : wpX_workOff post (dL, dH, nI i, nd, inp, bK, bF, bS, bL, dK, dF, dS, st, sv, sn, sb, vb, pl) 5 (nI j) s := by
  unfold wpX_workOff
  have ci : (nI i).toNatClampNeg = i := rq_cl (by omega)
  have cj : (nI j).toNatClampNeg = j := rq_cl (by omega)
  refine br_t (by decide) (br_f (by decide) ?_)
  refine nm_r (e' := nI i) (Int32.sub_zero _) (nm_r (e' := nI (i + 1)) (nI_1 i) ?_)
  refine br_f (by decide) (br_f (by decide) (br_f (by decide) (br_t rfl ⟨vp_in_nI hj (by omega), vp_in_nI (by omega) (by omega), ?_⟩)))
  exact nm_r (e' := upd pl i (inp j)) (by rw [ci, cj]) (nm_e h)
theorem rq_xQry1 {i k : Nat} {s : Int32} (hi : i ≤ 9) (hk : k < 8) (hs : ¬ st k = 0) (h : post 1 (dL, dH, nI (i + 1), nd ||| (sn k ||| ((1 : Int32) <<< ((6 + nI k) &&& 31))), inp, bK, bF, bS, bL, dK, dF, dS, st, sv, sn, sb, vb, upd pl i (sv k))) : wpX_workOff post (dL, dH, nI i, nd, inp, bK, bF, bS, bL, dK, dF, dS, st, sv, sn, sb, vb, pl) 6 (nI k) s := by
  unfold wpX_workOff
  refine br_t (by decide) (br_f (by decide) ?_)
  refine nm_r (e' := nI i) (Int32.sub_zero _) (nm_r (e' := nI (i + 1)) (nI_1 i) ?_)
  refine br_f (by decide) (br_f (by decide) (br_f (by decide) (br_f (by decide) (br_t rfl ?_))))
  exact rq_xPut1 hi hk hs ⟨rfl, h⟩
theorem rq_xQry0 {i k : Nat} {s : Int32} (hi : i ≤ 9) (hk : k < 8) (hs : st k = 0) (h : post 0 (dL, dH, nI (i + 1), nd, inp, bK, bF, bS, bL, dK, dF, dS, st, sv, sn, sb, vb, pl)) : wpX_workOff post (dL, dH, nI i, nd, inp, bK, bF, bS, bL, dK, dF, dS, st, sv, sn, sb, vb, pl) 6 (nI k) s := by
  unfold wpX_workOff
  refine br_t (by decide) (br_f (by decide) ?_)
  refine nm_r (e' := nI i) (Int32.sub_zero _) (nm_r (e' := nI (i + 1)) (nI_1 i) ?_)
  refine br_f (by decide) (br_f (by decide) (br_f (by decide) (br_f (by decide) (br_t rfl ?_))))
  exact rq_xPut0 hk hs ⟨rfl, h⟩
theorem rq_xCho1 {m k : Nat} {f s : Int32} (hm : m ≤ 9) (hk : k < 8) (c1 : pl m = 0 → s = nI k) (c2 : ¬ pl m = 0 → f = nI k) (hs : ¬ st k = 0) (h : post 1 (dL, dH, nI (m + 1), nd ||| (sn k ||| ((1 : Int32) <<< ((6 + nI k) &&& 31))), inp, bK, bF, bS, bL, dK, dF, dS, st, sv, sn, sb, vb, upd pl m (sv k))) : wpX_workOff post (dL, dH, nI (m + 1), nd, inp, bK, bF, bS, bL, dK, dF, dS, st, sv, sn, sb, vb, pl) 7 f s := by
  unfold wpX_workOff
  have cm : (nI m).toNatClampNeg = m := rq_cl (by omega)
  refine br_t (by decide) (br_t rfl ?_)
  refine nm_r (e' := nI m) (nI_pred m) (nm_r (e' := nI (m + 1)) (nI_1 m) ?_)
  refine br_f (by decide) (br_f (by decide) (br_f (by decide) (br_f (by decide) (br_f (by decide) (br_t rfl ⟨vp_in_nI (by omega) (by omega), ?_⟩)))))
  rw [cm]
  refine br_c (fun z => ?_) (fun z => ?_)
  · rw [c1 z]
    unfold wX_workOff_115
    exact rq_xPut1 hm hk hs ⟨rfl, h⟩
  · rw [c2 z]
    unfold wX_workOff_115
    exact rq_xPut1 hm hk hs ⟨rfl, h⟩
theorem rq_xCho0 {m k : Nat} {f s : Int32} (hm : m ≤ 9) (hk : k < 8) (c1 : pl m = 0 → s = nI k) (c2 : ¬ pl m = 0 → f = nI k) (hs : st k = 0) (h : post 0 (dL, dH, nI (m + 1), nd, inp, bK, bF, bS, bL, dK, dF, dS, st, sv, sn, sb, vb, pl)) : wpX_workOff post (dL, dH, nI (m + 1), nd, inp, bK, bF, bS, bL, dK, dF, dS, st, sv, sn, sb, vb, pl) 7 f s := by
  unfold wpX_workOff
  have cm : (nI m).toNatClampNeg = m := rq_cl (by omega)
  refine br_t (by decide) (br_t rfl ?_)
  refine nm_r (e' := nI m) (nI_pred m) (nm_r (e' := nI (m + 1)) (nI_1 m) ?_)
  refine br_f (by decide) (br_f (by decide) (br_f (by decide) (br_f (by decide) (br_f (by decide) (br_t rfl ⟨vp_in_nI (by omega) (by omega), ?_⟩)))))
  rw [cm]
  refine br_c (fun z => ?_) (fun z => ?_)
  · rw [c1 z]
    unfold wX_workOff_115
    exact rq_xPut0 hk hs ⟨rfl, h⟩
  · rw [c2 z]
    unfold wX_workOff_115
    exact rq_xPut0 hk hs ⟨rfl, h⟩
theorem rq_xOp {m p : Nat} {f s : Int32} (hm : m ≤ 8) (hp : p < 4) (h : post 1 (dL, dH, nI (m + 1), nd, inp, bK, bF, bS, bL, dK, dF, dS, st, sv, sn, sb, vb, upd pl m (rq_op p (pl m) (pl (m + 1))))) : wpX_workOff post (dL, dH, nI (m + 2), nd, inp, bK, bF, bS, bL, dK, dF, dS, st, sv, sn, sb, vb, pl) (nI p) f s := by
  unfold wpX_workOff
  have cm : (nI m).toNatClampNeg = m := rq_cl (by omega)
  have cm1 : (nI m + 1).toNatClampNeg = m + 1 := by rw [nI_1]; exact rq_cl (by omega)
  have mi : vp_in (nI m) 10 := vp_in_nI (by omega) (by omega)
  refine br_f (nI_nlt (a := 3) (by omega) (by omega)) ?_
  refine nm_r (e' := nI m) (pk_sub (b := 2) (by omega)) (nm_r (e' := nI (m + 1)) (nI_1 m) ?_)
  refine br_t (nI_lt (b := 4) hp (by omega)) ⟨mi, by rw [nI_1]; exact vp_in_nI (by omega) (by omega), ?_⟩
  rw [cm, cm1]
  exact rq_xComb hp ⟨mi, nm_e h⟩
end RQX
