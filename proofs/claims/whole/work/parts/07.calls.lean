/-! the relation; the calls that give inputs and draft -/
def i_Rel (_ : Nat) (u : SX) (v : SY) : Prop :=
  ∃ (dL dH ph nd tp : Int32) (inp bK bF bS bL dK dF dS st sv sn sb vb pl kd fi se sz vl ns ov ok : Nat → Int32),
    u = (dL, dH, ph, nd, inp, bK, bF, bS, bL, dK, dF, dS, st, sv, sn, sb, vb, pl) ∧ v = (dH, tp, inp, kd, fi, se, sz, pl, vl, st, ns, ov, ok) ∧ rq_Bod bK bL kd fi se sz ∧ rq_Dra dL dH dK kd fi se sz ∧ rq_Opd bF bS dF dS fi se
theorem i_up {k : Nat} {u : SX} {v : SY} (h : i_Rel k u v) : i_Rel (k + 3) u v := h
section RQC
variable {dL dH ph nd hY tp : Int32} {inp bK bF bS bL dK dF dS st sv sn sb vb pl kd fi se sz vl ns ov ok : Nat → Int32}
theorem rq_mk {k : Nat} (hB : rq_Bod bK bL kd fi se sz) (hD : rq_Dra dL dH dK kd fi se sz) (hO : rq_Opd bF bS dF dS fi se) : i_Rel k (dL, dH, ph, nd, inp, bK, bF, bS, bL, dK, dF, dS, st, sv, sn, sb, vb, pl) (dH, tp, inp, kd, fi, se, sz, pl, vl, st, ns, ov, ok) :=
  ⟨dL, dH, ph, nd, tp, inp, bK, bF, bS, bL, dK, dF, dS, st, sv, sn, sb, vb, pl, kd, fi, se, sz, vl, ns, ov, ok, rfl, rfl, hB, hD, hO⟩
theorem rq_xIn {P : Int32 → Prop} {j : Nat} (hj : j < 6) (h : P 1) : wpX_isInput P (nI j) :=
  br_f (nI_pos (by omega)) (br_f (nI_ge (b := 6) hj (by omega)) h)
theorem rq_yIn {P : Int32 → Prop} {j : Nat} (hj : j < 6) (h : P 1) : wpY_isInput P (hY, tp, inp, kd, fi, se, sz, pl, vl, st, ns, ov, ok) (nI j) := by
  unfold wpY_isInput
  exact br_f (nI_pos (by omega)) (br_f (nI_nlt (a := 5) (by omega) (by omega)) h)
theorem rq_xQu {P : Int32 → Prop} {j : Nat} (hj : j < 8) (h : P 1) : wpX_isQuery P (nI j) :=
  br_f (nI_pos (by omega)) (br_f (nI_ge (b := 8) hj (by omega)) h)
theorem rq_yQu {P : Int32 → Prop} {j : Nat} (hj : j < 8) (h : P 1) : wpY_isQuery P (hY, tp, inp, kd, fi, se, sz, pl, vl, st, ns, ov, ok) (nI j) := by
  unfold wpY_isQuery
  exact br_f (nI_pos (by omega)) (br_f (nI_nlt (a := 7) (by omega) (by omega)) h)
theorem rq_inC (x : Int32) : (∃ j, j < 6 ∧ x = nI j) ∨ ((∀ P : Int32 → Prop, P 0 → wpX_isInput P x) ∧ (∀ (P : Int32 → Prop) (v : SY), P 0 → wpY_isInput P v x)) := by
  by_cases c : x < 0
  · refine Or.inr ⟨fun P h => br_t c h, fun P v h => ?_⟩
    obtain ⟨hY, tp, inp, kd, fi, se, sz, pl, vl, st, ns, ov, ok⟩ := v
    exact br_t c h
  · obtain ⟨j, hj, rfl⟩ := nI_of c
    by_cases c6 : j < 6
    · exact Or.inl ⟨j, c6, rfl⟩
    · refine Or.inr ⟨fun P h => br_f c (br_t (nI_le (a := 6) (by omega) hj) h), fun P v h => ?_⟩
      obtain ⟨hY, tp, inp, kd, fi, se, sz, pl, vl, st, ns, ov, ok⟩ := v
      exact br_f c (br_t (nI_lt (a := 5) (by omega) hj) h)
theorem rq_quC (x : Int32) : (∃ j, j < 8 ∧ x = nI j) ∨ ((∀ P : Int32 → Prop, P 0 → wpX_isQuery P x) ∧ (∀ (P : Int32 → Prop) (v : SY), P 0 → wpY_isQuery P v x)) := by
  by_cases c : x < 0
  · refine Or.inr ⟨fun P h => br_t c h, fun P v h => ?_⟩
    obtain ⟨hY, tp, inp, kd, fi, se, sz, pl, vl, st, ns, ov, ok⟩ := v
    exact br_t c h
  · obtain ⟨j, hj, rfl⟩ := nI_of c
    by_cases c6 : j < 8
    · exact Or.inl ⟨j, c6, rfl⟩
    · refine Or.inr ⟨fun P h => br_f c (br_t (nI_le (a := 8) (by omega) hj) h), fun P v h => ?_⟩
      obtain ⟨hY, tp, inp, kd, fi, se, sz, pl, vl, st, ns, ov, ok⟩ := v
      exact br_f c (br_t (nI_lt (a := 7) (by omega) hj) h)
theorem rq_xApp {post : Int32 → SX → Prop} {n t g : Nat} {a f s : Int32} (hn : n < 10) (hg : g ≤ 10) (ht : ∀ P : Int32 → Prop, P (nI t) → wpX_takenBy P a) (hle : t ≤ g) (h : post (nI (g + 1 - t)) (nI (n + 1), nI (g + 1 - t), ph, nd, inp, bK, bF, bS, bL, upd dK n a, upd dF n f, upd dS n s, st, sv, sn, sb, vb, pl)) : wpX_append post (nI n, nI g, ph, nd, inp, bK, bF, bS, bL, dK, dF, dS, st, sv, sn, sb, vb, pl) a f s := by
  unfold wpX_append
  have cn : (nI n).toNatClampNeg = n := rq_cl (by omega)
  have ni : vp_in (nI n) 10 := vp_in_nI hn (by omega)
  have e : nI g + (1 - nI t) = nI (g + 1 - t) := by
    rw [← pk_sub (by omega), ← nI_1, Int32.sub_eq_add_neg, Int32.sub_eq_add_neg, Int32.add_assoc]
  refine br_t (nI_lt (b := 10) hn (by omega)) (ht _ (br_t (nI_le hle (by omega)) ?_))
  refine And.intro ni (nm_r (e' := upd dK n a) (by rw [cn]) (And.intro ni (nm_r (e' := upd dF n f) (by rw [cn]) (And.intro ni (nm_r (e' := upd dS n s) (by rw [cn]) ?_)))))
  exact nm_r (e' := nI (n + 1)) (nI_1 n) (nm_r e h)
theorem rq_xAppB {post : Int32 → SX → Prop} {n t g : Nat} {a f s : Int32} (hn : n < 10) (ht2 : t ≤ 10) (ht : ∀ P : Int32 → Prop, P (nI t) → wpX_takenBy P a) (hlt : g < t) (h : post (-3) (nI n, nI g, ph, nd, inp, bK, bF, bS, bL, dK, dF, dS, st, sv, sn, sb, vb, pl)) : wpX_append post (nI n, nI g, ph, nd, inp, bK, bF, bS, bL, dK, dF, dS, st, sv, sn, sb, vb, pl) a f s := by
  unfold wpX_append
  exact br_t (nI_lt (b := 10) hn (by omega)) (ht _ (br_f (nI_ge hlt (by omega)) h))
theorem rq_xAppF {post : Int32 → SX → Prop} {a f s : Int32} (h : post (-2) (nI 10, dH, ph, nd, inp, bK, bF, bS, bL, dK, dF, dS, st, sv, sn, sb, vb, pl)) : wpX_append post (nI 10, dH, ph, nd, inp, bK, bF, bS, bL, dK, dF, dS, st, sv, sn, sb, vb, pl) a f s := by
  unfold wpX_append
  exact br_f (by decide) h
theorem rq_yApp {post : Int32 → SY → Prop} {n : Nat} {b f s w g : Int32} (hn : n < 10) (hz : sz 8 = nI n) (hw : hY + w = g) (h : post g (g, tp, inp, upd kd (80 + n) b, upd fi (80 + n) f, upd se (80 + n) s, upd sz 8 (nI (n + 1)), pl, vl, st, ns, ov, ok)) : wpY_append post (hY, tp, inp, kd, fi, se, sz, pl, vl, st, ns, ov, ok) b f s w := by
  unfold wpY_append
  have cn : (nI (80 + n)).toNatClampNeg = 80 + n := rq_cl (by omega)
  have ni : vp_in (nI (80 + n)) 90 := vp_in_nI (by omega) (by omega)
  refine nm_r (e' := nI (80 + n)) (by rw [hz]; exact nI_add 80 n) ?_
  refine And.intro ni (nm_r (e' := upd kd (80 + n) b) (by rw [cn]) (And.intro ni (nm_r (e' := upd fi (80 + n) f) (by rw [cn]) (And.intro ni (nm_r (e' := upd se (80 + n) s) (by rw [cn]) ?_)))))
  exact nm_r (e' := upd sz 8 (nI (n + 1))) (by rw [hz, nI_1]) (nm_r hw h)
/-- a token of kind a, in the reference b, that takes t numbers off: full; too low a pile; or appended on both sides -/
theorem rq_appAll {k t : Nat} {a b f s w : Int32} (ht2 : t ≤ 10) (ht : ∀ P : Int32 → Prop, P (nI t) → wpX_takenBy P a)
    (hT : ∀ g, t ≤ g → rq_T a b f s g (g + 1 - t)) (hw : ∀ g, t ≤ g → nI g + w = nI (g + 1 - t))
    (hB : rq_Bod bK bL kd fi se sz) (hD : rq_Dra dL dH dK kd fi se sz) (hO : rq_Opd bF bS dF dS fi se) :
    (sz 8 = 10 ∧ (∀ P : Int32 → SX → Prop, P (-2) (dL, dH, ph, nd, inp, bK, bF, bS, bL, dK, dF, dS, st, sv, sn, sb, vb, pl) → wpX_append P (dL, dH, ph, nd, inp, bK, bF, bS, bL, dK, dF, dS, st, sv, sn, sb, vb, pl) a f s)) ∨
    (¬ sz 8 = 10 ∧ ∃ g, dH = nI g ∧ g ≤ 10 ∧ g < t ∧ (∀ P : Int32 → SX → Prop, P (-3) (dL, dH, ph, nd, inp, bK, bF, bS, bL, dK, dF, dS, st, sv, sn, sb, vb, pl) → wpX_append P (dL, dH, ph, nd, inp, bK, bF, bS, bL, dK, dF, dS, st, sv, sn, sb, vb, pl) a f s)) ∨
    (¬ sz 8 = 10 ∧ ∃ g, dH = nI g ∧ g ≤ 10 ∧ t ≤ g ∧ ∃ (r : Int32) (u' : SX) (v' : SY), i_Rel k u' v' ∧
      (∀ P : Int32 → SX → Prop, P r u' → wpX_append P (dL, dH, ph, nd, inp, bK, bF, bS, bL, dK, dF, dS, st, sv, sn, sb, vb, pl) a f s) ∧ (∀ P : Int32 → SY → Prop, P r v' → wpY_append P (dH, tp, inp, kd, fi, se, sz, pl, vl, st, ns, ov, ok) b f s w)) := by
  obtain ⟨n, h, hn, rfl, hz, rfl, H⟩ := hD
  have hle := rq_B_le H n (Nat.le_refl n)
  by_cases c : n = 10
  · subst c
    exact Or.inl ⟨hz, fun P hP => rq_xAppF hP⟩
  · have hn' : n < 10 := by omega
    have z : ¬ sz 8 = 10 := by
      rw [hz]
      exact fun y => c ((nI_eq (a := n) (b := 10) (by omega) (by omega)).mp y)
    by_cases c2 : h n < t
    · exact Or.inr (Or.inl ⟨z, h n, rfl, by omega, c2, fun P hP => rq_xAppB hn' ht2 ht c2 hP⟩)
    · have c3 : t ≤ h n := by omega
      obtain ⟨hB', hD', hO'⟩ := rq_app hn' hB hO H (hT (h n) c3)
      exact Or.inr (Or.inr ⟨z, h n, rfl, by omega, c3, nI (h n + 1 - t), _, _, rq_mk (ph := ph) (nd := nd) (tp := tp) (inp := inp) (st := st) (sv := sv) (sn := sn) (sb := sb) (vb := vb) (pl := pl) (vl := vl) (ns := ns) (ov := ov) (ok := ok) hB' hD' hO', fun P hP => rq_xApp hn' (by omega) ht c3 hP, fun P hP => rq_yApp hn' hz (hw (h n) c3) hP⟩)
end RQC
theorem rq_tk0a (P : Int32 → Prop) (h : P (nI 0)) : wpX_takenBy P 4 := br_t (by decide) (br_f (by decide) h)
theorem rq_tk0b (P : Int32 → Prop) (h : P (nI 0)) : wpX_takenBy P 5 := br_t (by decide) (br_f (by decide) h)
theorem rq_tk0c (P : Int32 → Prop) (h : P (nI 0)) : wpX_takenBy P 6 := br_t (by decide) (br_f (by decide) h)
theorem rq_tk1 (P : Int32 → Prop) (h : P (nI 1)) : wpX_takenBy P 7 := br_t (by decide) (br_t rfl h)
theorem rq_tk2 {p : Nat} (hp : p < 4) (P : Int32 → Prop) (h : P (nI 2)) : wpX_takenBy P (nI p) := br_f (nI_nlt (a := 3) (by omega) (by omega)) h
theorem rq_w1 (g : Nat) (_ : 0 ≤ g) : nI g + 1 = nI (g + 1 - 0) := nI_1 g
theorem rq_w0 (g : Nat) (h : 1 ≤ g) : nI g + 0 = nI (g + 1 - 1) := by rw [Int32.add_zero]; rfl
theorem rq_wm (g : Nat) (h : 2 ≤ g) : nI g + (-1) = nI (g + 1 - 2) := by
  obtain ⟨m, rfl⟩ : ∃ m, g = m + 1 := ⟨g - 1, by omega⟩
  rw [pk_m1]
  exact congrArg nI (by omega)
theorem i_vc_set {k : Nat} {u : SX} {v : SY} (I : i_Rel k u v) (hk : k + 3 ≤ 1536) (v1 : Int32) (v2 : Int32) : wpX_set (fun r u' => wpY_set (fun r' v' => r' = r ∧ i_Rel (k + 3) u' v') v v1 v2) u v1 v2 := by
  obtain ⟨dL, dH, ph, nd, tp, inp, bK, bF, bS, bL, dK, dF, dS, st, sv, sn, sb, vb, pl, kd, fi, se, sz, vl, ns, ov, ok, rfl, rfl, hB, hD, hO⟩ := I
  unfold wpX_set
  rcases rq_inC v1 with ⟨j, hj, rfl⟩ | ⟨hX, hY⟩
  · have ji : vp_in (nI j) 6 := vp_in_nI hj (by omega)
    refine rq_xIn hj (br_f (by decide) (And.intro ji ?_))
    by_cases c : inp (nI j).toNatClampNeg = v2
    · refine br_t c ?_
      unfold wpY_set
      refine rq_yIn hj (br_f (by decide) (And.intro ji (br_t c ?_)))
      unfold wY_set_25
      exact And.intro ji (nm_r (e' := inp) (rq_us c) ⟨rfl, rq_mk hB hD hO⟩)
    · refine br_f c (And.intro ji (nm_e ?_))
      unfold wpY_set
      refine rq_yIn hj (br_f (by decide) (And.intro ji (br_f c ?_)))
      unfold wY_set_25
      exact And.intro ji (nm_e ⟨rfl, rq_mk hB hD hO⟩)
  · refine hX _ (br_t rfl ?_)
    unfold wpY_set
    exact hY _ _ (br_t rfl ⟨rfl, rq_mk hB hD hO⟩)
theorem i_vc_get {k : Nat} {u : SX} {v : SY} (I : i_Rel k u v) (hk : k + 3 ≤ 1536) (v1 : Int32) : wpX_get (fun r => wpY_get (fun r' => r' = r ∧ i_Rel (k + 3) u v) v v1) u v1 := by
  have J := I
  obtain ⟨dL, dH, ph, nd, tp, inp, bK, bF, bS, bL, dK, dF, dS, st, sv, sn, sb, vb, pl, kd, fi, se, sz, vl, ns, ov, ok, rfl, rfl, hB, hD, hO⟩ := I
  unfold wpX_get
  rcases rq_inC v1 with ⟨j, hj, rfl⟩ | ⟨hX, hY⟩
  · have ji : vp_in (nI j) 6 := vp_in_nI hj (by omega)
    refine rq_xIn hj (br_f (by decide) (And.intro ji ?_))
    unfold wpY_get
    exact rq_yIn hj (br_f (by decide) (And.intro ji ⟨rfl, J⟩))
  · refine hX _ (br_t rfl ?_)
    unfold wpY_get
    exact hY _ _ (br_t rfl ⟨rfl, J⟩)
