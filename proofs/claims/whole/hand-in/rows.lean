section
/-! rows of kit/rows, as they stand there -/
theorem pk_us {f : Nat → Int32} {k : Nat} {x : Int32} : upd f k x k = x := if_pos rfl
theorem pk_un {f : Nat → Int32} {k j : Nat} {x : Int32} (h : j ≠ k) : upd f k x j = f j := if_neg h
theorem pk_sub {a b : Nat} (h : b ≤ a) : nI a - nI b = nI (a - b) := by
  obtain ⟨c, rfl⟩ : ∃ c, a = c + b := ⟨a - b, by omega⟩
  rw [← nI_add, Int32.add_sub_cancel, Nat.add_sub_cancel]
theorem pk_m1 (n : Nat) : nI (n + 1) + (-1) = nI n := by
  rw [← nI_1, Int32.add_assoc, show (1 : Int32) + (-1) = 0 from rfl, Int32.add_zero]
theorem pk_mul (a b : Nat) : nI a * nI b = nI (a * b) := (Int32.ofNat_mul a b).symm
theorem pk_ix (x : Int32) {n : Nat} (hn : n < 2 ^ 31) : x < 0 ∨ nI n ≤ x ∨ ∃ j : Nat, j < n ∧ x = nI j := by
  by_cases h : x < 0
  · exact Or.inl h
  · obtain ⟨j, hj, rfl⟩ := nI_of h
    by_cases h2 : j < n
    · exact Or.inr (Or.inr ⟨j, h2, rfl⟩)
    · exact Or.inr (Or.inl (nI_le (by omega) hj))
theorem pk_le {x y : Int32} {A B : Prop} (a b : Nat) (f : a ≤ b → A) (g : b < a → B) (hx : x = nI a := by rfl) (hy : y = nI b := by rfl) (ha : a < 2 ^ 31 := by omega) (hb : b < 2 ^ 31 := by omega) : (x ≤ y → A) ∧ (¬ x ≤ y → B) := by
  subst hx hy
  rw [nI_leI ha hb]
  exact ⟨f, fun z => g (by omega)⟩
theorem pk_lt {x y : Int32} {A B : Prop} (a b : Nat) (f : a < b → A) (g : b ≤ a → B) (hx : x = nI a := by rfl) (hy : y = nI b := by rfl) (ha : a < 2 ^ 31 := by omega) (hb : b < 2 ^ 31 := by omega) : (x < y → A) ∧ (¬ x < y → B) := by
  subst hx hy
  rw [nI_ltI ha hb]
  exact ⟨f, fun z => g (by omega)⟩
theorem pk_eq {x y : Int32} {A B : Prop} (a b : Nat) (f : a = b → A) (g : a ≠ b → B) (hx : x = nI a := by rfl) (hy : y = nI b := by rfl) (ha : a < 2 ^ 31 := by omega) (hb : b < 2 ^ 31 := by omega) : (x = y → A) ∧ (¬ x = y → B) := by
  subst hx hy
  rw [nI_eq ha hb]
  exact ⟨f, g⟩
theorem pk_in {x : Int32} (n N : Nat) (h : n < N) (hx : x = nI n := by rfl) (hN : N < 2 ^ 31 := by omega) : vp_in x N := by
  subst hx
  exact vp_in_nI h hN
theorem pk_cl {x : Int32} (n : Nat) (hx : x = nI n := by rfl) (h : n < 2 ^ 31 := by omega) : x.toNatClampNeg = n := by
  subst hx
  exact nI_clamp h
/-! own rows: tokens, bodies, numbers -/
theorem rq_c10 : (10 : Int32) = nI 10 := rfl
theorem rq_b0 : vp_nar .boolean 0 = 0 := by decide
theorem rq_b1 : vp_nar .boolean 1 = 1 := by decide
theorem rq_nb {z : Int32} (h : z = 0 ∨ z = 1) : narrow .boolean (.int z) = .int z := by
  rcases h with rfl | rfl <;> rfl
theorem rq_us {f : Nat → Int32} {k : Nat} {x : Int32} (h : f k = x) : upd f k x = f := by
  funext j
  by_cases e : j = k
  · subst e; rw [pk_us, h]
  · rw [pk_un e]
theorem rq_mulR (q : Nat) : nI q * 10 = nI (10 * q) := by
  rw [rq_c10, pk_mul, Nat.mul_comm]
theorem rq_mulL (q : Nat) : 10 * nI q = nI (10 * q) := by
  rw [rq_c10, pk_mul]
/-- an index out of n is refused, or it is a natural below n -/
theorem rq_in {x : Int32} {n : Nat} (hn : n < 2 ^ 31) (h0 : ¬ x < 0) (h : x < nI n) : ∃ j : Nat, j < n ∧ x = nI j := by
  obtain ⟨j, hj, rfl⟩ := nI_of h0
  exact ⟨j, (nI_ltI hj hn).mp h, rfl⟩
/-- one token: the class's kind a, the reference's kind b, the operands f and s, the pile's height i ahead of it and o behind it -/
def rq_T (a b f s : Int32) (i o : Nat) : Prop :=
  (a = 4 ∧ b = 0 ∧ o = i + 1) ∨
  (a = 5 ∧ b = 1 ∧ (∃ j, j < 6 ∧ f = nI j) ∧ o = i + 1) ∨
  (a = 6 ∧ b = 2 ∧ (∃ j, j < 8 ∧ f = nI j) ∧ o = i + 1) ∨
  (a = 7 ∧ b = 3 ∧ (∃ j, j < 8 ∧ f = nI j) ∧ (∃ j, j < 8 ∧ s = nI j) ∧ 1 ≤ i ∧ o = i) ∨
  (∃ p, p < 4 ∧ a = nI p ∧ b = nI (4 + p) ∧ 2 ≤ i ∧ o + 1 = i)
theorem rq_T_le {a b f s : Int32} {i o : Nat} (h : rq_T a b f s i o) : o ≤ i + 1 := by
  rcases h with h | h | h | h | ⟨p, h⟩
  · omega
  · obtain ⟨-, -, -, h⟩ := h; omega
  · obtain ⟨-, -, -, h⟩ := h; omega
  · obtain ⟨-, -, -, -, -, h⟩ := h; omega
  · obtain ⟨-, -, -, -, h⟩ := h; omega
/-- n tokens one behind another; h t: the pile's height ahead of token t -/
def rq_B (A B F S : Nat → Int32) (n : Nat) (h : Nat → Nat) : Prop :=
  h 0 = 0 ∧ ∀ t, t < n → rq_T (A t) (B t) (F t) (S t) (h t) (h (t + 1))
theorem rq_B_le {A B F S : Nat → Int32} {n : Nat} {h : Nat → Nat} (H : rq_B A B F S n h) : ∀ t, t ≤ n → h t ≤ t := by
  intro t
  induction t with
  | zero => intro _; have := H.1; omega
  | succ t ih =>
    intro ht
    have h1 := ih (by omega)
    have h2 := rq_T_le (H.2 t (by omega))
    omega
theorem rq_B_eq {A B F S A' B' F' S' : Nat → Int32} {n : Nat} {h : Nat → Nat} (H : rq_B A B F S n h) (e : ∀ t, t < n → A' t = A t ∧ B' t = B t ∧ F' t = F t ∧ S' t = S t) : rq_B A' B' F' S' n h := by
  refine ⟨H.1, fun t ht => ?_⟩
  obtain ⟨e1, e2, e3, e4⟩ := e t ht
  rw [e1, e2, e3, e4]
  exact H.2 t ht
/-- one token more -/
theorem rq_B_snoc {A B F S : Nat → Int32} {n o : Nat} {h : Nat → Nat} {a b f s : Int32} (H : rq_B A B F S n h) (hT : rq_T a b f s (h n) o) (eA : A n = a) (eB : B n = b) (eF : F n = f) (eS : S n = s) : rq_B A B F S (n + 1) (fun t => if t ≤ n then h t else o) := by
  refine ⟨by simp [H.1], fun t ht => ?_⟩
  by_cases e : t = n
  · subst e
    have h1 : (if t ≤ t then h t else o) = h t := if_pos (Nat.le_refl t)
    have h2 : (if t + 1 ≤ t then h (t + 1) else o) = o := if_neg (by omega)
    show rq_T (A t) (B t) (F t) (S t) (if t ≤ t then h t else o) (if t + 1 ≤ t then h (t + 1) else o)
    rw [h1, h2, eA, eB, eF, eS]
    exact hT
  · have h1 : (if t ≤ n then h t else o) = h t := if_pos (by omega)
    have h2 : (if t + 1 ≤ n then h (t + 1) else o) = h (t + 1) := if_pos (by omega)
    show rq_T (A t) (B t) (F t) (S t) (if t ≤ n then h t else o) (if t + 1 ≤ n then h (t + 1) else o)
    rw [h1, h2]
    exact H.2 t (by omega)
/-- the bodies of the eight queries -/
def rq_Bod (bK bL kd fi se sz : Nat → Int32) : Prop :=
  ∀ q, q < 8 → ∃ (n : Nat) (h : Nat → Nat), 1 ≤ n ∧ n ≤ 10 ∧ bL q = nI n ∧ sz q = nI n ∧ h n = 1 ∧
    rq_B (fun t => bK (10 * q + t)) (fun t => kd (10 * q + t)) (fun t => fi (10 * q + t)) (fun t => se (10 * q + t)) n h
/-- the draft: n tokens, height h n -/
def rq_Dra (dL dH : Int32) (dK kd fi se sz : Nat → Int32) : Prop :=
  ∃ (n : Nat) (h : Nat → Nat), n ≤ 10 ∧ dL = nI n ∧ sz 8 = nI n ∧ dH = nI (h n) ∧
    rq_B dK (fun t => kd (80 + t)) (fun t => fi (80 + t)) (fun t => se (80 + t)) n h
/-- the operands of both sides -/
def rq_Opd (bF bS dF dS fi se : Nat → Int32) : Prop :=
  (∀ j, j < 80 → bF j = fi j ∧ bS j = se j) ∧ (∀ i, i < 10 → dF i = fi (80 + i) ∧ dS i = se (80 + i))
/-- what both sides have worked out, where it is known -/
def rq_V (st sv sn vl ns : Nat → Int32) : Prop := ∀ k, k < 8 → ¬ st k = 0 → sv k = vl k ∧ sn k = ns k
theorem rq_bits : ∀ q, q < 8 → ∀ m, m < 2 ^ q → nI m ||| ((1 : Int32) <<< (nI q &&& 31)) = nI (m + 2 ^ q) ∧ nI m + ((1 : Int32) <<< (nI q &&& 31)) = nI (m + 2 ^ q) := by
  decide +kernel
end
section
/-! what append, finish and scrap make of the state: pure -/
theorem rq_Bod_sz {bK bL kd fi se sz : Nat → Int32} {x : Int32} (h : rq_Bod bK bL kd fi se sz) : rq_Bod bK bL kd fi se (upd sz 8 x) := by
  intro q hq
  obtain ⟨n, g, h1, h2, h3, h4, h5, h6⟩ := h q hq
  exact ⟨n, g, h1, h2, h3, by rw [pk_un (by omega)]; exact h4, h5, h6⟩
theorem rq_Bod_hi {bK bL kd fi se sz : Nat → Int32} {n : Nat} {b f s : Int32} (h : rq_Bod bK bL kd fi se sz) : rq_Bod bK bL (upd kd (80 + n) b) (upd fi (80 + n) f) (upd se (80 + n) s) sz := by
  intro q hq
  obtain ⟨m, g, h1, h2, h3, h4, h5, h6⟩ := h q hq
  refine ⟨m, g, h1, h2, h3, h4, h5, rq_B_eq h6 fun t ht => ?_⟩
  have e : 10 * q + t ≠ 80 + n := by omega
  exact ⟨rfl, pk_un e, pk_un e, pk_un e⟩
theorem rq_Dra_0 {dK kd fi se sz : Nat → Int32} : rq_Dra (nI 0) (nI 0) dK kd fi se (upd sz 8 (nI 0)) :=
  ⟨0, fun _ => 0, by omega, rfl, pk_us, rfl, rfl, fun t ht => absurd ht (Nat.not_lt_zero t)⟩
/-- one token appended -/
theorem rq_app {bK bF bS bL dK dF dS kd fi se sz : Nat → Int32} {n o : Nat} {h : Nat → Nat} {a b f s : Int32} (hn : n < 10)
    (hB : rq_Bod bK bL kd fi se sz) (hO : rq_Opd bF bS dF dS fi se)
    (H : rq_B dK (fun t => kd (80 + t)) (fun t => fi (80 + t)) (fun t => se (80 + t)) n h) (hT : rq_T a b f s (h n) o) :
    rq_Bod bK bL (upd kd (80 + n) b) (upd fi (80 + n) f) (upd se (80 + n) s) (upd sz 8 (nI (n + 1))) ∧
    rq_Dra (nI (n + 1)) (nI o) (upd dK n a) (upd kd (80 + n) b) (upd fi (80 + n) f) (upd se (80 + n) s) (upd sz 8 (nI (n + 1))) ∧
    rq_Opd bF bS (upd dF n f) (upd dS n s) (upd fi (80 + n) f) (upd se (80 + n) s) := by
  refine ⟨rq_Bod_sz (rq_Bod_hi hB), ⟨n + 1, fun t => if t ≤ n then h t else o, by omega, rfl, pk_us, ?_, ?_⟩, ?_, ?_⟩
  · have e : (if n + 1 ≤ n then h (n + 1) else o) = o := if_neg (by omega)
    show nI o = nI (if n + 1 ≤ n then h (n + 1) else o)
    rw [e]
  · refine rq_B_snoc (rq_B_eq H fun t ht => ?_) hT pk_us pk_us pk_us pk_us
    have e : 80 + t ≠ 80 + n := by omega
    exact ⟨pk_un (by omega), pk_un e, pk_un e, pk_un e⟩
  · intro j hj
    have e : j ≠ 80 + n := by omega
    rw [pk_un e, pk_un e]
    exact hO.1 j hj
  · intro i hi
    by_cases e : i = n
    · subst e
      rw [pk_us, pk_us, pk_us, pk_us]
      exact ⟨rfl, rfl⟩
    · have e2 : 80 + i ≠ 80 + n := by omega
      rw [pk_un e, pk_un e, pk_un e2, pk_un e2]
      exact hO.2 i hi
/-- n cells of s laid into a from o on -/
def rq_cp (a s : Nat → Int32) (o n : Nat) : Nat → Int32 := fun j => if o ≤ j ∧ j < o + n then s (j - o) else a j
theorem rq_cp_0 (a s : Nat → Int32) (o : Nat) : rq_cp a s o 0 = a := by
  funext j
  exact if_neg (by omega)
theorem rq_cp_in {a s : Nat → Int32} {o n t : Nat} (h : t < n) : rq_cp a s o n (o + t) = s t := by
  have e : rq_cp a s o n (o + t) = s (o + t - o) := if_pos ⟨by omega, by omega⟩
  rw [e, Nat.add_sub_cancel_left]
theorem rq_cp_out {a s : Nat → Int32} {o n j : Nat} (h : j < o ∨ o + n ≤ j) : rq_cp a s o n j = a j :=
  if_neg (by omega)
theorem rq_cp_s {a s : Nat → Int32} {o i : Nat} : upd (rq_cp a s o i) (o + i) (s i) = rq_cp a s o (i + 1) := by
  funext j
  by_cases e : j = o + i
  · subst e
    rw [pk_us, rq_cp_in (by omega)]
  · rw [pk_un e]
    by_cases c : o ≤ j ∧ j < o + i
    · have e1 : rq_cp a s o i j = s (j - o) := if_pos c
      have e2 : rq_cp a s o (i + 1) j = s (j - o) := if_pos ⟨c.1, by omega⟩
      rw [e1, e2]
    · have e1 : rq_cp a s o i j = a j := if_neg c
      have e2 : rq_cp a s o (i + 1) j = a j := if_neg (by omega)
      rw [e1, e2]
/-- the draft laid down as the body of q -/
theorem rq_fin {bK bF bS bL dK dF dS kd fi se sz : Nat → Int32} {n q : Nat} {h : Nat → Nat} (hq : q < 8) (hn : n ≤ 10) (h1 : h n = 1)
    (hB : rq_Bod bK bL kd fi se sz) (hO : rq_Opd bF bS dF dS fi se)
    (H : rq_B dK (fun t => kd (80 + t)) (fun t => fi (80 + t)) (fun t => se (80 + t)) n h) :
    rq_Bod (rq_cp bK dK (10 * q) n) (upd bL q (nI n)) (rq_cp kd (fun t => kd (80 + t)) (10 * q) n) (rq_cp fi (fun t => fi (80 + t)) (10 * q) n) (rq_cp se (fun t => se (80 + t)) (10 * q) n) (upd (upd sz q (nI n)) 8 (nI 0)) ∧
    rq_Dra (nI 0) (nI 0) dK (rq_cp kd (fun t => kd (80 + t)) (10 * q) n) (rq_cp fi (fun t => fi (80 + t)) (10 * q) n) (rq_cp se (fun t => se (80 + t)) (10 * q) n) (upd (upd sz q (nI n)) 8 (nI 0)) ∧
    rq_Opd (rq_cp bF dF (10 * q) n) (rq_cp bS dS (10 * q) n) dF dS (rq_cp fi (fun t => fi (80 + t)) (10 * q) n) (rq_cp se (fun t => se (80 + t)) (10 * q) n) := by
  have n0 : 1 ≤ n := by
    rcases Nat.eq_zero_or_pos n with e | e
    · subst e; have := H.1; omega
    · exact e
  refine ⟨rq_Bod_sz fun p hp => ?_, rq_Dra_0, fun j hj => ?_, fun i hi => ?_⟩
  · by_cases e : p = q
    · subst e
      refine ⟨n, h, n0, hn, pk_us, pk_us, h1, rq_B_eq H fun t ht => ?_⟩
      exact ⟨rq_cp_in ht, rq_cp_in ht, rq_cp_in ht, rq_cp_in ht⟩
    · obtain ⟨m, g, g1, g2, g3, g4, g5, g6⟩ := hB p hp
      refine ⟨m, g, g1, g2, by rw [pk_un e]; exact g3, by rw [pk_un e]; exact g4, g5, rq_B_eq g6 fun t ht => ?_⟩
      have c : 10 * p + t < 10 * q ∨ 10 * q + n ≤ 10 * p + t := by omega
      exact ⟨rq_cp_out c, rq_cp_out c, rq_cp_out c, rq_cp_out c⟩
  · by_cases c : 10 * q ≤ j ∧ j < 10 * q + n
    · obtain ⟨t, rfl⟩ : ∃ t, j = 10 * q + t := ⟨j - 10 * q, by omega⟩
      have ht : t < n := by omega
      rw [rq_cp_in ht, rq_cp_in ht, rq_cp_in ht, rq_cp_in ht]
      exact hO.2 t (by omega)
    · have c' : j < 10 * q ∨ 10 * q + n ≤ j := by omega
      rw [rq_cp_out c', rq_cp_out c', rq_cp_out c', rq_cp_out c']
      exact hO.1 j hj
  · have c : 80 + i < 10 * q ∨ 10 * q + n ≤ 80 + i := by omega
    rw [rq_cp_out c, rq_cp_out c]
    exact hO.2 i hi
end
section
/-! the class: one token worked off -/
section RQX
variable {post : Int32 → SX → Prop} {dL dH ph nd : Int32} {inp bK bF bS bL dK dF dS st sv sn sb vb pl : Nat → Int32}
theorem rq_cl {n : Nat} (h : n < 1000) : (nI n).toNatClampNeg = n := nI_clamp (by omega)
theorem rq_xPut0 {x : Int32} {k : Nat} (hk : k < 8) (hs : st k = 0) (h : post 0 (dL, dH, ph, nd, inp, bK, bF, bS, bL, dK, dF, dS, st, sv, sn, sb, vb, pl)) : wpX_putQuery post (dL, dH, ph, nd, inp, bK, bF, bS, bL, dK, dF, dS, st, sv, sn, sb, vb, pl) x (nI k) := by
  unfold wpX_putQuery
  have ck : (nI k).toNatClampNeg = k := rq_cl (by omega)
  have e : st (nI k).toNatClampNeg = 0 := by rw [ck]; exact hs
  exact ⟨vp_in_nI hk (by omega), br_t e h⟩
theorem rq_xPut1 {i k : Nat} (hi : i ≤ 9) (hk : k < 8) (hs : ¬ st k = 0) (h : post 1 (dL, dH, ph, nd ||| (sn k ||| ((1 : Int32) <<< ((6 + nI k) &&& 31))), inp, bK, bF, bS, bL, dK, dF, dS, st, sv, sn, sb, vb, upd pl i (sv k))) : wpX_putQuery post (dL, dH, ph, nd, inp, bK, bF, bS, bL, dK, dF, dS, st, sv, sn, sb, vb, pl) (nI i) (nI k) := by
  unfold wpX_putQuery
  have ck : (nI k).toNatClampNeg = k := rq_cl (by omega)
  have ci : (nI i).toNatClampNeg = i := rq_cl (by omega)
  have e : ¬ st (nI k).toNatClampNeg = 0 := by rw [ck]; exact hs
  have ki := vp_in_nI hk (show 8 < 2 ^ 31 by omega)
  exact ⟨ki, br_f e ⟨ki, vp_in_nI (by omega) (by omega), nm_r (e' := upd pl i (sv k)) (by rw [ck, ci]) ⟨ki, nm_r (e' := nd ||| (sn k ||| ((1 : Int32) <<< ((6 + nI k) &&& 31)))) (by rw [ck]) h⟩⟩⟩
/-- what an op makes of two numbers -/
def rq_op (p : Nat) (x y : Int32) : Int32 := if p = 0 then x + y else if p = 1 then x - y else if p = 2 then x * y else if y ≤ x then 0 else 1
theorem rq_xComb {P : Int32 → Prop} {p : Nat} {x y : Int32} (hp : p < 4) (h : P (rq_op p x y)) : wpX_combine P (nI p) x y := by
  match p, hp with
  | 0, _ => exact br_f (by decide) (br_f (by decide) (br_t rfl h))
  | 1, _ => exact br_f (by decide) (br_f (by decide) (br_f (by decide) (br_t rfl h)))
  | 2, _ => exact br_f (by decide) (br_f (by decide) (br_f (by decide) (br_f (by decide) (br_t rfl h))))
  | 3, _ =>
    refine br_f (by decide) (br_t (by decide) ?_)
    by_cases c : y ≤ x
    · have e : rq_op 3 x y = 0 := by
        show (if y ≤ x then (0 : Int32) else 1) = 0
        exact if_pos c
      rw [e] at h
      exact br_t c h
    · have e : rq_op 3 x y = 1 := by
        show (if y ≤ x then (0 : Int32) else 1) = 1
        exact if_neg c
      rw [e] at h
      exact br_f c h
theorem rq_xNum {i : Nat} {f s : Int32} (hi : i ≤ 9) (h : post 1 (dL, dH, nI (i + 1), nd, inp, bK, bF, bS, bL, dK, dF, dS, st, sv, sn, sb, vb, upd pl i f)) : wpX_workOff post (dL, dH, nI i, nd, inp, bK, bF, bS, bL, dK, dF, dS, st, sv, sn, sb, vb, pl) 4 f s := by
  unfold wpX_workOff
  have ci : (nI i).toNatClampNeg = i := rq_cl (by omega)
  refine br_t (by decide) (br_f (by decide) ?_)
  refine nm_r (e' := nI i) (Int32.sub_zero _) (nm_r (e' := nI (i + 1)) (nI_1 i) ?_)
  refine br_f (by decide) (br_f (by decide) (br_t rfl ⟨vp_in_nI (by omega) (by omega), ?_⟩))
  exact nm_r (e' := upd pl i f) (by rw [ci]) h
theorem rq_xInp {i j : Nat} {s : Int32} (hi : i ≤ 9) (hj : j < 6) (h : post 1 (dL, dH, nI (i + 1), nd ||| ((1 : Int32) <<< (nI j &&& 31)), inp, bK, bF, bS, bL, dK, dF, dS, st, sv, sn, sb, vb, upd pl i (inp j))) : wpX_workOff post (dL, dH, nI i, nd, inp, bK, bF, bS, bL, dK, dF, dS, st, sv, sn, sb, vb, pl) 5 (nI j) s := by
  unfold wpX_workOff
  have ci : (nI i).toNatClampNeg = i := rq_cl (by omega)
  have cj : (nI j).toNatClampNeg = j := rq_cl (by omega)
  refine br_t (by decide) (br_f (by decide) ?_)
  refine nm_r (e' := nI i) (Int32.sub_zero _) (nm_r (e' := nI (i + 1)) (nI_1 i) ?_)
  refine br_f (by decide) (br_f (by decide) (br_f (by decide) (br_t rfl ⟨vp_in_nI hj (by omega), vp_in_nI (by omega) (by omega), ?_⟩)))
  exact nm_r (e' := upd pl i (inp j)) (by rw [ci, cj]) (nm_e h)
theorem rq_xQry1 {i k : Nat} {s : Int32} (hi : i ≤ 9) (hk : k < 8) (hs : ¬ st k = 0) (h : post 1 (dL, dH, nI (i + 1), nd ||| (sn k ||| ((1 : Int32) <<< ((6 + nI k) &&& 31))), inp, bK, bF, bS, bL, dK, dF, dS, st, sv, sn, sb, vb, upd pl i (sv k))) : wpX_workOff post (dL, dH, nI i, nd, inp, bK, bF, bS, bL, dK, dF, dS, st, sv, sn, sb, vb, pl) 6 (nI k) s := by
  unfold wpX_workOff
  refine br_t (by decide) (br_f (by decide) ?_)
  refine nm_r (e' := nI i) (Int32.sub_zero _) (nm_r (e' := nI (i + 1)) (nI_1 i) ?_)
  refine br_f (by decide) (br_f (by decide) (br_f (by decide) (br_f (by decide) (br_t rfl ?_))))
  exact rq_xPut1 hi hk hs ⟨rfl, h⟩
theorem rq_xQry0 {i k : Nat} {s : Int32} (hi : i ≤ 9) (hk : k < 8) (hs : st k = 0) (h : post 0 (dL, dH, nI (i + 1), nd, inp, bK, bF, bS, bL, dK, dF, dS, st, sv, sn, sb, vb, pl)) : wpX_workOff post (dL, dH, nI i, nd, inp, bK, bF, bS, bL, dK, dF, dS, st, sv, sn, sb, vb, pl) 6 (nI k) s := by
  unfold wpX_workOff
  refine br_t (by decide) (br_f (by decide) ?_)
  refine nm_r (e' := nI i) (Int32.sub_zero _) (nm_r (e' := nI (i + 1)) (nI_1 i) ?_)
  refine br_f (by decide) (br_f (by decide) (br_f (by decide) (br_f (by decide) (br_t rfl ?_))))
  exact rq_xPut0 hk hs ⟨rfl, h⟩
theorem rq_xCho1 {m k : Nat} {f s : Int32} (hm : m ≤ 9) (hk : k < 8) (c1 : pl m = 0 → s = nI k) (c2 : ¬ pl m = 0 → f = nI k) (hs : ¬ st k = 0) (h : post 1 (dL, dH, nI (m + 1), nd ||| (sn k ||| ((1 : Int32) <<< ((6 + nI k) &&& 31))), inp, bK, bF, bS, bL, dK, dF, dS, st, sv, sn, sb, vb, upd pl m (sv k))) : wpX_workOff post (dL, dH, nI (m + 1), nd, inp, bK, bF, bS, bL, dK, dF, dS, st, sv, sn, sb, vb, pl) 7 f s := by
  unfold wpX_workOff
  have cm : (nI m).toNatClampNeg = m := rq_cl (by omega)
  refine br_t (by decide) (br_t rfl ?_)
  refine nm_r (e' := nI m) (nI_pred m) (nm_r (e' := nI (m + 1)) (nI_1 m) ?_)
  refine br_f (by decide) (br_f (by decide) (br_f (by decide) (br_f (by decide) (br_f (by decide) (br_t rfl ⟨vp_in_nI (by omega) (by omega), ?_⟩)))))
  rw [cm]
  refine br_c (fun z => ?_) (fun z => ?_)
  · rw [c1 z]
    unfold wX_workOff_115
    exact rq_xPut1 hm hk hs ⟨rfl, h⟩
  · rw [c2 z]
    unfold wX_workOff_115
    exact rq_xPut1 hm hk hs ⟨rfl, h⟩
theorem rq_xCho0 {m k : Nat} {f s : Int32} (hm : m ≤ 9) (hk : k < 8) (c1 : pl m = 0 → s = nI k) (c2 : ¬ pl m = 0 → f = nI k) (hs : st k = 0) (h : post 0 (dL, dH, nI (m + 1), nd, inp, bK, bF, bS, bL, dK, dF, dS, st, sv, sn, sb, vb, pl)) : wpX_workOff post (dL, dH, nI (m + 1), nd, inp, bK, bF, bS, bL, dK, dF, dS, st, sv, sn, sb, vb, pl) 7 f s := by
  unfold wpX_workOff
  have cm : (nI m).toNatClampNeg = m := rq_cl (by omega)
  refine br_t (by decide) (br_t rfl ?_)
  refine nm_r (e' := nI m) (nI_pred m) (nm_r (e' := nI (m + 1)) (nI_1 m) ?_)
  refine br_f (by decide) (br_f (by decide) (br_f (by decide) (br_f (by decide) (br_f (by decide) (br_t rfl ⟨vp_in_nI (by omega) (by omega), ?_⟩)))))
  rw [cm]
  refine br_c (fun z => ?_) (fun z => ?_)
  · rw [c1 z]
    unfold wX_workOff_115
    exact rq_xPut0 hk hs ⟨rfl, h⟩
  · rw [c2 z]
    unfold wX_workOff_115
    exact rq_xPut0 hk hs ⟨rfl, h⟩
theorem rq_xOp {m p : Nat} {f s : Int32} (hm : m ≤ 8) (hp : p < 4) (h : post 1 (dL, dH, nI (m + 1), nd, inp, bK, bF, bS, bL, dK, dF, dS, st, sv, sn, sb, vb, upd pl m (rq_op p (pl m) (pl (m + 1))))) : wpX_workOff post (dL, dH, nI (m + 2), nd, inp, bK, bF, bS, bL, dK, dF, dS, st, sv, sn, sb, vb, pl) (nI p) f s := by
  unfold wpX_workOff
  have cm : (nI m).toNatClampNeg = m := rq_cl (by omega)
  have cm1 : (nI m + 1).toNatClampNeg = m + 1 := by rw [nI_1]; exact rq_cl (by omega)
  have mi : vp_in (nI m) 10 := vp_in_nI (by omega) (by omega)
  refine br_f (nI_nlt (a := 3) (by omega) (by omega)) ?_
  refine nm_r (e' := nI m) (pk_sub (b := 2) (by omega)) (nm_r (e' := nI (m + 1)) (nI_1 m) ?_)
  refine br_t (nI_lt (b := 4) hp (by omega)) ⟨mi, by rw [nI_1]; exact vp_in_nI (by omega) (by omega), ?_⟩
  rw [cm, cm1]
  exact rq_xComb hp ⟨mi, nm_e h⟩
end RQX
end
section
/-! the reference: one token worked off -/
section RQY
variable {post : Int32 → SY → Prop} {hY tp : Int32} {inp kd fi se sz pl vl st ns ov ok : Nat → Int32}
theorem rq_yPush {P : SY → Prop} {i : Nat} {x : Int32} (hi : i ≤ 9) (h : P (hY, nI (i + 1), inp, kd, fi, se, sz, upd pl i x, vl, st, ns, ov, ok)) : wpY_push P (hY, nI i, inp, kd, fi, se, sz, pl, vl, st, ns, ov, ok) x := by
  unfold wpY_push
  have ci : (nI i).toNatClampNeg = i := rq_cl (by omega)
  exact br_f (nI_ge (b := 10) (by omega) (by omega)) ⟨vp_in_nI (by omega) (by omega), nm_r (e' := upd pl i x) (by rw [ci]) (nm_r (e' := nI (i + 1)) (nI_1 i) h)⟩
theorem rq_yPop {m : Nat} (hm : m ≤ 9) (h : post (pl m) (hY, nI m, inp, kd, fi, se, sz, pl, vl, st, ns, ov, ok)) : wpY_pop post (hY, nI (m + 1), inp, kd, fi, se, sz, pl, vl, st, ns, ov, ok) := by
  unfold wpY_pop
  have cm : (nI m).toNatClampNeg = m := rq_cl (by omega)
  exact br_f (nI_ne0 (by omega) (by omega)) (nm_r (e' := nI m) (nI_pred m) ⟨vp_in_nI (by omega) (by omega), by rw [cm]; exact h⟩)
theorem rq_yOp {P : SY → Prop} {m p : Nat} (hm : m ≤ 8) (hp : p < 4) (h : P (hY, nI (m + 1), inp, kd, fi, se, sz, upd pl m (rq_op p (pl m) (pl (m + 1))), vl, st, ns, ov, ok)) : wpY_operate P (hY, nI (m + 2), inp, kd, fi, se, sz, pl, vl, st, ns, ov, ok) (nI (4 + p)) := by
  unfold wpY_operate
  refine rq_yPop (m := m + 1) (by omega) ?_
  refine rq_yPop (m := m) (by omega) ?_
  match p, hp with
  | 0, _ => exact br_t rfl (rq_yPush (by omega) h)
  | 1, _ => exact br_f (by decide) (br_t rfl (rq_yPush (by omega) h))
  | 2, _ => exact br_f (by decide) (br_f (by decide) (br_t rfl (rq_yPush (by omega) h)))
  | 3, _ =>
    refine br_f (by decide) (br_f (by decide) (br_f (by decide) ?_))
    by_cases c : pl (m + 1) ≤ pl m
    · have e : rq_op 3 (pl m) (pl (m + 1)) = 0 := by
        show (if pl (m + 1) ≤ pl m then (0 : Int32) else 1) = 0
        exact if_pos c
      rw [e] at h
      refine br_t c ?_
      unfold wY_operate_67
      exact rq_yPush (by omega) h
    · have e : rq_op 3 (pl m) (pl (m + 1)) = 1 := by
        show (if pl (m + 1) ≤ pl m then (0 : Int32) else 1) = 1
        exact if_neg c
      rw [e] at h
      refine br_f c ?_
      unfold wY_operate_67
      exact rq_yPush (by omega) h
theorem rq_yNum {i a : Nat} {x : Int32} (hi : i ≤ 9) (ha : a < 90) (e1 : kd a = 0) (h : post (-1) (hY, nI (i + 1), inp, kd, fi, se, sz, upd pl i (fi a), vl, st, ns, ov, ok)) : wpY_step post (hY, nI i, inp, kd, fi, se, sz, pl, vl, st, ns, ov, ok) (nI a) x := by
  unfold wpY_step
  have ca : (nI a).toNatClampNeg = a := rq_cl (by omega)
  have ai : vp_in (nI a) 90 := vp_in_nI ha (by omega)
  rw [ca]
  exact ⟨ai, br_t e1 ⟨ai, rq_yPush hi h⟩⟩
theorem rq_yInp {i j a q : Nat} (hi : i ≤ 9) (hj : j < 6) (hq : q < 8) (ha : a < 90) (e1 : kd a = 1) (e2 : fi a = nI j) (h : post (-1) (hY, nI (i + 1), inp, kd, fi, se, sz, upd pl i (inp j), vl, st, upd ns q (ns q ||| ((1 : Int32) <<< (nI j &&& 31))), ov, ok)) : wpY_step post (hY, nI i, inp, kd, fi, se, sz, pl, vl, st, ns, ov, ok) (nI a) (nI q) := by
  unfold wpY_step
  have ca : (nI a).toNatClampNeg = a := rq_cl (by omega)
  have cq : (nI q).toNatClampNeg = q := rq_cl (by omega)
  have cj : (nI j).toNatClampNeg = j := rq_cl (by omega)
  have ai : vp_in (nI a) 90 := vp_in_nI ha (by omega)
  have qi : vp_in (nI q) 8 := vp_in_nI hq (by omega)
  dsimp only
  rw [ca, cq, e1, e2, cj]
  exact ⟨ai, br_f (by decide) ⟨ai, br_t rfl ⟨qi, ai, qi, nm_e ⟨ai, vp_in_nI hj (by omega), rq_yPush hi h⟩⟩⟩⟩
theorem rq_y134_0 {k : Nat} {x : Int32} (hk : k < 8) (hs : st k = 0) (h : post (nI k) (hY, tp, inp, kd, fi, se, sz, pl, vl, st, ns, ov, ok)) : wY_step_134 post x (nI k) hY tp inp kd fi se sz pl vl st ns ov ok := by
  unfold wY_step_134
  have ck : (nI k).toNatClampNeg = k := rq_cl (by omega)
  rw [ck]
  exact ⟨vp_in_nI hk (by omega), br_t hs h⟩
theorem rq_y134_1 {i k q : Nat} (hi : i ≤ 9) (hk : k < 8) (hq : q < 8) (hs : ¬ st k = 0) (h : post (-1) (hY, nI (i + 1), inp, kd, fi, se, sz, upd pl i (vl k), vl, st, upd ns q ((ns q ||| ns k) ||| ((1 : Int32) <<< ((6 + nI k) &&& 31))), ov, ok)) : wY_step_134 post (nI q) (nI k) hY (nI i) inp kd fi se sz pl vl st ns ov ok := by
  unfold wY_step_134
  have ck : (nI k).toNatClampNeg = k := rq_cl (by omega)
  have cq : (nI q).toNatClampNeg = q := rq_cl (by omega)
  have ki : vp_in (nI k) 8 := vp_in_nI hk (by omega)
  have qi : vp_in (nI q) 8 := vp_in_nI hq (by omega)
  rw [ck, cq]
  exact ⟨ki, br_f hs ⟨qi, ki, qi, nm_e ⟨ki, rq_yPush hi h⟩⟩⟩
theorem rq_yQry0 {i k a : Nat} {x : Int32} (hk : k < 8) (ha : a < 90) (e1 : kd a = 2) (e2 : fi a = nI k) (hs : st k = 0) (h : post (nI k) (hY, nI i, inp, kd, fi, se, sz, pl, vl, st, ns, ov, ok)) : wpY_step post (hY, nI i, inp, kd, fi, se, sz, pl, vl, st, ns, ov, ok) (nI a) x := by
  unfold wpY_step
  have ca : (nI a).toNatClampNeg = a := rq_cl (by omega)
  have ai : vp_in (nI a) 90 := vp_in_nI ha (by omega)
  dsimp only
  rw [ca, e1]
  exact ⟨ai, br_f (by decide) ⟨ai, br_f (by decide) ⟨ai, br_t (by decide) ⟨ai, nm_r e2 ⟨ai, br_f (by decide) (rq_y134_0 hk hs h)⟩⟩⟩⟩⟩
theorem rq_yQry1 {i k a q : Nat} (hi : i ≤ 9) (hk : k < 8) (hq : q < 8) (ha : a < 90) (e1 : kd a = 2) (e2 : fi a = nI k) (hs : ¬ st k = 0) (h : post (-1) (hY, nI (i + 1), inp, kd, fi, se, sz, upd pl i (vl k), vl, st, upd ns q ((ns q ||| ns k) ||| ((1 : Int32) <<< ((6 + nI k) &&& 31))), ov, ok)) : wpY_step post (hY, nI i, inp, kd, fi, se, sz, pl, vl, st, ns, ov, ok) (nI a) (nI q) := by
  unfold wpY_step
  have ca : (nI a).toNatClampNeg = a := rq_cl (by omega)
  have ai : vp_in (nI a) 90 := vp_in_nI ha (by omega)
  dsimp only
  rw [ca, e1]
  exact ⟨ai, br_f (by decide) ⟨ai, br_f (by decide) ⟨ai, br_t (by decide) ⟨ai, nm_r e2 ⟨ai, br_f (by decide) (rq_y134_1 hi hk hq hs h)⟩⟩⟩⟩⟩
theorem rq_yCho0 {m k a : Nat} {x : Int32} (hm : m ≤ 9) (hk : k < 8) (ha : a < 90) (e1 : kd a = 3) (c1 : pl m = 0 → se a = nI k) (c2 : ¬ pl m = 0 → fi a = nI k) (hs : st k = 0) (h : post (nI k) (hY, nI m, inp, kd, fi, se, sz, pl, vl, st, ns, ov, ok)) : wpY_step post (hY, nI (m + 1), inp, kd, fi, se, sz, pl, vl, st, ns, ov, ok) (nI a) x := by
  unfold wpY_step
  have ca : (nI a).toNatClampNeg = a := rq_cl (by omega)
  have ai : vp_in (nI a) 90 := vp_in_nI ha (by omega)
  dsimp only
  rw [ca, e1]
  refine ⟨ai, br_f (by decide) ⟨ai, br_f (by decide) ⟨ai, br_t (by decide) ⟨ai, nm_e ⟨ai, br_t rfl (rq_yPop hm ?_)⟩⟩⟩⟩⟩
  refine br_c (fun z => ⟨ai, ?_⟩) (fun z => ⟨ai, ?_⟩)
  · unfold wY_step_133
    dsimp only
    rw [c1 z]
    exact rq_y134_0 hk hs h
  · unfold wY_step_133
    dsimp only
    rw [c2 z]
    exact rq_y134_0 hk hs h
theorem rq_yCho1 {m k a q : Nat} (hm : m ≤ 9) (hk : k < 8) (hq : q < 8) (ha : a < 90) (e1 : kd a = 3) (c1 : pl m = 0 → se a = nI k) (c2 : ¬ pl m = 0 → fi a = nI k) (hs : ¬ st k = 0) (h : post (-1) (hY, nI (m + 1), inp, kd, fi, se, sz, upd pl m (vl k), vl, st, upd ns q ((ns q ||| ns k) ||| ((1 : Int32) <<< ((6 + nI k) &&& 31))), ov, ok)) : wpY_step post (hY, nI (m + 1), inp, kd, fi, se, sz, pl, vl, st, ns, ov, ok) (nI a) (nI q) := by
  unfold wpY_step
  have ca : (nI a).toNatClampNeg = a := rq_cl (by omega)
  have ai : vp_in (nI a) 90 := vp_in_nI ha (by omega)
  dsimp only
  rw [ca, e1]
  refine ⟨ai, br_f (by decide) ⟨ai, br_f (by decide) ⟨ai, br_t (by decide) ⟨ai, nm_e ⟨ai, br_t rfl (rq_yPop hm ?_)⟩⟩⟩⟩⟩
  refine br_c (fun z => ⟨ai, ?_⟩) (fun z => ⟨ai, ?_⟩)
  · unfold wY_step_133
    dsimp only
    rw [c1 z]
    exact rq_y134_1 hm hk hq hs h
  · unfold wY_step_133
    dsimp only
    rw [c2 z]
    exact rq_y134_1 hm hk hq hs h
theorem rq_yOps {m p a : Nat} {x : Int32} (hm : m ≤ 8) (hp : p < 4) (ha : a < 90) (e1 : kd a = nI (4 + p)) (h : post (-1) (hY, nI (m + 1), inp, kd, fi, se, sz, upd pl m (rq_op p (pl m) (pl (m + 1))), vl, st, ns, ov, ok)) : wpY_step post (hY, nI (m + 2), inp, kd, fi, se, sz, pl, vl, st, ns, ov, ok) (nI a) x := by
  unfold wpY_step
  have ca : (nI a).toNatClampNeg = a := rq_cl (by omega)
  have ai : vp_in (nI a) 90 := vp_in_nI ha (by omega)
  dsimp only
  rw [ca, e1]
  have n0 : ¬ nI (4 + p) = 0 := nI_ne0 (by omega) (by omega)
  have n1 : ¬ nI (4 + p) = 1 := fun z => by
    have := (nI_eq (a := 4 + p) (b := 1) (by omega) (by omega)).mp z
    omega
  exact ⟨ai, br_f n0 ⟨ai, br_f n1 ⟨ai, br_f (nI_ge (b := 4 + p) (a := 3) (by omega) (by omega)) ⟨ai, rq_yOp hm hp h⟩⟩⟩⟩
end RQY
end
section
/-! token by token, body by body, round by round: both sides in step -/
section RQB
variable {dL dH ph nd hY tp : Int32} {inp bK bF bS bL dK dF dS st sv sn sb vb pl kd fi se sz vl ns ov ok : Nat → Int32}
theorem rq_V_upd {q : Nat} {x : Int32} (hV : rq_V st sv sn vl ns) (hs : st q = 0) : rq_V st sv sn vl (upd ns q x) := by
  intro k hk hz
  have e : k ≠ q := fun z => hz (by rw [z]; exact hs)
  rw [pk_un e]
  exact hV k hk hz
theorem rq_V_done {q : Nat} {x y : Int32} (hV : rq_V st sv sn vl ns) (hN : ns q = y) : rq_V (upd st q (vp_nar .boolean 1)) (upd sv q x) (upd sn q y) (upd vl q x) ns := by
  intro k hk hz
  by_cases e : k = q
  · subst e
    rw [pk_us, pk_us, pk_us]
    exact ⟨rfl, hN.symm⟩
  · rw [pk_un e] at hz
    rw [pk_un e, pk_un e, pk_un e]
    exact hV k hk hz
theorem rq_tok {a b f s : Int32} {i o q w : Nat} (hT : rq_T a b f s i o) (hi : i ≤ 9) (hq : q < 8) (ha : w < 90) (e1 : kd w = b) (e2 : fi w = f) (e3 : se w = s) (hV : rq_V st sv sn vl ns) (hs : st q = 0) (hN : ns q = nd) :
    (∃ (nd' : Int32) (pl' ns' : Nat → Int32), rq_V st sv sn vl ns' ∧ ns' q = nd' ∧
      (∀ P : Int32 → SX → Prop, P 1 (dL, dH, nI o, nd', inp, bK, bF, bS, bL, dK, dF, dS, st, sv, sn, sb, vb, pl') → wpX_workOff P (dL, dH, nI i, nd, inp, bK, bF, bS, bL, dK, dF, dS, st, sv, sn, sb, vb, pl) a f s) ∧
      (∀ P : Int32 → SY → Prop, P (-1) (hY, nI o, inp, kd, fi, se, sz, pl', vl, st, ns', ov, ok) → wpY_step P (hY, nI i, inp, kd, fi, se, sz, pl, vl, st, ns, ov, ok) (nI w) (nI q))) ∨
    (∃ (ph' tp' r : Int32), ¬ r < 0 ∧
      (∀ P : Int32 → SX → Prop, P 0 (dL, dH, ph', nd, inp, bK, bF, bS, bL, dK, dF, dS, st, sv, sn, sb, vb, pl) → wpX_workOff P (dL, dH, nI i, nd, inp, bK, bF, bS, bL, dK, dF, dS, st, sv, sn, sb, vb, pl) a f s) ∧
      (∀ P : Int32 → SY → Prop, P r (hY, tp', inp, kd, fi, se, sz, pl, vl, st, ns, ov, ok) → wpY_step P (hY, nI i, inp, kd, fi, se, sz, pl, vl, st, ns, ov, ok) (nI w) (nI q))) := by
  rcases hT with ⟨rfl, rfl, rfl⟩ | ⟨rfl, rfl, ⟨j, hj, rfl⟩, rfl⟩ | ⟨rfl, rfl, ⟨k, hk, rfl⟩, rfl⟩ | ⟨rfl, rfl, ⟨j1, hj1, rfl⟩, ⟨j2, hj2, rfl⟩, h1, rfl⟩ | ⟨p, hp, rfl, rfl, h2, ho⟩
  · exact Or.inl ⟨nd, upd pl i f, ns, hV, hN, fun P h => rq_xNum hi h, fun P h => rq_yNum hi ha e1 (by rw [e2]; exact h)⟩
  · exact Or.inl ⟨_, upd pl i (inp j), upd ns q (nd ||| ((1 : Int32) <<< (nI j &&& 31))), rq_V_upd hV hs, pk_us, fun P h => rq_xInp hi hj h, fun P h => rq_yInp hi hj hq ha e1 e2 (by rw [hN]; exact h)⟩
  · by_cases z : st k = 0
    · exact Or.inr ⟨_, _, nI k, nI_pos (by omega), fun P h => rq_xQry0 hi hk z h, fun P h => rq_yQry0 hk ha e1 e2 z h⟩
    · obtain ⟨v1, v2⟩ := hV k hk z
      refine Or.inl ⟨_, upd pl i (sv k), upd ns q (nd ||| (sn k ||| ((1 : Int32) <<< ((6 + nI k) &&& 31)))), rq_V_upd hV hs, pk_us, fun P h => rq_xQry1 hi hk z h, fun P h => rq_yQry1 hi hk hq ha e1 e2 z ?_⟩
      rw [hN, Int32.or_assoc, ← v1, ← v2]
      exact h
  · obtain ⟨m, rfl⟩ : ∃ m, o = m + 1 := ⟨o - 1, by omega⟩
    obtain ⟨k, hk, c1, c2⟩ : ∃ k, k < 8 ∧ (pl m = 0 → nI j2 = nI k) ∧ (¬ pl m = 0 → nI j1 = nI k) := by
      by_cases c : pl m = 0
      · exact ⟨j2, hj2, fun _ => rfl, fun z => absurd c z⟩
      · exact ⟨j1, hj1, fun z => absurd z c, fun _ => rfl⟩
    by_cases z : st k = 0
    · exact Or.inr ⟨_, _, nI k, nI_pos (by omega), fun P h => rq_xCho0 (by omega) hk c1 c2 z h, fun P h => rq_yCho0 (by omega) hk ha e1 (fun y => e3.trans (c1 y)) (fun y => e2.trans (c2 y)) z h⟩
    · obtain ⟨v1, v2⟩ := hV k hk z
      refine Or.inl ⟨_, upd pl m (sv k), upd ns q (nd ||| (sn k ||| ((1 : Int32) <<< ((6 + nI k) &&& 31)))), rq_V_upd hV hs, pk_us, fun P h => rq_xCho1 (by omega) hk c1 c2 z h, fun P h => rq_yCho1 (by omega) hk hq ha e1 (fun y => e3.trans (c1 y)) (fun y => e2.trans (c2 y)) z ?_⟩
      rw [hN, Int32.or_assoc, ← v1, ← v2]
      exact h
  · obtain ⟨m, rfl⟩ : ∃ m, o = m + 1 := ⟨o - 1, by omega⟩
    obtain rfl : i = m + 2 := by omega
    exact Or.inl ⟨nd, upd pl m (rq_op p (pl m) (pl (m + 1))), ns, hV, hN, fun P h => rq_xOp (by omega) hp h, fun P h => rq_yOps (by omega) hp ha e1 h⟩
theorem rq_body {n q : Nat} {h : Nat → Nat} (hq : q < 8) (hn : n ≤ 10) (h1 : h n = 1) (hz : sz q = nI n)
    (hB : rq_B (fun t => bK (10 * q + t)) (fun t => kd (10 * q + t)) (fun t => fi (10 * q + t)) (fun t => se (10 * q + t)) n h)
    (hO : ∀ j, j < 80 → bF j = fi j ∧ bS j = se j) (hs : st q = 0) :
    ∀ d t, t + d = n → ∀ (nd : Int32) (pl ns : Nat → Int32), rq_V st sv sn vl ns → ns q = nd →
    ∃ (r ph' nd' tp' : Int32) (st' sv' sn' pl' vl' ns' : Nat → Int32), rq_V st' sv' sn' vl' ns' ∧ upd st q (vp_nar .boolean r) = st' ∧
      (∀ P : SX → Prop, P (dL, dH, ph', nd', inp, bK, bF, bS, bL, dK, dF, dS, st', sv', sn', sb, vb, pl') → wX_tryToSettle_27 P (nI q) (nI (10 * q + n)) (d + 1) (nI (10 * q + t)) dL dH (nI (h t)) nd inp bK bF bS bL dK dF dS st sv sn sb vb pl) ∧
      (∀ P : Int32 → SY → Prop, P r (hY, tp', inp, kd, fi, se, sz, pl', vl', st, ns', ov, ok) → wY_workOff_14 P (nI q) (d + 1) (nI t) hY (nI (h t)) inp kd fi se sz pl vl st ns ov ok) := by
  have cq : (nI q).toNatClampNeg = q := rq_cl (by omega)
  have qi : vp_in (nI q) 8 := vp_in_nI hq (by omega)
  have qi9 : vp_in (nI q) 9 := vp_in_nI (by omega) (by omega)
  have es : sz (nI q).toNatClampNeg = nI n := by rw [cq]; exact hz
  intro d
  induction d with
  | zero =>
    intro t ht nd pl ns hV hN
    obtain rfl : t = n := by omega
    refine ⟨1, nI (h t), nd, nI 0, upd st q (vp_nar .boolean 1), upd sv q (pl 0), upd sn q nd, pl, upd vl q (pl 0), ns, rq_V_done hV hN, rfl, fun P hP => ?_, fun P hP => ?_⟩
    · refine br_t (Int32.le_refl _) (And.intro qi ?_)
      refine nm_r (e' := upd st q (vp_nar .boolean 1)) (by rw [cq]) (And.intro qi ?_)
      refine nm_r (e' := upd sv q (pl 0)) (by rw [cq]) (And.intro qi ?_)
      exact nm_r (e' := upd sn q nd) (by rw [cq]) hP
    · rw [h1]
      refine And.intro qi9 (br_t (by rw [es]; exact Int32.le_refl _) ?_)
      refine rq_yPop (m := 0) (by omega) (And.intro qi ?_)
      exact nm_r (e' := upd vl q (pl 0)) (by rw [cq]) hP
  | succ d ih =>
    intro t ht nd pl ns hV hN
    have hT : rq_T (bK (10 * q + t)) (kd (10 * q + t)) (fi (10 * q + t)) (se (10 * q + t)) (h t) (h (t + 1)) := hB.2 t (by omega)
    have hle := rq_B_le hB t (by omega)
    obtain ⟨o1, o2⟩ := hO (10 * q + t) (by omega)
    have cw : (nI (10 * q + t)).toNatClampNeg = 10 * q + t := rq_cl (by omega)
    have wi : vp_in (nI (10 * q + t)) 80 := vp_in_nI (by omega) (by omega)
    have g1 : ¬ nI (10 * q + n) ≤ nI (10 * q + t) := nI_ge (by omega) (by omega)
    have g2 : ¬ sz (nI q).toNatClampNeg ≤ nI t := by rw [es]; exact nI_ge (by omega) (by omega)
    rcases rq_tok (dL := dL) (dH := dH) (hY := hY) (inp := inp) (bK := bK) (bF := bF) (bS := bS) (bL := bL) (dK := dK) (dF := dF) (dS := dS) (sb := sb) (vb := vb) (pl := pl) (sz := sz) (ov := ov) (ok := ok) hT (by omega) hq (show 10 * q + t < 90 by omega) rfl rfl rfl hV hs hN with ⟨nd1, pl1, ns1, hV1, hN1, tX, tY⟩ | ⟨ph1, tp1, r, hr, tX, tY⟩
    · obtain ⟨r, ph2, nd2, tp2, st2, sv2, sn2, pl2, vl2, ns2, hV2, hU2, gX, gY⟩ := ih (t + 1) (by omega) nd1 pl1 ns1 hV1 hN1
      refine ⟨r, ph2, nd2, tp2, st2, sv2, sn2, pl2, vl2, ns2, hV2, hU2, fun P hP => ?_, fun P hP => ?_⟩
      · refine br_f g1 (And.intro wi (And.intro wi (And.intro wi ?_)))
        rw [cw, o1, o2]
        refine tX _ ?_
        exact br_f (by decide) (nm_r (e' := nI (10 * q + (t + 1))) (nI_1 _) (gX P hP))
      · refine And.intro qi9 (br_f g2 ?_)
        rw [rq_mulL, nI_add (10 * q) t]
        refine tY _ ?_
        exact br_t (by decide) (nm_r (e' := nI (t + 1)) (nI_1 t) (gY P hP))
    · refine ⟨0, ph1, nd, tp1, st, sv, sn, pl, vl, ns, hV, by rw [rq_b0]; exact rq_us hs, fun P hP => ?_, fun P hP => ?_⟩
      · refine br_f g1 (And.intro wi (And.intro wi (And.intro wi ?_)))
        rw [cw, o1, o2]
        refine tX _ ?_
        exact br_t rfl hP
      · refine And.intro qi9 (br_f g2 ?_)
        rw [rq_mulL, nI_add (10 * q) t]
        refine tY _ ?_
        exact br_f hr hP
theorem rq_one {q : Nat} (hq : q < 8) (hB0 : rq_Bod bK bL kd fi se sz) (hO : ∀ j, j < 80 → bF j = fi j ∧ bS j = se j) (hs : st q = 0) (hV : rq_V st sv sn vl ns) :
    ∃ (r ph' nd' tp' : Int32) (st' sv' sn' pl' vl' ns' : Nat → Int32), rq_V st' sv' sn' vl' ns' ∧ upd st q (vp_nar .boolean r) = st' ∧
      (∀ P : SX → Prop, P (dL, dH, ph', nd', inp, bK, bF, bS, bL, dK, dF, dS, st', sv', sn', sb, vb, pl') → wpX_tryToSettle P (dL, dH, ph, nd, inp, bK, bF, bS, bL, dK, dF, dS, st, sv, sn, sb, vb, pl) (nI q)) ∧
      (∀ P : Int32 → SY → Prop, P r (hY, tp', inp, kd, fi, se, sz, pl', vl', st, ns', ov, ok) → wpY_workOff P (hY, tp, inp, kd, fi, se, sz, pl, vl, st, ns, ov, ok) (nI q)) := by
  have cq : (nI q).toNatClampNeg = q := rq_cl (by omega)
  have qi : vp_in (nI q) 8 := vp_in_nI hq (by omega)
  obtain ⟨n, h, n1, n2, l1, l2, h1, hB⟩ := hB0 q hq
  obtain ⟨r, ph2, nd2, tp2, st2, sv2, sn2, pl2, vl2, ns2, hV2, hU2, gX, gY⟩ := rq_body (dL := dL) (dH := dH) (hY := hY) (inp := inp) (bK := bK) (bF := bF) (bS := bS) (bL := bL) (dK := dK) (dF := dF) (dS := dS) (sb := sb) (vb := vb) (sz := sz) (ov := ov) (ok := ok) hq n2 h1 l2 hB hO hs n 0 (by omega) 0 pl (upd ns q 0) (rq_V_upd hV hs) pk_us
  refine ⟨r, ph2, nd2, tp2, st2, sv2, sn2, pl2, vl2, ns2, hV2, hU2, fun P hP => ?_, fun P hP => ?_⟩
  · unfold wpX_tryToSettle
    refine nm_r (e' := nI (10 * q)) (rq_mulR q) (And.intro qi (nm_r (e' := nI (10 * q + n)) (by rw [cq, l1, nI_add]) ⟨n + 1, ?_⟩))
    have g := gX P hP
    rw [hB.1] at g
    exact g
  · unfold wpY_workOff
    refine And.intro qi (nm_r (e' := upd ns q 0) (by rw [cq]) ⟨n + 1, ?_⟩)
    have g := gY P hP
    rw [hB.1] at g
    exact g
end RQB
end
section
/-! all bodies, eight rounds -/
abbrev rq_JX : Type := Int32 → Int32 → Int32 → Int32 → Int32 → (Nat → Int32) → (Nat → Int32) → (Nat → Int32) → (Nat → Int32) → (Nat → Int32) → (Nat → Int32) → (Nat → Int32) → (Nat → Int32) → (Nat → Int32) → (Nat → Int32) → (Nat → Int32) → (Nat → Int32) → (Nat → Int32) → (Nat → Int32) → Prop
abbrev rq_JY : Type := Int32 → Int32 → Int32 → (Nat → Int32) → (Nat → Int32) → (Nat → Int32) → (Nat → Int32) → (Nat → Int32) → (Nat → Int32) → (Nat → Int32) → (Nat → Int32) → (Nat → Int32) → (Nat → Int32) → (Nat → Int32) → Prop
section RQA
variable {dL dH ph nd hY tp : Int32} {inp bK bF bS bL dK dF dS st sv sn sb vb pl kd fi se sz vl ns ov ok : Nat → Int32}
theorem rq_round (hB0 : rq_Bod bK bL kd fi se sz) (hO : ∀ j, j < 80 → bF j = fi j ∧ bS j = se j) :
    ∀ d q, q + d = 8 → ∀ (ph nd tp : Int32) (st sv sn pl vl ns : Nat → Int32), rq_V st sv sn vl ns →
    ∃ (ph' nd' tp' : Int32) (st' sv' sn' pl' vl' ns' : Nat → Int32), rq_V st' sv' sn' vl' ns' ∧
      (∀ (P : SX → Prop) (J : rq_JX) (x : Int32), J (x + 1) dL dH ph' nd' inp bK bF bS bL dK dF dS st' sv' sn' sb vb pl' → wX_settleAll_31 P J x (d + 1) (nI q) dL dH ph nd inp bK bF bS bL dK dF dS st sv sn sb vb pl) ∧
      (∀ (P : SY → Prop) (J : rq_JY) (x : Int32), J (x + 1) hY tp' inp kd fi se sz pl' vl' st' ns' ov ok → wY_computeAll_38 P J x (d + 1) (nI q) hY tp inp kd fi se sz pl vl st ns ov ok) := by
  intro d
  induction d with
  | zero =>
    intro q hq ph nd tp st sv sn pl vl ns hV
    obtain rfl : q = 8 := by omega
    exact ⟨ph, nd, tp, st, sv, sn, pl, vl, ns, hV, fun P J x hJ => br_t (by decide) (nm_e hJ), fun P J x hJ => br_t (by decide) (nm_e hJ)⟩
  | succ d ih =>
    intro q hq ph nd tp st sv sn pl vl ns hV
    have cq : (nI q).toNatClampNeg = q := rq_cl (by omega)
    have qi : vp_in (nI q) 8 := vp_in_nI (by omega) (by omega)
    have g8 : ¬ (8 : Int32) ≤ nI q := nI_ge (b := 8) (by omega) (by omega)
    by_cases hs : st q = 0
    · have hs' : st (nI q).toNatClampNeg = 0 := by rw [cq]; exact hs
      obtain ⟨r, ph1, nd1, tp1, st1, sv1, sn1, pl1, vl1, ns1, hV1, hU1, tX, tY⟩ := rq_one (dL := dL) (dH := dH) (ph := ph) (nd := nd) (hY := hY) (tp := tp) (inp := inp) (bF := bF) (bS := bS) (dK := dK) (dF := dF) (dS := dS) (sb := sb) (vb := vb) (pl := pl) (ov := ov) (ok := ok) (show q < 8 by omega) hB0 hO hs hV
      obtain ⟨ph2, nd2, tp2, st2, sv2, sn2, pl2, vl2, ns2, hV2, gX, gY⟩ := ih (q + 1) (by omega) ph1 nd1 tp1 st1 sv1 sn1 pl1 vl1 ns1 hV1
      refine ⟨ph2, nd2, tp2, st2, sv2, sn2, pl2, vl2, ns2, hV2, fun P J x hJ => ?_, fun P J x hJ => ?_⟩
      · refine br_f g8 (And.intro qi (br_t hs' (tX _ ?_)))
        exact nm_r (e' := nI (q + 1)) (nI_1 q) (gX P J x hJ)
      · refine br_f g8 (And.intro qi (br_t hs' (tY _ ?_)))
        refine And.intro qi (nm_r (e' := st1) (by rw [cq]; exact hU1) ?_)
        exact nm_r (e' := nI (q + 1)) (nI_1 q) (gY P J x hJ)
    · have hs' : ¬ st (nI q).toNatClampNeg = 0 := by rw [cq]; exact hs
      obtain ⟨ph2, nd2, tp2, st2, sv2, sn2, pl2, vl2, ns2, hV2, gX, gY⟩ := ih (q + 1) (by omega) ph nd tp st sv sn pl vl ns hV
      refine ⟨ph2, nd2, tp2, st2, sv2, sn2, pl2, vl2, ns2, hV2, fun P J x hJ => ?_, fun P J x hJ => ?_⟩
      · refine br_f g8 (And.intro qi (br_f hs' ?_))
        exact nm_r (e' := nI (q + 1)) (nI_1 q) (gX P J x hJ)
      · refine br_f g8 (And.intro qi (br_f hs' ?_))
        exact nm_r (e' := nI (q + 1)) (nI_1 q) (gY P J x hJ)
theorem rq_rounds (hB0 : rq_Bod bK bL kd fi se sz) (hO : ∀ j, j < 80 → bF j = fi j ∧ bS j = se j) :
    ∀ d p, p + d = 8 → ∀ (ph nd tp : Int32) (st sv sn pl vl ns : Nat → Int32), rq_V st sv sn vl ns →
    ∃ (ph' nd' tp' : Int32) (st' sv' sn' pl' vl' ns' : Nat → Int32), rq_V st' sv' sn' vl' ns' ∧
      (∀ (P : SX → Prop), P (dL, dH, ph', nd', inp, bK, bF, bS, bL, dK, dF, dS, st', sv', sn', sb, vb, pl') → wX_settleAll_23 P (d + 1) (nI p) dL dH ph nd inp bK bF bS bL dK dF dS st sv sn sb vb pl) ∧
      (∀ (P : SY → Prop), P (hY, tp', inp, kd, fi, se, sz, pl', vl', st', ns', ov, ok) → wY_computeAll_30 P (d + 1) (nI p) hY tp inp kd fi se sz pl vl st ns ov ok) := by
  intro d
  induction d with
  | zero =>
    intro p hp ph nd tp st sv sn pl vl ns hV
    obtain rfl : p = 8 := by omega
    exact ⟨ph, nd, tp, st, sv, sn, pl, vl, ns, hV, fun P hP => br_t (by decide) hP, fun P hP => br_t (by decide) hP⟩
  | succ d ih =>
    intro p hp ph nd tp st sv sn pl vl ns hV
    have g8 : ¬ (8 : Int32) ≤ nI p := nI_ge (b := 8) (by omega) (by omega)
    obtain ⟨ph1, nd1, tp1, st1, sv1, sn1, pl1, vl1, ns1, hV1, tX, tY⟩ := rq_round (dL := dL) (dH := dH) (hY := hY) (inp := inp) (bF := bF) (bS := bS) (dK := dK) (dF := dF) (dS := dS) (sb := sb) (vb := vb) (ov := ov) (ok := ok) hB0 hO 8 0 (by omega) ph nd tp st sv sn pl vl ns hV
    obtain ⟨ph2, nd2, tp2, st2, sv2, sn2, pl2, vl2, ns2, hV2, gX, gY⟩ := ih (p + 1) (by omega) ph1 nd1 tp1 st1 sv1 sn1 pl1 vl1 ns1 hV1
    refine ⟨ph2, nd2, tp2, st2, sv2, sn2, pl2, vl2, ns2, hV2, fun P hP => ?_, fun P hP => ?_⟩
    · refine br_f g8 ⟨8 + 1, tX P (wX_settleAll_23 P (d + 1)) (nI p) ?_⟩
      rw [nI_1 p]
      exact gX P hP
    · refine br_f g8 ⟨8 + 1, tY P (wY_computeAll_30 P (d + 1)) (nI p) ?_⟩
      rw [nI_1 p]
      exact gY P hP
theorem rq_zero : ∀ d q, q + d = 8 → ∀ (st vl : Nat → Int32), (∀ k, k < q → st k = 0) →
    ∃ (st' vl' : Nat → Int32), (∀ k, k < 8 → st' k = 0) ∧
      (∀ (P : SX → Prop), (∃ n, wX_settleAll_23 P n 0 dL dH ph nd inp bK bF bS bL dK dF dS st' sv sn sb vb pl) → wX_settleAll_2 P dL dH ph nd (d + 1) (nI q) inp bK bF bS bL dK dF dS st sv sn sb vb pl) ∧
      (∀ (P : SY → Prop), (∃ n, wY_computeAll_30 P n 0 hY tp inp kd fi se sz pl vl' st' ns ov ok) → wY_computeAll_2 P hY tp (d + 1) (nI q) inp kd fi se sz pl vl st ns ov ok) := by
  intro d
  induction d with
  | zero =>
    intro q hq st vl h0
    obtain rfl : q = 8 := by omega
    exact ⟨st, vl, h0, fun P hP => br_t (by decide) hP, fun P hP => br_t (by decide) hP⟩
  | succ d ih =>
    intro q hq st vl h0
    have cq : (nI q).toNatClampNeg = q := rq_cl (by omega)
    have qi : vp_in (nI q) 8 := vp_in_nI (by omega) (by omega)
    have g8 : ¬ (8 : Int32) ≤ nI q := nI_ge (b := 8) (by omega) (by omega)
    obtain ⟨st2, vl2, h2, gX, gY⟩ := ih (q + 1) (by omega) (upd st q 0) (upd vl q 0) (fun k hk => by
      by_cases e : k = q
      · rw [e, pk_us]
      · rw [pk_un e]
        exact h0 k (by omega))
    refine ⟨st2, vl2, h2, fun P hP => ?_, fun P hP => ?_⟩
    · refine br_f g8 (And.intro qi (nm_r (e' := upd st q 0) (by rw [cq, rq_b0]) ?_))
      exact nm_r (e' := nI (q + 1)) (nI_1 q) (gX P hP)
    · refine br_f g8 (And.intro qi (nm_r (e' := upd st q 0) (by rw [cq, rq_b0]) (And.intro qi (nm_r (e' := upd vl q 0) (by rw [cq]) ?_))))
      exact nm_r (e' := nI (q + 1)) (nI_1 q) (gY P hP)
theorem rq_all (hB0 : rq_Bod bK bL kd fi se sz) (hO : ∀ j, j < 80 → bF j = fi j ∧ bS j = se j) :
    ∃ (ph' nd' tp' : Int32) (st' sv' sn' pl' vl' ns' : Nat → Int32), rq_V st' sv' sn' vl' ns' ∧
      (∀ (P : SX → Prop), P (dL, dH, ph', nd', inp, bK, bF, bS, bL, dK, dF, dS, st', sv', sn', sb, vb, pl') → wpX_settleAll P (dL, dH, ph, nd, inp, bK, bF, bS, bL, dK, dF, dS, st, sv, sn, sb, vb, pl)) ∧
      (∀ (P : SY → Prop), P (hY, tp', inp, kd, fi, se, sz, pl', vl', st', ns', ov, ok) → wpY_computeAll P (hY, tp, inp, kd, fi, se, sz, pl, vl, st, ns, ov, ok)) := by
  obtain ⟨st1, vl1, h1, zX, zY⟩ := rq_zero (dL := dL) (dH := dH) (ph := ph) (nd := nd) (hY := hY) (tp := tp) (inp := inp) (bK := bK) (bF := bF) (bS := bS) (bL := bL) (dK := dK) (dF := dF) (dS := dS) (sv := sv) (sn := sn) (sb := sb) (vb := vb) (pl := pl) (kd := kd) (fi := fi) (se := se) (sz := sz) (ns := ns) (ov := ov) (ok := ok) 8 0 (by omega) st vl (fun k hk => absurd hk (Nat.not_lt_zero k))
  obtain ⟨ph2, nd2, tp2, st2, sv2, sn2, pl2, vl2, ns2, hV2, gX, gY⟩ := rq_rounds (dL := dL) (dH := dH) (hY := hY) (inp := inp) (bF := bF) (bS := bS) (dK := dK) (dF := dF) (dS := dS) (sb := sb) (vb := vb) (ov := ov) (ok := ok) hB0 hO 8 0 (by omega) ph nd tp st1 sv sn pl vl1 ns (fun k hk hz => absurd (h1 k hk) hz)
  refine ⟨ph2, nd2, tp2, st2, sv2, sn2, pl2, vl2, ns2, hV2, fun P hP => ?_, fun P hP => ?_⟩
  · unfold wpX_settleAll
    exact ⟨8 + 1, zX P ⟨8 + 1, gX P hP⟩⟩
  · unfold wpY_computeAll
    exact ⟨8 + 1, zY P ⟨8 + 1, gY P hP⟩⟩
end RQA
end
section
/-! the relation; the calls that give inputs and draft -/
def i_Rel (_ : Nat) (u : SX) (v : SY) : Prop :=
  ∃ (dL dH ph nd tp : Int32) (inp bK bF bS bL dK dF dS st sv sn sb vb pl kd fi se sz vl ns ov ok : Nat → Int32),
    u = (dL, dH, ph, nd, inp, bK, bF, bS, bL, dK, dF, dS, st, sv, sn, sb, vb, pl) ∧ v = (dH, tp, inp, kd, fi, se, sz, pl, vl, st, ns, ov, ok) ∧ rq_Bod bK bL kd fi se sz ∧ rq_Dra dL dH dK kd fi se sz ∧ rq_Opd bF bS dF dS fi se
theorem i_up {k : Nat} {u : SX} {v : SY} (h : i_Rel k u v) : i_Rel (k + 3) u v := h
section RQC
variable {dL dH ph nd hY tp : Int32} {inp bK bF bS bL dK dF dS st sv sn sb vb pl kd fi se sz vl ns ov ok : Nat → Int32}
theorem rq_mk {k : Nat} (hB : rq_Bod bK bL kd fi se sz) (hD : rq_Dra dL dH dK kd fi se sz) (hO : rq_Opd bF bS dF dS fi se) : i_Rel k (dL, dH, ph, nd, inp, bK, bF, bS, bL, dK, dF, dS, st, sv, sn, sb, vb, pl) (dH, tp, inp, kd, fi, se, sz, pl, vl, st, ns, ov, ok) :=
  ⟨dL, dH, ph, nd, tp, inp, bK, bF, bS, bL, dK, dF, dS, st, sv, sn, sb, vb, pl, kd, fi, se, sz, vl, ns, ov, ok, rfl, rfl, hB, hD, hO⟩
theorem rq_xIn {P : Int32 → Prop} {j : Nat} (hj : j < 6) (h : P 1) : wpX_isInput P (nI j) :=
  br_f (nI_pos (by omega)) (br_f (nI_ge (b := 6) hj (by omega)) h)
theorem rq_yIn {P : Int32 → Prop} {j : Nat} (hj : j < 6) (h : P 1) : wpY_isInput P (hY, tp, inp, kd, fi, se, sz, pl, vl, st, ns, ov, ok) (nI j) := by
  unfold wpY_isInput
  exact br_f (nI_pos (by omega)) (br_f (nI_nlt (a := 5) (by omega) (by omega)) h)
theorem rq_xQu {P : Int32 → Prop} {j : Nat} (hj : j < 8) (h : P 1) : wpX_isQuery P (nI j) :=
  br_f (nI_pos (by omega)) (br_f (nI_ge (b := 8) hj (by omega)) h)
theorem rq_yQu {P : Int32 → Prop} {j : Nat} (hj : j < 8) (h : P 1) : wpY_isQuery P (hY, tp, inp, kd, fi, se, sz, pl, vl, st, ns, ov, ok) (nI j) := by
  unfold wpY_isQuery
  exact br_f (nI_pos (by omega)) (br_f (nI_nlt (a := 7) (by omega) (by omega)) h)
theorem rq_inC (x : Int32) : (∃ j, j < 6 ∧ x = nI j) ∨ ((∀ P : Int32 → Prop, P 0 → wpX_isInput P x) ∧ (∀ (P : Int32 → Prop) (v : SY), P 0 → wpY_isInput P v x)) := by
  by_cases c : x < 0
  · refine Or.inr ⟨fun P h => br_t c h, fun P v h => ?_⟩
    obtain ⟨hY, tp, inp, kd, fi, se, sz, pl, vl, st, ns, ov, ok⟩ := v
    exact br_t c h
  · obtain ⟨j, hj, rfl⟩ := nI_of c
    by_cases c6 : j < 6
    · exact Or.inl ⟨j, c6, rfl⟩
    · refine Or.inr ⟨fun P h => br_f c (br_t (nI_le (a := 6) (by omega) hj) h), fun P v h => ?_⟩
      obtain ⟨hY, tp, inp, kd, fi, se, sz, pl, vl, st, ns, ov, ok⟩ := v
      exact br_f c (br_t (nI_lt (a := 5) (by omega) hj) h)
theorem rq_quC (x : Int32) : (∃ j, j < 8 ∧ x = nI j) ∨ ((∀ P : Int32 → Prop, P 0 → wpX_isQuery P x) ∧ (∀ (P : Int32 → Prop) (v : SY), P 0 → wpY_isQuery P v x)) := by
  by_cases c : x < 0
  · refine Or.inr ⟨fun P h => br_t c h, fun P v h => ?_⟩
    obtain ⟨hY, tp, inp, kd, fi, se, sz, pl, vl, st, ns, ov, ok⟩ := v
    exact br_t c h
  · obtain ⟨j, hj, rfl⟩ := nI_of c
    by_cases c6 : j < 8
    · exact Or.inl ⟨j, c6, rfl⟩
    · refine Or.inr ⟨fun P h => br_f c (br_t (nI_le (a := 8) (by omega) hj) h), fun P v h => ?_⟩
      obtain ⟨hY, tp, inp, kd, fi, se, sz, pl, vl, st, ns, ov, ok⟩ := v
      exact br_f c (br_t (nI_lt (a := 7) (by omega) hj) h)
theorem rq_xApp {post : Int32 → SX → Prop} {n t g : Nat} {a f s : Int32} (hn : n < 10) (hg : g ≤ 10) (ht : ∀ P : Int32 → Prop, P (nI t) → wpX_takenBy P a) (hle : t ≤ g) (h : post (nI (g + 1 - t)) (nI (n + 1), nI (g + 1 - t), ph, nd, inp, bK, bF, bS, bL, upd dK n a, upd dF n f, upd dS n s, st, sv, sn, sb, vb, pl)) : wpX_append post (nI n, nI g, ph, nd, inp, bK, bF, bS, bL, dK, dF, dS, st, sv, sn, sb, vb, pl) a f s := by
  unfold wpX_append
  have cn : (nI n).toNatClampNeg = n := rq_cl (by omega)
  have ni : vp_in (nI n) 10 := vp_in_nI hn (by omega)
  have e : nI g + (1 - nI t) = nI (g + 1 - t) := by
    rw [← pk_sub (by omega), ← nI_1, Int32.sub_eq_add_neg, Int32.sub_eq_add_neg, Int32.add_assoc]
  refine br_t (nI_lt (b := 10) hn (by omega)) (ht _ (br_t (nI_le hle (by omega)) ?_))
  refine And.intro ni (nm_r (e' := upd dK n a) (by rw [cn]) (And.intro ni (nm_r (e' := upd dF n f) (by rw [cn]) (And.intro ni (nm_r (e' := upd dS n s) (by rw [cn]) ?_)))))
  exact nm_r (e' := nI (n + 1)) (nI_1 n) (nm_r e h)
theorem rq_xAppB {post : Int32 → SX → Prop} {n t g : Nat} {a f s : Int32} (hn : n < 10) (ht2 : t ≤ 10) (ht : ∀ P : Int32 → Prop, P (nI t) → wpX_takenBy P a) (hlt : g < t) (h : post (-3) (nI n, nI g, ph, nd, inp, bK, bF, bS, bL, dK, dF, dS, st, sv, sn, sb, vb, pl)) : wpX_append post (nI n, nI g, ph, nd, inp, bK, bF, bS, bL, dK, dF, dS, st, sv, sn, sb, vb, pl) a f s := by
  unfold wpX_append
  exact br_t (nI_lt (b := 10) hn (by omega)) (ht _ (br_f (nI_ge hlt (by omega)) h))
theorem rq_xAppF {post : Int32 → SX → Prop} {a f s : Int32} (h : post (-2) (nI 10, dH, ph, nd, inp, bK, bF, bS, bL, dK, dF, dS, st, sv, sn, sb, vb, pl)) : wpX_append post (nI 10, dH, ph, nd, inp, bK, bF, bS, bL, dK, dF, dS, st, sv, sn, sb, vb, pl) a f s := by
  unfold wpX_append
  exact br_f (by decide) h
theorem rq_yApp {post : Int32 → SY → Prop} {n : Nat} {b f s w g : Int32} (hn : n < 10) (hz : sz 8 = nI n) (hw : hY + w = g) (h : post g (g, tp, inp, upd kd (80 + n) b, upd fi (80 + n) f, upd se (80 + n) s, upd sz 8 (nI (n + 1)), pl, vl, st, ns, ov, ok)) : wpY_append post (hY, tp, inp, kd, fi, se, sz, pl, vl, st, ns, ov, ok) b f s w := by
  unfold wpY_append
  have cn : (nI (80 + n)).toNatClampNeg = 80 + n := rq_cl (by omega)
  have ni : vp_in (nI (80 + n)) 90 := vp_in_nI (by omega) (by omega)
  refine nm_r (e' := nI (80 + n)) (by rw [hz]; exact nI_add 80 n) ?_
  refine And.intro ni (nm_r (e' := upd kd (80 + n) b) (by rw [cn]) (And.intro ni (nm_r (e' := upd fi (80 + n) f) (by rw [cn]) (And.intro ni (nm_r (e' := upd se (80 + n) s) (by rw [cn]) ?_)))))
  exact nm_r (e' := upd sz 8 (nI (n + 1))) (by rw [hz, nI_1]) (nm_r hw h)
/-- a token of kind a, in the reference b, that takes t numbers off: full; too low a pile; or appended on both sides -/
theorem rq_appAll {k t : Nat} {a b f s w : Int32} (ht2 : t ≤ 10) (ht : ∀ P : Int32 → Prop, P (nI t) → wpX_takenBy P a)
    (hT : ∀ g, t ≤ g → rq_T a b f s g (g + 1 - t)) (hw : ∀ g, t ≤ g → nI g + w = nI (g + 1 - t))
    (hB : rq_Bod bK bL kd fi se sz) (hD : rq_Dra dL dH dK kd fi se sz) (hO : rq_Opd bF bS dF dS fi se) :
    (sz 8 = 10 ∧ (∀ P : Int32 → SX → Prop, P (-2) (dL, dH, ph, nd, inp, bK, bF, bS, bL, dK, dF, dS, st, sv, sn, sb, vb, pl) → wpX_append P (dL, dH, ph, nd, inp, bK, bF, bS, bL, dK, dF, dS, st, sv, sn, sb, vb, pl) a f s)) ∨
    (¬ sz 8 = 10 ∧ ∃ g, dH = nI g ∧ g ≤ 10 ∧ g < t ∧ (∀ P : Int32 → SX → Prop, P (-3) (dL, dH, ph, nd, inp, bK, bF, bS, bL, dK, dF, dS, st, sv, sn, sb, vb, pl) → wpX_append P (dL, dH, ph, nd, inp, bK, bF, bS, bL, dK, dF, dS, st, sv, sn, sb, vb, pl) a f s)) ∨
    (¬ sz 8 = 10 ∧ ∃ g, dH = nI g ∧ g ≤ 10 ∧ t ≤ g ∧ ∃ (r : Int32) (u' : SX) (v' : SY), i_Rel k u' v' ∧
      (∀ P : Int32 → SX → Prop, P r u' → wpX_append P (dL, dH, ph, nd, inp, bK, bF, bS, bL, dK, dF, dS, st, sv, sn, sb, vb, pl) a f s) ∧ (∀ P : Int32 → SY → Prop, P r v' → wpY_append P (dH, tp, inp, kd, fi, se, sz, pl, vl, st, ns, ov, ok) b f s w)) := by
  obtain ⟨n, h, hn, rfl, hz, rfl, H⟩ := hD
  have hle := rq_B_le H n (Nat.le_refl n)
  by_cases c : n = 10
  · subst c
    exact Or.inl ⟨hz, fun P hP => rq_xAppF hP⟩
  · have hn' : n < 10 := by omega
    have z : ¬ sz 8 = 10 := by
      rw [hz]
      exact fun y => c ((nI_eq (a := n) (b := 10) (by omega) (by omega)).mp y)
    by_cases c2 : h n < t
    · exact Or.inr (Or.inl ⟨z, h n, rfl, by omega, c2, fun P hP => rq_xAppB hn' ht2 ht c2 hP⟩)
    · have c3 : t ≤ h n := by omega
      obtain ⟨hB', hD', hO'⟩ := rq_app hn' hB hO H (hT (h n) c3)
      exact Or.inr (Or.inr ⟨z, h n, rfl, by omega, c3, nI (h n + 1 - t), _, _, rq_mk (ph := ph) (nd := nd) (tp := tp) (inp := inp) (st := st) (sv := sv) (sn := sn) (sb := sb) (vb := vb) (pl := pl) (vl := vl) (ns := ns) (ov := ov) (ok := ok) hB' hD' hO', fun P hP => rq_xApp hn' (by omega) ht c3 hP, fun P hP => rq_yApp hn' hz (hw (h n) c3) hP⟩)
end RQC
theorem rq_tk0a (P : Int32 → Prop) (h : P (nI 0)) : wpX_takenBy P 4 := br_t (by decide) (br_f (by decide) h)
theorem rq_tk0b (P : Int32 → Prop) (h : P (nI 0)) : wpX_takenBy P 5 := br_t (by decide) (br_f (by decide) h)
theorem rq_tk0c (P : Int32 → Prop) (h : P (nI 0)) : wpX_takenBy P 6 := br_t (by decide) (br_f (by decide) h)
theorem rq_tk1 (P : Int32 → Prop) (h : P (nI 1)) : wpX_takenBy P 7 := br_t (by decide) (br_t rfl h)
theorem rq_tk2 {p : Nat} (hp : p < 4) (P : Int32 → Prop) (h : P (nI 2)) : wpX_takenBy P (nI p) := br_f (nI_nlt (a := 3) (by omega) (by omega)) h
theorem rq_w1 (g : Nat) (_ : 0 ≤ g) : nI g + 1 = nI (g + 1 - 0) := nI_1 g
theorem rq_w0 (g : Nat) (h : 1 ≤ g) : nI g + 0 = nI (g + 1 - 1) := by rw [Int32.add_zero]; rfl
theorem rq_wm (g : Nat) (h : 2 ≤ g) : nI g + (-1) = nI (g + 1 - 2) := by
  obtain ⟨m, rfl⟩ : ∃ m, g = m + 1 := ⟨g - 1, by omega⟩
  rw [pk_m1]
  exact congrArg nI (by omega)
theorem i_vc_set {k : Nat} {u : SX} {v : SY} (I : i_Rel k u v) (hk : k + 3 ≤ 1536) (v1 : Int32) (v2 : Int32) : wpX_set (fun r u' => wpY_set (fun r' v' => r' = r ∧ i_Rel (k + 3) u' v') v v1 v2) u v1 v2 := by
  obtain ⟨dL, dH, ph, nd, tp, inp, bK, bF, bS, bL, dK, dF, dS, st, sv, sn, sb, vb, pl, kd, fi, se, sz, vl, ns, ov, ok, rfl, rfl, hB, hD, hO⟩ := I
  unfold wpX_set
  rcases rq_inC v1 with ⟨j, hj, rfl⟩ | ⟨hX, hY⟩
  · have ji : vp_in (nI j) 6 := vp_in_nI hj (by omega)
    refine rq_xIn hj (br_f (by decide) (And.intro ji ?_))
    by_cases c : inp (nI j).toNatClampNeg = v2
    · refine br_t c ?_
      unfold wpY_set
      refine rq_yIn hj (br_f (by decide) (And.intro ji (br_t c ?_)))
      unfold wY_set_25
      exact And.intro ji (nm_r (e' := inp) (rq_us c) ⟨rfl, rq_mk hB hD hO⟩)
    · refine br_f c (And.intro ji (nm_e ?_))
      unfold wpY_set
      refine rq_yIn hj (br_f (by decide) (And.intro ji (br_f c ?_)))
      unfold wY_set_25
      exact And.intro ji (nm_e ⟨rfl, rq_mk hB hD hO⟩)
  · refine hX _ (br_t rfl ?_)
    unfold wpY_set
    exact hY _ _ (br_t rfl ⟨rfl, rq_mk hB hD hO⟩)
theorem i_vc_get {k : Nat} {u : SX} {v : SY} (I : i_Rel k u v) (hk : k + 3 ≤ 1536) (v1 : Int32) : wpX_get (fun r => wpY_get (fun r' => r' = r ∧ i_Rel (k + 3) u v) v v1) u v1 := by
  have J := I
  obtain ⟨dL, dH, ph, nd, tp, inp, bK, bF, bS, bL, dK, dF, dS, st, sv, sn, sb, vb, pl, kd, fi, se, sz, vl, ns, ov, ok, rfl, rfl, hB, hD, hO⟩ := I
  unfold wpX_get
  rcases rq_inC v1 with ⟨j, hj, rfl⟩ | ⟨hX, hY⟩
  · have ji : vp_in (nI j) 6 := vp_in_nI hj (by omega)
    refine rq_xIn hj (br_f (by decide) (And.intro ji ?_))
    unfold wpY_get
    exact rq_yIn hj (br_f (by decide) (And.intro ji ⟨rfl, J⟩))
  · refine hX _ (br_t rfl ?_)
    unfold wpY_get
    exact hY _ _ (br_t rfl ⟨rfl, J⟩)
end
section
/-! the tokens -/
theorem i_vc_num {k : Nat} {u : SX} {v : SY} (I : i_Rel k u v) (hk : k + 3 ≤ 1536) (v1 : Int32) : wpX_num (fun r u' => wpY_num (fun r' v' => r' = r ∧ i_Rel (k + 3) u' v') v v1) u v1 := by
  obtain ⟨dL, dH, ph, nd, tp, inp, bK, bF, bS, bL, dK, dF, dS, st, sv, sn, sb, vb, pl, kd, fi, se, sz, vl, ns, ov, ok, rfl, rfl, hB, hD, hO⟩ := I
  unfold wpX_num
  rcases rq_appAll (k := k + 3) (ph := ph) (nd := nd) (tp := tp) (inp := inp) (st := st) (sv := sv) (sn := sn) (sb := sb) (vb := vb) (pl := pl) (vl := vl) (ns := ns) (ov := ov) (ok := ok) (t := 0) (a := 4) (b := 0) (f := v1) (s := 0) (w := 1) (by omega) rq_tk0a (fun g _ => Or.inl ⟨rfl, rfl, rfl⟩) rq_w1 hB hD hO with ⟨z, hX⟩ | ⟨z, g, e, _, lt, _⟩ | ⟨z, g, e, _, le, r, u', v', R, hX, hY⟩
  · refine hX _ ?_
    unfold wpY_num
    exact br_t z ⟨rfl, rq_mk hB hD hO⟩
  · exact absurd lt (Nat.not_lt_zero g)
  · obtain ⟨x0, x1, x2, x3, x4, x5, x6, x7, x8, x9, x10, x11, x12, x13, x14, x15, x16, x17⟩ := u'
    obtain ⟨y0, y1, y2, y3, y4, y5, y6, y7, y8, y9, y10, y11, y12⟩ := v'
    refine hX _ ?_
    unfold wpY_num
    exact br_f z (hY _ ⟨rfl, R⟩)
theorem i_vc_input {k : Nat} {u : SX} {v : SY} (I : i_Rel k u v) (hk : k + 3 ≤ 1536) (v1 : Int32) : wpX_input (fun r u' => wpY_input (fun r' v' => r' = r ∧ i_Rel (k + 3) u' v') v v1) u v1 := by
  obtain ⟨dL, dH, ph, nd, tp, inp, bK, bF, bS, bL, dK, dF, dS, st, sv, sn, sb, vb, pl, kd, fi, se, sz, vl, ns, ov, ok, rfl, rfl, hB, hD, hO⟩ := I
  unfold wpX_input
  rcases rq_inC v1 with ⟨j, hj, rfl⟩ | ⟨hX, hY⟩
  · refine rq_xIn hj (br_f (by decide) ?_)
    rcases rq_appAll (k := k + 3) (ph := ph) (nd := nd) (tp := tp) (inp := inp) (st := st) (sv := sv) (sn := sn) (sb := sb) (vb := vb) (pl := pl) (vl := vl) (ns := ns) (ov := ov) (ok := ok) (t := 0) (a := 5) (b := 1) (f := nI j) (s := 0) (w := 1) (by omega) rq_tk0b (fun g _ => Or.inr (Or.inl ⟨rfl, rfl, ⟨j, hj, rfl⟩, rfl⟩)) rq_w1 hB hD hO with ⟨z, hX⟩ | ⟨z, g, e, _, lt, _⟩ | ⟨z, g, e, _, le, r, u', v', R, hX, hY⟩
    · refine hX _ ?_
      unfold wpY_input
      exact rq_yIn hj (br_f (by decide) (br_t z ⟨rfl, rq_mk hB hD hO⟩))
    · exact absurd lt (Nat.not_lt_zero g)
    · obtain ⟨x0, x1, x2, x3, x4, x5, x6, x7, x8, x9, x10, x11, x12, x13, x14, x15, x16, x17⟩ := u'
      obtain ⟨y0, y1, y2, y3, y4, y5, y6, y7, y8, y9, y10, y11, y12⟩ := v'
      refine hX _ ?_
      unfold wpY_input
      exact rq_yIn hj (br_f (by decide) (br_f z (hY _ ⟨rfl, R⟩)))
  · refine hX _ (br_t rfl ?_)
    unfold wpY_input
    exact hY _ _ (br_t rfl ⟨rfl, rq_mk hB hD hO⟩)
theorem i_vc_query {k : Nat} {u : SX} {v : SY} (I : i_Rel k u v) (hk : k + 3 ≤ 1536) (v1 : Int32) : wpX_query (fun r u' => wpY_query (fun r' v' => r' = r ∧ i_Rel (k + 3) u' v') v v1) u v1 := by
  obtain ⟨dL, dH, ph, nd, tp, inp, bK, bF, bS, bL, dK, dF, dS, st, sv, sn, sb, vb, pl, kd, fi, se, sz, vl, ns, ov, ok, rfl, rfl, hB, hD, hO⟩ := I
  unfold wpX_query
  rcases rq_quC v1 with ⟨j, hj, rfl⟩ | ⟨hX, hY⟩
  · refine rq_xQu hj (br_f (by decide) ?_)
    rcases rq_appAll (k := k + 3) (ph := ph) (nd := nd) (tp := tp) (inp := inp) (st := st) (sv := sv) (sn := sn) (sb := sb) (vb := vb) (pl := pl) (vl := vl) (ns := ns) (ov := ov) (ok := ok) (t := 0) (a := 6) (b := 2) (f := nI j) (s := 0) (w := 1) (by omega) rq_tk0c (fun g _ => Or.inr (Or.inr (Or.inl ⟨rfl, rfl, ⟨j, hj, rfl⟩, rfl⟩))) rq_w1 hB hD hO with ⟨z, hX⟩ | ⟨z, g, e, _, lt, _⟩ | ⟨z, g, e, _, le, r, u', v', R, hX, hY⟩
    · refine hX _ ?_
      unfold wpY_query
      exact rq_yQu hj (br_f (by decide) (br_t z ⟨rfl, rq_mk hB hD hO⟩))
    · exact absurd lt (Nat.not_lt_zero g)
    · obtain ⟨x0, x1, x2, x3, x4, x5, x6, x7, x8, x9, x10, x11, x12, x13, x14, x15, x16, x17⟩ := u'
      obtain ⟨y0, y1, y2, y3, y4, y5, y6, y7, y8, y9, y10, y11, y12⟩ := v'
      refine hX _ ?_
      unfold wpY_query
      exact rq_yQu hj (br_f (by decide) (br_f z (hY _ ⟨rfl, R⟩)))
  · refine hX _ (br_t rfl ?_)
    unfold wpY_query
    exact hY _ _ (br_t rfl ⟨rfl, rq_mk hB hD hO⟩)
theorem i_vc_choose {k : Nat} {u : SX} {v : SY} (I : i_Rel k u v) (hk : k + 3 ≤ 1536) (v1 : Int32) (v2 : Int32) : wpX_choose (fun r u' => wpY_choose (fun r' v' => r' = r ∧ i_Rel (k + 3) u' v') v v1 v2) u v1 v2 := by
  obtain ⟨dL, dH, ph, nd, tp, inp, bK, bF, bS, bL, dK, dF, dS, st, sv, sn, sb, vb, pl, kd, fi, se, sz, vl, ns, ov, ok, rfl, rfl, hB, hD, hO⟩ := I
  unfold wpX_choose
  rcases rq_quC v1 with ⟨j, hj, rfl⟩ | ⟨hX, hY⟩
  · refine rq_xQu hj (br_f (by decide) ?_)
    rcases rq_quC v2 with ⟨j2, hj2, rfl⟩ | ⟨hX, hY⟩
    · refine rq_xQu hj2 (br_f (by decide) ?_)
      rcases rq_appAll (k := k + 3) (ph := ph) (nd := nd) (tp := tp) (inp := inp) (st := st) (sv := sv) (sn := sn) (sb := sb) (vb := vb) (pl := pl) (vl := vl) (ns := ns) (ov := ov) (ok := ok) (t := 1) (a := 7) (b := 3) (f := nI j) (s := nI j2) (w := 0) (by omega) rq_tk1 (fun g hg => Or.inr (Or.inr (Or.inr (Or.inl ⟨rfl, rfl, ⟨j, hj, rfl⟩, ⟨j2, hj2, rfl⟩, hg, rfl⟩)))) rq_w0 hB hD hO with ⟨z, hX⟩ | ⟨z, g, rfl, g10, lt, hX⟩ | ⟨z, g, rfl, g10, le, r, u', v', R, hX, hY⟩
      · refine hX _ ?_
        unfold wpY_choose
        exact rq_yQu hj (br_f (by decide) (rq_yQu hj2 (br_f (by decide) (br_t z ⟨rfl, rq_mk hB hD hO⟩))))
      · obtain rfl : g = 0 := by omega
        refine hX _ ?_
        unfold wpY_choose
        exact rq_yQu hj (br_f (by decide) (rq_yQu hj2 (br_f (by decide) (br_f z (br_t rfl ⟨rfl, rq_mk hB hD hO⟩)))))
      · obtain ⟨x0, x1, x2, x3, x4, x5, x6, x7, x8, x9, x10, x11, x12, x13, x14, x15, x16, x17⟩ := u'
        obtain ⟨y0, y1, y2, y3, y4, y5, y6, y7, y8, y9, y10, y11, y12⟩ := v'
        refine hX _ ?_
        unfold wpY_choose
        exact rq_yQu hj (br_f (by decide) (rq_yQu hj2 (br_f (by decide) (br_f z (br_f (nI_ne0 le (by omega)) (hY _ ⟨rfl, R⟩))))))
    · refine hX _ (br_t rfl ?_)
      unfold wpY_choose
      exact rq_yQu hj (br_f (by decide) (hY _ _ (br_t rfl ⟨rfl, rq_mk hB hD hO⟩)))
  · refine hX _ (br_t rfl ?_)
    unfold wpY_choose
    exact hY _ _ (br_t rfl ⟨rfl, rq_mk hB hD hO⟩)
theorem i_vc_apply {k : Nat} {u : SX} {v : SY} (I : i_Rel k u v) (hk : k + 3 ≤ 1536) (v1 : Int32) : wpX_apply (fun r u' => wpY_apply (fun r' v' => r' = r ∧ i_Rel (k + 3) u' v') v v1) u v1 := by
  obtain ⟨dL, dH, ph, nd, tp, inp, bK, bF, bS, bL, dK, dF, dS, st, sv, sn, sb, vb, pl, kd, fi, se, sz, vl, ns, ov, ok, rfl, rfl, hB, hD, hO⟩ := I
  unfold wpX_apply
  by_cases c : v1 < 0
  · refine br_t c ?_
    unfold wpY_apply
    exact br_t c ⟨rfl, rq_mk hB hD hO⟩
  · refine br_f c ?_
    obtain ⟨p, hp0, rfl⟩ := nI_of c
    by_cases hp : p < 4
    · have l3 : ¬ (3 : Int32) < nI p := nI_nlt (a := 3) (by omega) (by omega)
      have l3' : nI p ≤ 3 := nI_le (b := 3) (by omega) (by omega)
      refine br_f l3 ?_
      rcases rq_appAll (k := k + 3) (ph := ph) (nd := nd) (tp := tp) (inp := inp) (st := st) (sv := sv) (sn := sn) (sb := sb) (vb := vb) (pl := pl) (vl := vl) (ns := ns) (ov := ov) (ok := ok) (t := 2) (a := nI p) (b := 4 + nI p) (f := 0) (s := 0) (w := -1) (by omega) (rq_tk2 hp) (fun g hg => Or.inr (Or.inr (Or.inr (Or.inr ⟨p, hp, rfl, nI_add 4 p, hg, by omega⟩)))) rq_wm hB hD hO with ⟨z, hX⟩ | ⟨z, g, rfl, g10, lt, hX⟩ | ⟨z, g, rfl, g10, le, r, u', v', R, hX, hY⟩
      · refine hX _ ?_
        unfold wpY_apply
        exact br_f c (br_t l3' (br_t z ⟨rfl, rq_mk hB hD hO⟩))
      · refine hX _ ?_
        unfold wpY_apply
        exact br_f c (br_t l3' (br_f z (br_f (nI_ge (b := 2) lt (by omega)) ⟨rfl, rq_mk hB hD hO⟩)))
      · obtain ⟨x0, x1, x2, x3, x4, x5, x6, x7, x8, x9, x10, x11, x12, x13, x14, x15, x16, x17⟩ := u'
        obtain ⟨y0, y1, y2, y3, y4, y5, y6, y7, y8, y9, y10, y11, y12⟩ := v'
        refine hX _ ?_
        unfold wpY_apply
        exact br_f c (br_t l3' (br_f z (br_t (nI_le (a := 2) le (by omega)) (hY _ ⟨rfl, R⟩))))
    · refine br_t (nI_lt (a := 3) (by omega) hp0) ?_
      unfold wpY_apply
      exact br_f c (br_f (nI_ge (a := 3) (by omega) hp0) ⟨rfl, rq_mk hB hD hO⟩)
end
section
/-! scrap, drafted, finish, the constructors -/
section RQF
variable {dL dH ph nd hY tp : Int32} {inp bK bF bS bL dK dF dS st sv sn sb vb pl kd fi se sz vl ns ov ok : Nat → Int32}
theorem rq_xFin {post : Int32 → SX → Prop} {n q : Nat} (hq : q < 8) (hn : n ≤ 10)
    (h : post (nI n) (0, 0, ph, nd, inp, rq_cp bK dK (10 * q) n, rq_cp bF dF (10 * q) n, rq_cp bS dS (10 * q) n, upd bL q (nI n), dK, dF, dS, st, sv, sn, sb, vb, pl)) :
    ∀ d i, i + d = n → wX_finish_33 post (nI q) (nI (10 * q)) (nI n) dL dH ph nd (d + 1) (nI i) inp (rq_cp bK dK (10 * q) i) (rq_cp bF dF (10 * q) i) (rq_cp bS dS (10 * q) i) bL dK dF dS st sv sn sb vb pl := by
  have cq : (nI q).toNatClampNeg = q := rq_cl (by omega)
  have qi : vp_in (nI q) 8 := vp_in_nI hq (by omega)
  intro d
  induction d with
  | zero =>
    intro i hi
    obtain rfl : i = n := by omega
    refine br_t (Int32.le_refl _) (And.intro qi (nm_r (e' := upd bL q (nI i)) (by rw [cq]) ?_))
    unfold wpX_scrap
    exact h
  | succ d ih =>
    intro i hi
    have ci : (nI i).toNatClampNeg = i := rq_cl (by omega)
    have cw : (nI (10 * q) + nI i).toNatClampNeg = 10 * q + i := by rw [nI_add]; exact rq_cl (by omega)
    have ii : vp_in (nI i) 10 := vp_in_nI (by omega) (by omega)
    have wi : vp_in (nI (10 * q) + nI i) 80 := by rw [nI_add]; exact vp_in_nI (by omega) (by omega)
    refine br_f (nI_ge (by omega) (by omega)) ?_
    refine And.intro ii (And.intro wi (nm_r (e' := rq_cp bK dK (10 * q) (i + 1)) (by rw [cw, ci, rq_cp_s]) ?_))
    refine And.intro ii (And.intro wi (nm_r (e' := rq_cp bF dF (10 * q) (i + 1)) (by rw [cw, ci, rq_cp_s]) ?_))
    refine And.intro ii (And.intro wi (nm_r (e' := rq_cp bS dS (10 * q) (i + 1)) (by rw [cw, ci, rq_cp_s]) ?_))
    exact nm_r (e' := nI (i + 1)) (nI_1 i) (ih (i + 1) (by omega))
theorem rq_ycp {a : Nat → Int32} {q n i : Nat} (hq : q < 8) (hn : n ≤ 10) (hi : i < n) : upd (rq_cp a (fun t => a (80 + t)) (10 * q) i) (10 * q + i) (rq_cp a (fun t => a (80 + t)) (10 * q) i (80 + i)) = rq_cp a (fun t => a (80 + t)) (10 * q) (i + 1) := by
  have e : rq_cp a (fun t => a (80 + t)) (10 * q) i (80 + i) = (fun t => a (80 + t)) i := rq_cp_out (by omega)
  rw [e]
  exact rq_cp_s
theorem rq_yFin {post : Int32 → SY → Prop} {n q : Nat} (hq : q < 8) (hn : n ≤ 10) (hz : sz 8 = nI n)
    (h : post (nI n) (0, tp, inp, rq_cp kd (fun t => kd (80 + t)) (10 * q) n, rq_cp fi (fun t => fi (80 + t)) (10 * q) n, rq_cp se (fun t => se (80 + t)) (10 * q) n, upd (upd sz q (nI n)) 8 0, pl, vl, st, ns, ov, ok)) :
    ∀ d i, i + d = n → wY_finish_23 post (nI q) hY tp (d + 1) (nI i) inp (rq_cp kd (fun t => kd (80 + t)) (10 * q) i) (rq_cp fi (fun t => fi (80 + t)) (10 * q) i) (rq_cp se (fun t => se (80 + t)) (10 * q) i) sz pl vl st ns ov ok := by
  have cq : (nI q).toNatClampNeg = q := rq_cl (by omega)
  have qi : vp_in (nI q) 9 := vp_in_nI (by omega) (by omega)
  intro d
  induction d with
  | zero =>
    intro i hi
    obtain rfl : i = n := by omega
    refine br_t (by rw [hz]; exact Int32.le_refl _) (And.intro qi (nm_r (e' := upd sz q (nI i)) (by rw [cq, hz]) ?_))
    unfold wpY_scrap
    refine nm_e (And.intro qi ?_)
    rw [cq, pk_un (show q ≠ 8 by omega), pk_us]
    exact h
  | succ d ih =>
    intro i hi
    have cs : (80 + nI i).toNatClampNeg = 80 + i := by
      rw [show (80 : Int32) = nI 80 from rfl, nI_add]
      exact rq_cl (by omega)
    have cw : (10 * nI q + nI i).toNatClampNeg = 10 * q + i := by rw [rq_mulL, nI_add]; exact rq_cl (by omega)
    have si : vp_in (80 + nI i) 90 := by
      rw [show (80 : Int32) = nI 80 from rfl, nI_add]
      exact vp_in_nI (by omega) (by omega)
    have wi : vp_in (10 * nI q + nI i) 90 := by rw [rq_mulL, nI_add]; exact vp_in_nI (by omega) (by omega)
    refine br_f (by rw [hz]; exact nI_ge (by omega) (by omega)) ?_
    refine And.intro si (And.intro wi (nm_r (e' := rq_cp kd (fun t => kd (80 + t)) (10 * q) (i + 1)) (by rw [cw, cs]; exact rq_ycp hq hn (by omega)) ?_))
    refine And.intro si (And.intro wi (nm_r (e' := rq_cp fi (fun t => fi (80 + t)) (10 * q) (i + 1)) (by rw [cw, cs]; exact rq_ycp hq hn (by omega)) ?_))
    refine And.intro si (And.intro wi (nm_r (e' := rq_cp se (fun t => se (80 + t)) (10 * q) (i + 1)) (by rw [cw, cs]; exact rq_ycp hq hn (by omega)) ?_))
    exact nm_r (e' := nI (i + 1)) (nI_1 i) (ih (i + 1) (by omega))
theorem rq_xFinish {post : Int32 → SX → Prop} {n q : Nat} (hq : q < 8) (hn : n ≤ 10) (h1 : dH = 1)
    (h : post (nI n) (0, 0, ph, nd, inp, rq_cp bK dK (10 * q) n, rq_cp bF dF (10 * q) n, rq_cp bS dS (10 * q) n, upd bL q (nI n), dK, dF, dS, st, sv, sn, sb, vb, pl)) :
    wpX_finish post (nI n, dH, ph, nd, inp, bK, bF, bS, bL, dK, dF, dS, st, sv, sn, sb, vb, pl) (nI q) := by
  unfold wpX_finish
  refine rq_xQu hq (br_f (by decide) (br_t h1 (nm_r (e' := nI (10 * q)) (rq_mulR q) ⟨n + 1, ?_⟩)))
  have g := rq_xFin (dL := nI n) (dH := dH) hq hn h n 0 (by omega)
  rw [rq_cp_0, rq_cp_0, rq_cp_0] at g
  exact g
theorem rq_yFinish {post : Int32 → SY → Prop} {n q : Nat} (hq : q < 8) (hn : n ≤ 10) (hz : sz 8 = nI n) (h1 : hY = 1)
    (h : post (nI n) (0, tp, inp, rq_cp kd (fun t => kd (80 + t)) (10 * q) n, rq_cp fi (fun t => fi (80 + t)) (10 * q) n, rq_cp se (fun t => se (80 + t)) (10 * q) n, upd (upd sz q (nI n)) 8 0, pl, vl, st, ns, ov, ok)) :
    wpY_finish post (hY, tp, inp, kd, fi, se, sz, pl, vl, st, ns, ov, ok) (nI q) := by
  unfold wpY_finish
  refine rq_yQu hq (br_f (by decide) (br_t h1 ⟨n + 1, ?_⟩))
  have g := rq_yFin (hY := hY) hq hn hz h n 0 (by omega)
  rw [rq_cp_0, rq_cp_0, rq_cp_0] at g
  exact g
theorem rq_xInit {P : SX → Prop} (h : ∀ (bK bL : Nat → Int32), (∀ k, k < 8 → bK (10 * k) = 4 ∧ bL k = 1) → P (dL, dH, ph, nd, inp, bK, bF, bS, bL, dK, dF, dS, st, sv, sn, sb, vb, pl)) :
    ∀ d q, q + d = 8 → ∀ (bK bL : Nat → Int32), (∀ k, k < q → bK (10 * k) = 4 ∧ bL k = 1) → wX_init_118 P dL dH ph nd (d + 1) (nI q) inp bK bF bS bL dK dF dS st sv sn sb vb pl := by
  intro d
  induction d with
  | zero =>
    intro q hq bK bL h0
    obtain rfl : q = 8 := by omega
    exact br_t (by decide) (h bK bL h0)
  | succ d ih =>
    intro q hq bK bL h0
    have cq : (nI q).toNatClampNeg = q := rq_cl (by omega)
    have cw : (nI q * 10).toNatClampNeg = 10 * q := by rw [rq_mulR]; exact rq_cl (by omega)
    have wi : vp_in (nI q * 10) 80 := by rw [rq_mulR]; exact vp_in_nI (by omega) (by omega)
    have qi : vp_in (nI q) 8 := vp_in_nI (by omega) (by omega)
    refine br_f (nI_ge (b := 8) (by omega) (by omega)) ?_
    refine And.intro wi (nm_r (e' := upd bK (10 * q) 4) (by rw [cw]) (And.intro qi (nm_r (e' := upd bL q 1) (by rw [cq]) ?_)))
    refine nm_r (e' := nI (q + 1)) (nI_1 q) (ih (q + 1) (by omega) _ _ fun k hk => ?_)
    by_cases e : k = q
    · subst e
      exact ⟨pk_us, pk_us⟩
    · rw [pk_un e, pk_un (show 10 * k ≠ 10 * q by omega)]
      exact h0 k (by omega)
theorem rq_yInit {P : SY → Prop} (h : ∀ (sz : Nat → Int32), (∀ k, k < 8 → sz k = 1) → sz 8 = 0 → P (hY, tp, inp, kd, fi, se, sz, pl, vl, st, ns, ov, ok)) :
    ∀ d q, q + d = 8 → ∀ (sz : Nat → Int32), (∀ k, k < q → sz k = 1) → sz 8 = 0 → wY_init_94 P hY tp (d + 1) (nI q) inp kd fi se sz pl vl st ns ov ok := by
  intro d
  induction d with
  | zero =>
    intro q hq sz h0 h8
    obtain rfl : q = 8 := by omega
    exact br_t (by decide) (h sz h0 h8)
  | succ d ih =>
    intro q hq sz h0 h8
    have cq : (nI q).toNatClampNeg = q := rq_cl (by omega)
    have qi : vp_in (nI q) 9 := vp_in_nI (by omega) (by omega)
    refine br_f (nI_ge (b := 8) (by omega) (by omega)) ?_
    refine And.intro qi (nm_r (e' := upd sz q 1) (by rw [cq]) ?_)
    refine nm_r (e' := nI (q + 1)) (nI_1 q) (ih (q + 1) (by omega) _ (fun k hk => ?_) ?_)
    · by_cases e : k = q
      · subst e
        exact pk_us
      · rw [pk_un e]
        exact h0 k (by omega)
    · rw [pk_un (by omega)]
      exact h8
end RQF
theorem i_vc0 : wpX_init (fun u => wpY_init (fun v => i_Rel 0 u v)) := by
  unfold wpX_init
  refine ⟨8 + 1, rq_xInit (fun bK bL hX => ?_) 8 0 (by omega) (fun _ => 0) (fun _ => 0) (fun k hk => absurd hk (Nat.not_lt_zero k))⟩
  unfold wpY_init
  refine ⟨8 + 1, rq_yInit (fun sz hY h8 => ?_) 8 0 (by omega) (fun _ => 0) (fun k hk => absurd hk (Nat.not_lt_zero k)) rfl⟩
  refine rq_mk (fun q hq => ?_) ⟨0, fun _ => 0, by omega, rfl, h8, rfl, rfl, fun t ht => absurd ht (Nat.not_lt_zero t)⟩ ⟨fun j hj => ⟨rfl, rfl⟩, fun i hi => ⟨rfl, rfl⟩⟩
  refine ⟨1, fun t => t, by omega, by omega, (hX q hq).2, hY q hq, rfl, rfl, fun t ht => ?_⟩
  obtain rfl : t = 0 := by omega
  exact Or.inl ⟨(hX q hq).1, rfl, rfl⟩
theorem i_vc_scrap {k : Nat} {u : SX} {v : SY} (I : i_Rel k u v) (hk : k + 3 ≤ 1536) : wpX_scrap (fun u' => wpY_scrap (fun v' => i_Rel (k + 3) u' v') v) u := by
  obtain ⟨dL, dH, ph, nd, tp, inp, bK, bF, bS, bL, dK, dF, dS, st, sv, sn, sb, vb, pl, kd, fi, se, sz, vl, ns, ov, ok, rfl, rfl, hB, hD, hO⟩ := I
  unfold wpX_scrap
  unfold wpY_scrap
  exact nm_e (rq_mk (rq_Bod_sz hB) rq_Dra_0 hO)
theorem i_vc_drafted {k : Nat} {u : SX} {v : SY} (I : i_Rel k u v) (hk : k + 3 ≤ 1536) : wpX_drafted (fun r => wpY_drafted (fun r' => r' = r ∧ i_Rel (k + 3) u v) v) u := by
  have J := I
  obtain ⟨dL, dH, ph, nd, tp, inp, bK, bF, bS, bL, dK, dF, dS, st, sv, sn, sb, vb, pl, kd, fi, se, sz, vl, ns, ov, ok, rfl, rfl, hB, hD, hO⟩ := I
  obtain ⟨n, h, hn, rfl, hz, rfl, H⟩ := hD
  unfold wpX_drafted
  unfold wpY_drafted
  exact ⟨hz, J⟩
theorem i_vc_finish {k : Nat} {u : SX} {v : SY} (I : i_Rel k u v) (hk : k + 3 ≤ 1536) (v1 : Int32) : wpX_finish (fun r u' => wpY_finish (fun r' v' => r' = r ∧ i_Rel (k + 3) u' v') v v1) u v1 := by
  obtain ⟨dL, dH, ph, nd, tp, inp, bK, bF, bS, bL, dK, dF, dS, st, sv, sn, sb, vb, pl, kd, fi, se, sz, vl, ns, ov, ok, rfl, rfl, hB, hD, hO⟩ := I
  rcases rq_quC v1 with ⟨q, hq, rfl⟩ | ⟨hX, hY⟩
  · have hD0 := hD
    obtain ⟨n, h, hn, rfl, hz, rfl, H⟩ := hD
    have hle := rq_B_le H n (Nat.le_refl n)
    by_cases h1 : h n = 1
    · have e1 : nI (h n) = 1 := by rw [h1]; rfl
      obtain ⟨hB', hD', hO'⟩ := rq_fin hq hn h1 hB hO H
      exact rq_xFinish hq hn e1 (rq_yFinish hq hn hz e1 ⟨rfl, rq_mk hB' hD' hO'⟩)
    · have e1 : ¬ nI (h n) = 1 := fun y => h1 ((nI_eq (b := 1) (by omega) (by omega)).mp y)
      unfold wpX_finish
      refine rq_xQu hq (br_f (by decide) (br_f e1 ?_))
      unfold wpY_finish
      exact rq_yQu hq (br_f (by decide) (br_f e1 ⟨rfl, rq_mk hB hD0 hO⟩))
  · unfold wpX_finish
    refine hX _ (br_t rfl ?_)
    unfold wpY_finish
    exact hY _ _ (br_t rfl ⟨rfl, rq_mk hB hD hO⟩)
end
section
/-! the calls that read -/
theorem i_vc_value {k : Nat} {u : SX} {v : SY} (I : i_Rel k u v) (hk : k + 3 ≤ 1536) (v1 : Int32) : wpX_value (fun r u' => wpY_value (fun r' v' => r' = r ∧ i_Rel (k + 3) u' v') v v1) u v1 := by
  obtain ⟨dL, dH, ph, nd, tp, inp, bK, bF, bS, bL, dK, dF, dS, st, sv, sn, sb, vb, pl, kd, fi, se, sz, vl, ns, ov, ok, rfl, rfl, hB, hD, hO⟩ := I
  unfold wpX_value
  rcases rq_quC v1 with ⟨q, hq, rfl⟩ | ⟨hX, hY⟩
  · have cq : (nI q).toNatClampNeg = q := rq_cl (by omega)
    have qi : vp_in (nI q) 8 := vp_in_nI hq (by omega)
    obtain ⟨ph1, nd1, tp1, st1, sv1, sn1, pl1, vl1, ns1, hV, tX, tY⟩ := rq_all (dL := dL) (dH := dH) (ph := ph) (nd := nd) (hY := dH) (tp := tp) (inp := inp) (dK := dK) (dF := dF) (dS := dS) (st := st) (sv := sv) (sn := sn) (sb := sb) (vb := vb) (pl := pl) (vl := vl) (ns := ns) (ov := ov) (ok := ok) hB hO.1
    refine rq_xQu hq (br_f (by decide) (tX _ ?_))
    by_cases z : st1 (nI q).toNatClampNeg = 0
    · refine And.intro qi (br_t z ?_)
      unfold wpY_value
      exact rq_yQu hq (br_f (by decide) (tY _ (And.intro qi (br_t z ⟨rfl, rq_mk hB hD hO⟩))))
    · refine And.intro qi (br_f z (And.intro qi ?_))
      unfold wpY_value
      refine rq_yQu hq (br_f (by decide) (tY _ (And.intro qi (br_f z (And.intro qi ⟨?_, rq_mk hB hD hO⟩)))))
      rw [cq] at z ⊢
      exact (hV q hq z).1.symm
  · refine hX _ (br_t rfl ?_)
    unfold wpY_value
    exact hY _ _ (br_t rfl ⟨rfl, rq_mk hB hD hO⟩)
theorem i_vc_needs {k : Nat} {u : SX} {v : SY} (I : i_Rel k u v) (hk : k + 3 ≤ 1536) (v1 : Int32) : wpX_needs (fun r u' => wpY_needs (fun r' v' => r' = r ∧ i_Rel (k + 3) u' v') v v1) u v1 := by
  obtain ⟨dL, dH, ph, nd, tp, inp, bK, bF, bS, bL, dK, dF, dS, st, sv, sn, sb, vb, pl, kd, fi, se, sz, vl, ns, ov, ok, rfl, rfl, hB, hD, hO⟩ := I
  unfold wpX_needs
  rcases rq_quC v1 with ⟨q, hq, rfl⟩ | ⟨hX, hY⟩
  · have cq : (nI q).toNatClampNeg = q := rq_cl (by omega)
    have qi : vp_in (nI q) 8 := vp_in_nI hq (by omega)
    obtain ⟨ph1, nd1, tp1, st1, sv1, sn1, pl1, vl1, ns1, hV, tX, tY⟩ := rq_all (dL := dL) (dH := dH) (ph := ph) (nd := nd) (hY := dH) (tp := tp) (inp := inp) (dK := dK) (dF := dF) (dS := dS) (st := st) (sv := sv) (sn := sn) (sb := sb) (vb := vb) (pl := pl) (vl := vl) (ns := ns) (ov := ov) (ok := ok) hB hO.1
    refine rq_xQu hq (br_f (by decide) (tX _ ?_))
    by_cases z : st1 (nI q).toNatClampNeg = 0
    · refine And.intro qi (br_t z ?_)
      unfold wpY_needs
      exact rq_yQu hq (br_f (by decide) (tY _ (And.intro qi (br_t z ⟨rfl, rq_mk hB hD hO⟩))))
    · refine And.intro qi (br_f z (And.intro qi ?_))
      unfold wpY_needs
      refine rq_yQu hq (br_f (by decide) (tY _ (And.intro qi (br_f z (And.intro qi ⟨?_, rq_mk hB hD hO⟩)))))
      rw [cq] at z ⊢
      exact (hV q hq z).2.symm
  · refine hX _ (br_t rfl ?_)
    unfold wpY_needs
    exact hY _ _ (br_t rfl ⟨rfl, rq_mk hB hD hO⟩)
theorem i_vc_circular {k : Nat} {u : SX} {v : SY} (I : i_Rel k u v) (hk : k + 3 ≤ 1536) (v1 : Int32) : wpX_circular (fun r u' => wpY_circular (fun r' v' => r' = r ∧ i_Rel (k + 3) u' v') v v1) u v1 := by
  obtain ⟨dL, dH, ph, nd, tp, inp, bK, bF, bS, bL, dK, dF, dS, st, sv, sn, sb, vb, pl, kd, fi, se, sz, vl, ns, ov, ok, rfl, rfl, hB, hD, hO⟩ := I
  unfold wpX_circular
  rcases rq_quC v1 with ⟨q, hq, rfl⟩ | ⟨hX, hY⟩
  · have qi : vp_in (nI q) 8 := vp_in_nI hq (by omega)
    obtain ⟨ph1, nd1, tp1, st1, sv1, sn1, pl1, vl1, ns1, hV, tX, tY⟩ := rq_all (dL := dL) (dH := dH) (ph := ph) (nd := nd) (hY := dH) (tp := tp) (inp := inp) (dK := dK) (dF := dF) (dS := dS) (st := st) (sv := sv) (sn := sn) (sb := sb) (vb := vb) (pl := pl) (vl := vl) (ns := ns) (ov := ov) (ok := ok) hB hO.1
    refine rq_xQu hq (br_f (by decide) (tX _ ?_))
    by_cases z : st1 (nI q).toNatClampNeg = 0
    · refine And.intro qi (br_t z ?_)
      unfold wpY_circular
      exact rq_yQu hq (br_f (by decide) (tY _ (And.intro qi (br_t z ⟨rfl, rq_mk hB hD hO⟩))))
    · refine And.intro qi (br_f z ?_)
      unfold wpY_circular
      exact rq_yQu hq (br_f (by decide) (tY _ (And.intro qi (br_f z ⟨rfl, rq_mk hB hD hO⟩))))
  · refine hX _ (br_t rfl ?_)
    unfold wpY_circular
    exact hY _ _ (br_t rfl ⟨rfl, rq_mk hB hD hO⟩)
section RQT
variable {dL dH ph nd hY tp : Int32} {inp bK bF bS bL dK dF dS st sv sn sb vb pl kd fi se sz vl ns ov ok : Nat → Int32}
theorem rq_tot (hV : rq_V st sv sn vl ns) : ∀ d q, q + d = 8 → ∀ x : Int32, ∃ r : Int32,
    (∀ P : Int32 → SX → Prop, P r (dL, dH, ph, nd, inp, bK, bF, bS, bL, dK, dF, dS, st, sv, sn, sb, vb, pl) → wX_total_8 P dL dH ph nd inp bK bF bS bL dK dF dS st sv sn sb vb pl (d + 1) x (nI q)) ∧
    (∀ P : Int32 → SY → Prop, P r (hY, tp, inp, kd, fi, se, sz, pl, vl, st, ns, ov, ok) → wY_total_8 P hY tp inp kd fi se sz pl vl st ns ov ok (d + 1) x (nI q)) := by
  intro d
  induction d with
  | zero =>
    intro q hq x
    obtain rfl : q = 8 := by omega
    exact ⟨x, fun P hP => br_t (by decide) hP, fun P hP => br_t (by decide) hP⟩
  | succ d ih =>
    intro q hq x
    have cq : (nI q).toNatClampNeg = q := rq_cl (by omega)
    have qi : vp_in (nI q) 8 := vp_in_nI (by omega) (by omega)
    have g8 : ¬ (8 : Int32) ≤ nI q := nI_ge (b := 8) (by omega) (by omega)
    by_cases z : st (nI q).toNatClampNeg = 0
    · obtain ⟨r, gX, gY⟩ := ih (q + 1) (by omega) x
      exact ⟨r, fun P hP => br_f g8 (And.intro qi (br_t z (nm_r (e' := nI (q + 1)) (nI_1 q) (gX P hP)))),
        fun P hP => br_f g8 (And.intro qi (br_t z (nm_r (e' := nI (q + 1)) (nI_1 q) (gY P hP))))⟩
    · obtain ⟨r, gX, gY⟩ := ih (q + 1) (by omega) (x + (nI q + 1) * sv q)
      have z' : ¬ st q = 0 := by rw [cq] at z; exact z
      have e := (hV q (by omega) z').1
      exact ⟨r, fun P hP => br_f g8 (And.intro qi (br_f z (And.intro qi (nm_r (e' := x + (nI q + 1) * sv q) (by rw [cq]) (nm_r (e' := nI (q + 1)) (nI_1 q) (gX P hP)))))),
        fun P hP => br_f g8 (And.intro qi (br_f z (And.intro qi (nm_r (e' := x + (nI q + 1) * sv q) (by rw [cq, e]) (nm_r (e' := nI (q + 1)) (nI_1 q) (gY P hP))))))⟩
theorem rq_cir : ∀ d q, q + d = 8 → ∀ m, m < 2 ^ q → ∃ r : Int32,
    (∀ P : Int32 → SX → Prop, P r (dL, dH, ph, nd, inp, bK, bF, bS, bL, dK, dF, dS, st, sv, sn, sb, vb, pl) → wX_circulars_8 P dL dH ph nd inp bK bF bS bL dK dF dS st sv sn sb vb pl (d + 1) (nI m) (nI q)) ∧
    (∀ P : Int32 → SY → Prop, P r (hY, tp, inp, kd, fi, se, sz, pl, vl, st, ns, ov, ok) → wY_circulars_8 P hY tp inp kd fi se sz pl vl st ns ov ok (d + 1) (nI m) (nI q)) := by
  intro d
  induction d with
  | zero =>
    intro q hq m hm
    obtain rfl : q = 8 := by omega
    exact ⟨nI m, fun P hP => br_t (by decide) hP, fun P hP => br_t (by decide) hP⟩
  | succ d ih =>
    intro q hq m hm
    have qi : vp_in (nI q) 8 := vp_in_nI (by omega) (by omega)
    have g8 : ¬ (8 : Int32) ≤ nI q := nI_ge (b := 8) (by omega) (by omega)
    have hp : 2 ^ (q + 1) = 2 ^ q * 2 := Nat.pow_succ 2 q
    by_cases z : st (nI q).toNatClampNeg = 0
    · obtain ⟨b1, b2⟩ := rq_bits q (by omega) m hm
      obtain ⟨r, gX, gY⟩ := ih (q + 1) (by omega) (m + 2 ^ q) (by omega)
      exact ⟨r, fun P hP => br_f g8 (And.intro qi (br_t z (nm_r (e' := nI (m + 2 ^ q)) b1 (nm_r (e' := nI (q + 1)) (nI_1 q) (gX P hP))))),
        fun P hP => br_f g8 (And.intro qi (br_t z (nm_r (e' := nI (m + 2 ^ q)) b2 (nm_r (e' := nI (q + 1)) (nI_1 q) (gY P hP)))))⟩
    · obtain ⟨r, gX, gY⟩ := ih (q + 1) (by omega) m (by omega)
      exact ⟨r, fun P hP => br_f g8 (And.intro qi (br_f z (nm_r (e' := nI (q + 1)) (nI_1 q) (gX P hP)))),
        fun P hP => br_f g8 (And.intro qi (br_f z (nm_r (e' := nI (q + 1)) (nI_1 q) (gY P hP))))⟩
end RQT
theorem i_vc_total {k : Nat} {u : SX} {v : SY} (I : i_Rel k u v) (hk : k + 3 ≤ 1536) : wpX_total (fun r u' => wpY_total (fun r' v' => r' = r ∧ i_Rel (k + 3) u' v') v) u := by
  obtain ⟨dL, dH, ph, nd, tp, inp, bK, bF, bS, bL, dK, dF, dS, st, sv, sn, sb, vb, pl, kd, fi, se, sz, vl, ns, ov, ok, rfl, rfl, hB, hD, hO⟩ := I
  unfold wpX_total
  obtain ⟨ph1, nd1, tp1, st1, sv1, sn1, pl1, vl1, ns1, hV, tX, tY⟩ := rq_all (dL := dL) (dH := dH) (ph := ph) (nd := nd) (hY := dH) (tp := tp) (inp := inp) (dK := dK) (dF := dF) (dS := dS) (st := st) (sv := sv) (sn := sn) (sb := sb) (vb := vb) (pl := pl) (vl := vl) (ns := ns) (ov := ov) (ok := ok) hB hO.1
  obtain ⟨r, gX, gY⟩ := rq_tot (dL := dL) (dH := dH) (ph := ph1) (nd := nd1) (hY := dH) (tp := tp1) (inp := inp) (bK := bK) (bF := bF) (bS := bS) (bL := bL) (dK := dK) (dF := dF) (dS := dS) (sb := sb) (vb := vb) (pl := pl1) (kd := kd) (fi := fi) (se := se) (sz := sz) (ov := ov) (ok := ok) hV 8 0 (by omega) 0
  refine tX _ ⟨8 + 1, gX _ ?_⟩
  unfold wpY_total
  exact tY _ ⟨8 + 1, gY _ ⟨rfl, rq_mk hB hD hO⟩⟩
theorem i_vc_circulars {k : Nat} {u : SX} {v : SY} (I : i_Rel k u v) (hk : k + 3 ≤ 1536) : wpX_circulars (fun r u' => wpY_circulars (fun r' v' => r' = r ∧ i_Rel (k + 3) u' v') v) u := by
  obtain ⟨dL, dH, ph, nd, tp, inp, bK, bF, bS, bL, dK, dF, dS, st, sv, sn, sb, vb, pl, kd, fi, se, sz, vl, ns, ov, ok, rfl, rfl, hB, hD, hO⟩ := I
  unfold wpX_circulars
  obtain ⟨ph1, nd1, tp1, st1, sv1, sn1, pl1, vl1, ns1, hV, tX, tY⟩ := rq_all (dL := dL) (dH := dH) (ph := ph) (nd := nd) (hY := dH) (tp := tp) (inp := inp) (dK := dK) (dF := dF) (dS := dS) (st := st) (sv := sv) (sn := sn) (sb := sb) (vb := vb) (pl := pl) (vl := vl) (ns := ns) (ov := ov) (ok := ok) hB hO.1
  obtain ⟨r, gX, gY⟩ := rq_cir (dL := dL) (dH := dH) (ph := ph1) (nd := nd1) (hY := dH) (tp := tp1) (inp := inp) (bK := bK) (bF := bF) (bS := bS) (bL := bL) (dK := dK) (dF := dF) (dS := dS) (st := st1) (sv := sv1) (sn := sn1) (sb := sb) (vb := vb) (pl := pl1) (kd := kd) (fi := fi) (se := se) (sz := sz) (vl := vl1) (ns := ns1) (ov := ov) (ok := ok) 8 0 (by omega) 0 (by decide)
  refine tX _ ⟨8 + 1, gX _ ?_⟩
  unfold wpY_circulars
  exact tY _ ⟨8 + 1, gY _ ⟨rfl, rq_mk hB hD hO⟩⟩
end
section
/-! stirred -/
section RQS
variable {dL dH ph nd hY tp : Int32} {inp bK bF bS bL dK dF dS st sv sn sb vb pl kd fi se sz vl ns ov ok : Nat → Int32}
theorem rq_cp_z {a s : Nat → Int32} {i : Nat} : upd (rq_cp a s 0 i) i (s i) = rq_cp a s 0 (i + 1) := by
  have e := rq_cp_s (a := a) (s := s) (o := 0) (i := i)
  rw [Nat.zero_add] at e
  exact e
theorem rq_cp_i0 {a s : Nat → Int32} {n t : Nat} (h : t < n) : rq_cp a s 0 n t = s t := by
  have e := rq_cp_in (a := a) (s := s) (o := 0) h
  rw [Nat.zero_add] at e
  exact e
theorem rq_xRem {P : SX → Prop} (h : P (dL, dH, ph, nd, inp, bK, bF, bS, bL, dK, dF, dS, st, sv, sn, rq_cp sb (fun t => vp_nar .boolean (st t)) 0 8, rq_cp vb sv 0 8, pl)) :
    ∀ d q, q + d = 8 → wX_rememberSettled_2 P dL dH ph nd (d + 1) (nI q) inp bK bF bS bL dK dF dS st sv sn (rq_cp sb (fun t => vp_nar .boolean (st t)) 0 q) (rq_cp vb sv 0 q) pl := by
  intro d
  induction d with
  | zero =>
    intro q hq
    obtain rfl : q = 8 := by omega
    exact br_t (by decide) h
  | succ d ih =>
    intro q hq
    have cq : (nI q).toNatClampNeg = q := rq_cl (by omega)
    have qi : vp_in (nI q) 8 := vp_in_nI (by omega) (by omega)
    refine br_f (nI_ge (b := 8) (by omega) (by omega)) ?_
    refine And.intro qi (And.intro qi (nm_r (e' := rq_cp sb (fun t => vp_nar .boolean (st t)) 0 (q + 1)) (by rw [cq]; exact rq_cp_z) ?_))
    refine And.intro qi (And.intro qi (nm_r (e' := rq_cp vb sv 0 (q + 1)) (by rw [cq]; exact rq_cp_z) ?_))
    exact nm_r (e' := nI (q + 1)) (nI_1 q) (ih (q + 1) (by omega))
theorem rq_xRemember {P : SX → Prop} (h : P (dL, dH, ph, nd, inp, bK, bF, bS, bL, dK, dF, dS, st, sv, sn, rq_cp sb (fun t => vp_nar .boolean (st t)) 0 8, rq_cp vb sv 0 8, pl)) : wpX_rememberSettled P (dL, dH, ph, nd, inp, bK, bF, bS, bL, dK, dF, dS, st, sv, sn, sb, vb, pl) := by
  unfold wpX_rememberSettled
  have g := rq_xRem h 8 0 (by omega)
  rw [rq_cp_0, rq_cp_0] at g
  exact ⟨8 + 1, g⟩
theorem rq_yRem {post : Int32 → SY → Prop} {x1 x2 : Int32} (h : wY_stirred_16 post x1 x2 hY tp (0 + 1) (nI 8) inp kd fi se sz pl vl st ns (rq_cp ov vl 0 8) (rq_cp ok (fun t => vp_nar .boolean (st t)) 0 8)) :
    ∀ d q, q + d = 8 → wY_stirred_16 post x1 x2 hY tp (d + 1) (nI q) inp kd fi se sz pl vl st ns (rq_cp ov vl 0 q) (rq_cp ok (fun t => vp_nar .boolean (st t)) 0 q) := by
  intro d
  induction d with
  | zero =>
    intro q hq
    obtain rfl : q = 8 := by omega
    exact h
  | succ d ih =>
    intro q hq
    have cq : (nI q).toNatClampNeg = q := rq_cl (by omega)
    have qi : vp_in (nI q) 8 := vp_in_nI (by omega) (by omega)
    refine br_f (nI_ge (b := 8) (by omega) (by omega)) ?_
    refine And.intro qi (And.intro qi (nm_r (e' := rq_cp ov vl 0 (q + 1)) (by rw [cq]; exact rq_cp_z) ?_))
    refine And.intro qi (And.intro qi (nm_r (e' := rq_cp ok (fun t => vp_nar .boolean (st t)) 0 (q + 1)) (by rw [cq]; exact rq_cp_z) ?_))
    exact nm_r (e' := nI (q + 1)) (nI_1 q) (ih (q + 1) (by omega))
theorem rq_yRem0 {post : Int32 → SY → Prop} {x1 x2 : Int32} (h : wY_stirred_16 post x1 x2 hY tp (0 + 1) (nI 8) inp kd fi se sz pl vl st ns (rq_cp ov vl 0 8) (rq_cp ok (fun t => vp_nar .boolean (st t)) 0 8)) : wY_stirred_16 post x1 x2 hY tp (8 + 1) 0 inp kd fi se sz pl vl st ns ov ok := by
  have g := rq_yRem h 8 0 (by omega)
  rw [rq_cp_0, rq_cp_0] at g
  exact g
theorem rq_cnt (hC : ∀ k, k < 8 → sb k = ok k ∧ (st k = sb k → ¬ st k = 0 → sv k = vl k ∧ vb k = ov k)) :
    ∀ d q, q + d = 8 → ∀ x : Int32, ∃ r : Int32,
    (∀ P : Int32 → Prop, P r → wX_countChanged_4 P dL dH ph nd inp bK bF bS bL dK dF dS st sv sn sb vb pl (d + 1) x (nI q)) ∧
    (∀ P : Int32 → SY → Prop, P r (hY, tp, inp, kd, fi, se, sz, pl, vl, st, ns, ov, ok) → wY_stirred_83 P hY tp inp kd fi se sz pl vl st ns ov ok (d + 1) x (nI q)) := by
  intro d
  induction d with
  | zero =>
    intro q hq x
    obtain rfl : q = 8 := by omega
    exact ⟨x, fun P hP => br_t (by decide) hP, fun P hP => br_t (by decide) hP⟩
  | succ d ih =>
    intro q hq x
    have cq : (nI q).toNatClampNeg = q := rq_cl (by omega)
    have qi : vp_in (nI q) 8 := vp_in_nI (by omega) (by omega)
    have g8 : ¬ (8 : Int32) ≤ nI q := nI_ge (b := 8) (by omega) (by omega)
    obtain ⟨c1, c2⟩ := hC q (by omega)
    obtain ⟨r0, gX0, gY0⟩ := ih (q + 1) (by omega) x
    obtain ⟨r1, gX1, gY1⟩ := ih (q + 1) (by omega) (x + 1)
    by_cases e : st q = sb q
    · have e1 : st (nI q).toNatClampNeg = sb (nI q).toNatClampNeg := by rw [cq]; exact e
      have e2 : st (nI q).toNatClampNeg = ok (nI q).toNatClampNeg := by rw [cq]; exact e.trans c1
      by_cases z : st q = 0
      · have z1 : st (nI q).toNatClampNeg = 0 := by rw [cq]; exact z
        refine ⟨r0, fun P hP => br_f g8 (And.intro qi (And.intro qi (br_t e1 ?_))), fun P hP => br_f g8 (And.intro qi (And.intro qi (br_t e2 (And.intro qi (br_t z1 (nm_r (e' := nI (q + 1)) (nI_1 q) (gY0 P hP)))))))⟩
        unfold wX_countChanged_30
        exact br_t rfl (And.intro qi (br_t z1 (nm_r (e' := nI (q + 1)) (nI_1 q) (gX0 P hP))))
      · have z1 : ¬ st (nI q).toNatClampNeg = 0 := by rw [cq]; exact z
        obtain ⟨d1, d2⟩ := c2 e z
        by_cases y : sv q = vb q
        · have y1 : sv (nI q).toNatClampNeg = vb (nI q).toNatClampNeg := by rw [cq]; exact y
          have y2 : vl (nI q).toNatClampNeg = ov (nI q).toNatClampNeg := by rw [cq, ← d1, ← d2]; exact y
          refine ⟨r0, fun P hP => br_f g8 (And.intro qi (And.intro qi (br_t e1 ?_))), fun P hP => br_f g8 (And.intro qi (And.intro qi (br_t e2 (And.intro qi (br_f z1 (And.intro qi (And.intro qi (br_t y2 (nm_r (e' := nI (q + 1)) (nI_1 q) (gY0 P hP))))))))))⟩
          unfold wX_countChanged_30
          exact br_t rfl (And.intro qi (br_f z1 (And.intro qi (And.intro qi (br_t y1 (nm_r (e' := nI (q + 1)) (nI_1 q) (gX0 P hP)))))))
        · have y1 : ¬ sv (nI q).toNatClampNeg = vb (nI q).toNatClampNeg := by rw [cq]; exact y
          have y2 : ¬ vl (nI q).toNatClampNeg = ov (nI q).toNatClampNeg := by rw [cq, ← d1, ← d2]; exact y
          refine ⟨r1, fun P hP => br_f g8 (And.intro qi (And.intro qi (br_t e1 ?_))), fun P hP => br_f g8 (And.intro qi (And.intro qi (br_t e2 (And.intro qi (br_f z1 (And.intro qi (And.intro qi (br_f y2 (nm_e (nm_r (e' := nI (q + 1)) (nI_1 q) (gY1 P hP)))))))))))⟩
          unfold wX_countChanged_30
          exact br_t rfl (And.intro qi (br_f z1 (And.intro qi (And.intro qi (br_f y1 (nm_e (nm_r (e' := nI (q + 1)) (nI_1 q) (gX1 P hP))))))))
    · have e1 : ¬ st (nI q).toNatClampNeg = sb (nI q).toNatClampNeg := by rw [cq]; exact e
      have e2 : ¬ st (nI q).toNatClampNeg = ok (nI q).toNatClampNeg := by rw [cq, ← c1]; exact e
      refine ⟨r1, fun P hP => br_f g8 (And.intro qi (And.intro qi (br_f e1 ?_))), fun P hP => br_f g8 (And.intro qi (And.intro qi (br_f e2 (nm_e (nm_r (e' := nI (q + 1)) (nI_1 q) (gY1 P hP))))))⟩
      unfold wX_countChanged_30
      exact br_f (by decide) (nm_e (nm_r (e' := nI (q + 1)) (nI_1 q) (gX1 P hP)))
end RQS
theorem i_vc_stirred {k : Nat} {u : SX} {v : SY} (I : i_Rel k u v) (hk : k + 3 ≤ 1536) (v1 : Int32) (v2 : Int32) : wpX_stirred (fun r u' => wpY_stirred (fun r' v' => r' = r ∧ i_Rel (k + 3) u' v') v v1 v2) u v1 v2 := by
  obtain ⟨dL, dH, ph, nd, tp, inp, bK, bF, bS, bL, dK, dF, dS, st, sv, sn, sb, vb, pl, kd, fi, se, sz, vl, ns, ov, ok, rfl, rfl, hB, hD, hO⟩ := I
  unfold wpX_stirred
  rcases rq_inC v1 with ⟨j, hj, rfl⟩ | ⟨hX, hY⟩
  · have ji : vp_in (nI j) 6 := vp_in_nI hj (by omega)
    obtain ⟨ph1, nd1, tp1, st1, sv1, sn1, pl1, vl1, ns1, hV1, tX, tY⟩ := rq_all (dL := dL) (dH := dH) (ph := ph) (nd := nd) (hY := dH) (tp := tp) (inp := inp) (dK := dK) (dF := dF) (dS := dS) (st := st) (sv := sv) (sn := sn) (sb := sb) (vb := vb) (pl := pl) (vl := vl) (ns := ns) (ov := ov) (ok := ok) hB hO.1
    obtain ⟨ph2, nd2, tp2, st2, sv2, sn2, pl2, vl2, ns2, hV2, t2X, t2Y⟩ := rq_all (dL := dL) (dH := dH) (ph := ph1) (nd := nd1) (hY := dH) (tp := tp1) (inp := upd inp (nI j).toNatClampNeg v2) (dK := dK) (dF := dF) (dS := dS) (st := st1) (sv := sv1) (sn := sn1) (sb := rq_cp sb (fun t => vp_nar .boolean (st1 t)) 0 8) (vb := rq_cp vb sv1 0 8) (pl := pl1) (vl := vl1) (ns := ns1) (ov := rq_cp ov vl1 0 8) (ok := rq_cp ok (fun t => vp_nar .boolean (st1 t)) 0 8) hB hO.1
    have hC : ∀ k, k < 8 → rq_cp sb (fun t => vp_nar .boolean (st1 t)) 0 8 k = rq_cp ok (fun t => vp_nar .boolean (st1 t)) 0 8 k ∧ (st2 k = rq_cp sb (fun t => vp_nar .boolean (st1 t)) 0 8 k → ¬ st2 k = 0 → sv2 k = vl2 k ∧ rq_cp vb sv1 0 8 k = rq_cp ov vl1 0 8 k) := by
      intro k hk
      have a1 : rq_cp sb (fun t => vp_nar .boolean (st1 t)) 0 8 k = vp_nar .boolean (st1 k) := rq_cp_i0 hk
      have a2 : rq_cp ok (fun t => vp_nar .boolean (st1 t)) 0 8 k = vp_nar .boolean (st1 k) := rq_cp_i0 hk
      have a3 : rq_cp vb sv1 0 8 k = sv1 k := rq_cp_i0 hk
      have a4 : rq_cp ov vl1 0 8 k = vl1 k := rq_cp_i0 hk
      refine ⟨a1.trans a2.symm, fun e z => ⟨(hV2 k hk z).1, ?_⟩⟩
      rw [a3, a4]
      exact (hV1 k hk (fun y => z (by rw [e, a1, y]; exact rq_b0))).1
    obtain ⟨r, gX, gY⟩ := rq_cnt (dL := dL) (dH := dH) (ph := ph2) (nd := nd2) (hY := dH) (tp := tp2) (inp := upd (upd inp (nI j).toNatClampNeg v2) (nI j).toNatClampNeg (inp (nI j).toNatClampNeg)) (bK := bK) (bF := bF) (bS := bS) (bL := bL) (dK := dK) (dF := dF) (dS := dS) (sn := sn2) (pl := pl2) (kd := kd) (fi := fi) (se := se) (sz := sz) (ns := ns2) hC 8 0 (by omega) 0
    refine rq_xIn hj (br_f (by decide) (tX _ ?_))
    refine rq_xRemember ?_
    refine And.intro ji (nm_e (And.intro ji (nm_e (t2X _ ?_))))
    refine And.intro ji (nm_e ?_)
    unfold wpX_countChanged
    refine ⟨8 + 1, gX _ ?_⟩
    unfold wpY_stirred
    refine rq_yIn hj (br_f (by decide) (tY _ ?_))
    refine ⟨8 + 1, rq_yRem0 ?_⟩
    refine br_t (by decide) (And.intro ji (nm_e (And.intro ji (nm_e (t2Y _ ?_)))))
    exact And.intro ji (nm_e ⟨8 + 1, gY _ ⟨rfl, rq_mk hB hD hO⟩⟩)
  · refine hX _ (br_t rfl ?_)
    unfold wpY_stirred
    exact hY _ _ (br_t rfl ⟨rfl, rq_mk hB hD hO⟩)
end
