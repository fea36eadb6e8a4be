/-! rows of kit/rows, as they stand there -/
theorem pk_us {f : Nat → Int32} {k : Nat} {x : Int32} : upd f k x k = x := if_pos rfl
theorem pk_un {f : Nat → Int32} {k j : Nat} {x : Int32} (h : j ≠ k) : upd f k x j = f j := if_neg h
theorem pk_sub {a b : Nat} (h : b ≤ a) : nI a - nI b = nI (a - b) := by
  obtain ⟨c, rfl⟩ : ∃ c, a = c + b := ⟨a - b, by omega⟩
  rw [← nI_add, Int32.add_sub_cancel, Nat.add_sub_cancel]
theorem pk_m1 (n : Nat) : nI (n + 1) + (-1) = nI n := by
  rw [← nI_1, Int32.add_assoc, show (1 : Int32) + (-1) = 0 from rfl, Int32.add_zero]
theorem pk_mul (a b : Nat) : nI a * nI b = nI (a * b) := (Int32.ofNat_mul a b).symm
theorem pk_ix (x : Int32) {n : Nat} (hn : n < 2 ^ 31) : x < 0 ∨ nI n ≤ x ∨ ∃ j : Nat, j < n ∧ x = nI j := by
  by_cases h : x < 0
  · exact Or.inl h
  · obtain ⟨j, hj, rfl⟩ := nI_of h
    by_cases h2 : j < n
    · exact Or.inr (Or.inr ⟨j, h2, rfl⟩)
    · exact Or.inr (Or.inl (nI_le (by omega) hj))
theorem pk_le {x y : Int32} {A B : Prop} (a b : Nat) (f : a ≤ b → A) (g : b < a → B) (hx : x = nI a := by rfl) (hy : y = nI b := by rfl) (ha : a < 2 ^ 31 := by omega) (hb : b < 2 ^ 31 := by omega) : (x ≤ y → A) ∧ (¬ x ≤ y → B) := by
  subst hx hy
  rw [nI_leI ha hb]
  exact ⟨f, fun z => g (by omega)⟩
theorem pk_lt {x y : Int32} {A B : Prop} (a b : Nat) (f : a < b → A) (g : b ≤ a → B) (hx : x = nI a := by rfl) (hy : y = nI b := by rfl) (ha : a < 2 ^ 31 := by omega) (hb : b < 2 ^ 31 := by omega) : (x < y → A) ∧ (¬ x < y → B) := by
  subst hx hy
  rw [nI_ltI ha hb]
  exact ⟨f, fun z => g (by omega)⟩
theorem pk_eq {x y : Int32} {A B : Prop} (a b : Nat) (f : a = b → A) (g : a ≠ b → B) (hx : x = nI a := by rfl) (hy : y = nI b := by rfl) (ha : a < 2 ^ 31 := by omega) (hb : b < 2 ^ 31 := by omega) : (x = y → A) ∧ (¬ x = y → B) := by
  subst hx hy
  rw [nI_eq ha hb]
  exact ⟨f, g⟩
theorem pk_in {x : Int32} (n N : Nat) (h : n < N) (hx : x = nI n := by rfl) (hN : N < 2 ^ 31 := by omega) : vp_in x N := by
  subst hx
  exact vp_in_nI h hN
theorem pk_cl {x : Int32} (n : Nat) (hx : x = nI n := by rfl) (h : n < 2 ^ 31 := by omega) : x.toNatClampNeg = n := by
  subst hx
  exact nI_clamp h
/-! own rows: tokens, bodies, numbers -/
theorem rq_c10 : (10 : Int32) = nI 10 := rfl
theorem rq_b0 : vp_nar .boolean 0 = 0 := by decide
theorem rq_b1 : vp_nar .boolean 1 = 1 := by decide
theorem rq_nb {z : Int32} (h : z = 0 ∨ z = 1) : narrow .boolean (.int z) = .int z := by
  rcases h with rfl | rfl <;> rfl
theorem rq_us {f : Nat → Int32} {k : Nat} {x : Int32} (h : f k = x) : upd f k x = f := by
  funext j
  by_cases e : j = k
  · subst e; rw [pk_us, h]
  · rw [pk_un e]
theorem rq_mulR (q : Nat) : nI q * 10 = nI (10 * q) := by
  rw [rq_c10, pk_mul, Nat.mul_comm]
theorem rq_mulL (q : Nat) : 10 * nI q = nI (10 * q) := by
  rw [rq_c10, pk_mul]
/-- an index out of n is refused, or it is a natural below n -/
theorem rq_in {x : Int32} {n : Nat} (hn : n < 2 ^ 31) (h0 : ¬ x < 0) (h : x < nI n) : ∃ j : Nat, j < n ∧ x = nI j := by
  obtain ⟨j, hj, rfl⟩ := nI_of h0
  exact ⟨j, (nI_ltI hj hn).mp h, rfl⟩
/-- one token: the class's kind a, the reference's kind b, the operands f and s, the pile's height i ahead of it and o behind it -/
def rq_T (a b f s : Int32) (i o : Nat) : Prop :=
  (a = 4 ∧ b = 0 ∧ o = i + 1) ∨
  (a = 5 ∧ b = 1 ∧ (∃ j, j < 6 ∧ f = nI j) ∧ o = i + 1) ∨
  (a = 6 ∧ b = 2 ∧ (∃ j, j < 8 ∧ f = nI j) ∧ o = i + 1) ∨
  (a = 7 ∧ b = 3 ∧ (∃ j, j < 8 ∧ f = nI j) ∧ (∃ j, j < 8 ∧ s = nI j) ∧ 1 ≤ i ∧ o = i) ∨
  (∃ p, p < 4 ∧ a = nI p ∧ b = nI (4 + p) ∧ 2 ≤ i ∧ o + 1 = i)
theorem rq_T_le {a b f s : Int32} {i o : Nat} (h : rq_T a b f s i o) : o ≤ i + 1 := by
  rcases h with h | h | h | h | ⟨p, h⟩
  · omega
  · obtain ⟨-, -, -, h⟩ := h; omega
  · obtain ⟨-, -, -, h⟩ := h; omega
  · obtain ⟨-, -, -, -, -, h⟩ := h; omega
  · obtain ⟨-, -, -, -, h⟩ := h; omega
/-- n tokens one behind another; h t: the pile's height ahead of token t -/
def rq_B (A B F S : Nat → Int32) (n : Nat) (h : Nat → Nat) : Prop :=
  h 0 = 0 ∧ ∀ t, t < n → rq_T (A t) (B t) (F t) (S t) (h t) (h (t + 1))
theorem rq_B_le {A B F S : Nat → Int32} {n : Nat} {h : Nat → Nat} (H : rq_B A B F S n h) : ∀ t, t ≤ n → h t ≤ t := by
  intro t
  induction t with
  | zero => intro _; have := H.1; omega
  | succ t ih =>
    intro ht
    have h1 := ih (by omega)
    have h2 := rq_T_le (H.2 t (by omega))
    omega
theorem rq_B_eq {A B F S A' B' F' S' : Nat → Int32} {n : Nat} {h : Nat → Nat} (H : rq_B A B F S n h) (e : ∀ t, t < n → A' t = A t ∧ B' t = B t ∧ F' t = F t ∧ S' t = S t) : rq_B A' B' F' S' n h := by
  refine ⟨H.1, fun t ht => ?_⟩
  obtain ⟨e1, e2, e3, e4⟩ := e t ht
  rw [e1, e2, e3, e4]
  exact H.2 t ht
/-- one token more -/
theorem rq_B_snoc {A B F S : Nat → Int32} {n o : Nat} {h : Nat → Nat} {a b f s : Int32} (H : rq_B A B F S n h) (hT : rq_T a b f s (h n) o) (eA : A n = a) (eB : B n = b) (eF : F n = f) (eS : S n = s) : rq_B A B F S (n + 1) (fun t => if t ≤ n then h t else o) := by
  refine ⟨by simp [H.1], fun t ht => ?_⟩
  by_cases e : t = n
  · subst e
    have h1 : (if t ≤ t then h t else o) = h t := if_pos (Nat.le_refl t)
    have h2 : (if t + 1 ≤ t then h (t + 1) else o) = o := if_neg (by omega)
    show rq_T (A t) (B t) (F t) (S t) (if t ≤ t then h t else o) (if t + 1 ≤ t then h (t + 1) else o)
    rw [h1, h2, eA, eB, eF, eS]
    exact hT
  · have h1 : (if t ≤ n then h t else o) = h t := if_pos (by omega)
    have h2 : (if t + 1 ≤ n then h (t + 1) else o) = h (t + 1) := if_pos (by omega)
    show rq_T (A t) (B t) (F t) (S t) (if t ≤ n then h t else o) (if t + 1 ≤ n then h (t + 1) else o)
    rw [h1, h2]
    exact H.2 t (by omega)
/-- the bodies of the eight queries -/
def rq_Bod (bK bL kd fi se sz : Nat → Int32) : Prop :=
  ∀ q, q < 8 → ∃ (n : Nat) (h : Nat → Nat), 1 ≤ n ∧ n ≤ 10 ∧ bL q = nI n ∧ sz q = nI n ∧ h n = 1 ∧
    rq_B (fun t => bK (10 * q + t)) (fun t => kd (10 * q + t)) (fun t => fi (10 * q + t)) (fun t => se (10 * q + t)) n h
/-- the draft: n tokens, height h n -/
def rq_Dra (dL dH : Int32) (dK kd fi se sz : Nat → Int32) : Prop :=
  ∃ (n : Nat) (h : Nat → Nat), n ≤ 10 ∧ dL = nI n ∧ sz 8 = nI n ∧ dH = nI (h n) ∧
    rq_B dK (fun t => kd (80 + t)) (fun t => fi (80 + t)) (fun t => se (80 + t)) n h
/-- the operands of both sides -/
def rq_Opd (bF bS dF dS fi se : Nat → Int32) : Prop :=
  (∀ j, j < 80 → bF j = fi j ∧ bS j = se j) ∧ (∀ i, i < 10 → dF i = fi (80 + i) ∧ dS i = se (80 + i))
/-- what both sides have worked out, where it is known -/
def rq_V (st sv sn vl ns : Nat → Int32) : Prop := ∀ k, k < 8 → ¬ st k = 0 → sv k = vl k ∧ sn k = ns k
theorem rq_bits : ∀ q, q < 8 → ∀ m, m < 2 ^ q → nI m ||| ((1 : Int32) <<< (nI q &&& 31)) = nI (m + 2 ^ q) ∧ nI m + ((1 : Int32) <<< (nI q &&& 31)) = nI (m + 2 ^ q) := by
  decide +kernel
