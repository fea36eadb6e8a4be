/-! what append, finish and scrap make of the state: pure -/
theorem rq_Bod_sz {bK bL kd fi se sz : Nat → Int32} {x : Int32} (h : rq_Bod bK bL kd fi se sz) : rq_Bod bK bL kd fi se (upd sz 8 x) := by
  intro q hq
  obtain ⟨n, g, h1, h2, h3, h4, h5, h6⟩ := h q hq
  exact ⟨n, g, h1, h2, h3, by rw [pk_un (by omega)]; exact h4, h5, h6⟩
theorem rq_Bod_hi {bK bL kd fi se sz : Nat → Int32} {n : Nat} {b f s : Int32} (h : rq_Bod bK bL kd fi se sz) : rq_Bod bK bL (upd kd (80 + n) b) (upd fi (80 + n) f) (upd se (80 + n) s) sz := by
  intro q hq
  obtain ⟨m, g, h1, h2, h3, h4, h5, h6⟩ := h q hq
  refine ⟨m, g, h1, h2, h3, h4, h5, rq_B_eq h6 fun t ht => ?_⟩
  have e : 10 * q + t ≠ 80 + n := by omega
  exact ⟨rfl, pk_un e, pk_un e, pk_un e⟩
theorem rq_Dra_0 {dK kd fi se sz : Nat → Int32} : rq_Dra (nI 0) (nI 0) dK kd fi se (upd sz 8 (nI 0)) :=
  ⟨0, fun _ => 0, by omega, rfl, pk_us, rfl, rfl, fun t ht => absurd ht (Nat.not_lt_zero t)⟩
/-- one token appended -/
theorem rq_app {bK bF bS bL dK dF dS kd fi se sz : Nat → Int32} {n o : Nat} {h : Nat → Nat} {a b f s : Int32} (hn : n < 10)
    (hB : rq_Bod bK bL kd fi se sz) (hO : rq_Opd bF bS dF dS fi se)
    (H : rq_B dK (fun t => kd (80 + t)) (fun t => fi (80 + t)) (fun t => se (80 + t)) n h) (hT : rq_T a b f s (h n) o) :
    rq_Bod bK bL (upd kd (80 + n) b) (upd fi (80 + n) f) (upd se (80 + n) s) (upd sz 8 (nI (n + 1))) ∧
    rq_Dra (nI (n + 1)) (nI o) (upd dK n a) (upd kd (80 + n) b) (upd fi (80 + n) f) (upd se (80 + n) s) (upd sz 8 (nI (n + 1))) ∧
    rq_Opd bF bS (upd dF n f) (upd dS n s) (upd fi (80 + n) f) (upd se (80 + n) s) := by
  refine ⟨rq_Bod_sz (rq_Bod_hi hB), ⟨n + 1, fun t => if t ≤ n then h t else o, by omega, rfl, pk_us, ?_, ?_⟩, ?_, ?_⟩
  · have e : (if n + 1 ≤ n then h (n + 1) else o) = o := if_neg (by omega)
    show nI o = nI (if n + 1 ≤ n then h (n + 1) else o)
    rw [e]
  · refine rq_B_snoc (rq_B_eq H fun t ht => ?_) hT pk_us pk_us pk_us pk_us
    have e : 80 + t ≠ 80 + n := by omega
    exact ⟨pk_un (by omega), pk_un e, pk_un e, pk_un e⟩
  · intro j hj
    have e : j ≠ 80 + n := by omega
    rw [pk_un e, pk_un e]
    exact hO.1 j hj
  · intro i hi
    by_cases e : i = n
    · subst e
      rw [pk_us, pk_us, pk_us, pk_us]
      exact ⟨rfl, rfl⟩
    · have e2 : 80 + i ≠ 80 + n := by omega
      rw [pk_un e, pk_un e, pk_un e2, pk_un e2]
      exact hO.2 i hi
/-- n cells of s laid into a from o on -/
def rq_cp (a s : Nat → Int32) (o n : Nat) : Nat → Int32 := fun j => if o ≤ j ∧ j < o + n then s (j - o) else a j
theorem rq_cp_0 (a s : Nat → Int32) (o : Nat) : rq_cp a s o 0 = a := by
  funext j
  exact if_neg (by omega)
theorem rq_cp_in {a s : Nat → Int32} {o n t : Nat} (h : t < n) : rq_cp a s o n (o + t) = s t := by
  have e : rq_cp a s o n (o + t) = s (o + t - o) := if_pos ⟨by omega, by omega⟩
  rw [e, Nat.add_sub_cancel_left]
theorem rq_cp_out {a s : Nat → Int32} {o n j : Nat} (h : j < o ∨ o + n ≤ j) : rq_cp a s o n j = a j :=
  if_neg (by omega)
theorem rq_cp_s {a s : Nat → Int32} {o i : Nat} : upd (rq_cp a s o i) (o + i) (s i) = rq_cp a s o (i + 1) := by
  funext j
  by_cases e : j = o + i
  · subst e
    rw [pk_us, rq_cp_in (by omega)]
  · rw [pk_un e]
    by_cases c : o ≤ j ∧ j < o + i
    · have e1 : rq_cp a s o i j = s (j - o) := if_pos c
      have e2 : rq_cp a s o (i + 1) j = s (j - o) := if_pos ⟨c.1, by omega⟩
      rw [e1, e2]
    · have e1 : rq_cp a s o i j = a j := if_neg c
      have e2 : rq_cp a s o (i + 1) j = a j := if_neg (by omega)
      rw [e1, e2]
/-- the draft laid down as the body of q -/
theorem rq_fin {bK bF bS bL dK dF dS kd fi se sz : Nat → Int32} {n q : Nat} {h : Nat → Nat} (hq : q < 8) (hn : n ≤ 10) (h1 : h n = 1)
    (hB : rq_Bod bK bL kd fi se sz) (hO : rq_Opd bF bS dF dS fi se)
    (H : rq_B dK (fun t => kd (80 + t)) (fun t => fi (80 + t)) (fun t => se (80 + t)) n h) :
    rq_Bod (rq_cp bK dK (10 * q) n) (upd bL q (nI n)) (rq_cp kd (fun t => kd (80 + t)) (10 * q) n) (rq_cp fi (fun t => fi (80 + t)) (10 * q) n) (rq_cp se (fun t => se (80 + t)) (10 * q) n) (upd (upd sz q (nI n)) 8 (nI 0)) ∧
    rq_Dra (nI 0) (nI 0) dK (rq_cp kd (fun t => kd (80 + t)) (10 * q) n) (rq_cp fi (fun t => fi (80 + t)) (10 * q) n) (rq_cp se (fun t => se (80 + t)) (10 * q) n) (upd (upd sz q (nI n)) 8 (nI 0)) ∧
    rq_Opd (rq_cp bF dF (10 * q) n) (rq_cp bS dS (10 * q) n) dF dS (rq_cp fi (fun t => fi (80 + t)) (10 * q) n) (rq_cp se (fun t => se (80 + t)) (10 * q) n) := by
  have n0 : 1 ≤ n := by
    rcases Nat.eq_zero_or_pos n with e | e
    · subst e; have := H.1; omega
    · exact e
  refine ⟨rq_Bod_sz fun p hp => ?_, rq_Dra_0, fun j hj => ?_, fun i hi => ?_⟩
  · by_cases e : p = q
    · subst e
      refine ⟨n, h, n0, hn, pk_us, pk_us, h1, rq_B_eq H fun t ht => ?_⟩
      exact ⟨rq_cp_in ht, rq_cp_in ht, rq_cp_in ht, rq_cp_in ht⟩
    · obtain ⟨m, g, g1, g2, g3, g4, g5, g6⟩ := hB p hp
      refine ⟨m, g, g1, g2, by rw [pk_un e]; exact g3, by rw [pk_un e]; exact g4, g5, rq_B_eq g6 fun t ht => ?_⟩
      have c : 10 * p + t < 10 * q ∨ 10 * q + n ≤ 10 * p + t := by omega
      exact ⟨rq_cp_out c, rq_cp_out c, rq_cp_out c, rq_cp_out c⟩
  · by_cases c : 10 * q ≤ j ∧ j < 10 * q + n
    · obtain ⟨t, rfl⟩ : ∃ t, j = 10 * q + t := ⟨j - 10 * q, by omega⟩
      have ht : t < n := by omega
      rw [rq_cp_in ht, rq_cp_in ht, rq_cp_in ht, rq_cp_in ht]
      exact hO.2 t (by omega)
    · have c' : j < 10 * q ∨ 10 * q + n ≤ j := by omega
      rw [rq_cp_out c', rq_cp_out c', rq_cp_out c', rq_cp_out c']
      exact hO.1 j hj
  · have c : 80 + i < 10 * q ∨ 10 * q + n ≤ 80 + i := by omega
    rw [rq_cp_out c, rq_cp_out c]
    exact hO.2 i hi
