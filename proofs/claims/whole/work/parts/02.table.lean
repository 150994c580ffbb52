/-! the pure picture of the table (counts C, sizes Z, characters K: naturals) and what the arrays hold of it -/
def cd_up (f : Nat → Nat) (k x : Nat) : Nat → Nat := fun j => if j = k then x else f j
theorem cd_us {f : Nat → Nat} {k x : Nat} : cd_up f k x k = x := if_pos rfl
theorem cd_un {f : Nat → Nat} {k j x : Nat} (h : j ≠ k) : cd_up f k x j = f j := if_neg h
theorem cd_uu {f : Nat → Nat} {k a b : Nat} : cd_up (cd_up f k a) k b = cd_up f k b := by
  funext j
  by_cases h : j = k
  · rw [h, cd_us, cd_us]
  · rw [cd_un h, cd_un h, cd_un h]
/-- the field at place k -/
def cd_fd (Z K : Nat → Nat) (sz ch : Nat → Int32) (k : Nat) : Prop :=
  Z k ≤ 6 ∧ sz k = nI (Z k) ∧ ∀ i, i < Z k → K (6 * k + i) ≤ 9 ∧ ch (6 * k + i) = nI (K (6 * k + i))
def cd_tb (rn : Nat) (C Z K : Nat → Nat) (cn sz ch : Nat → Int32) : Prop :=
  ∀ r, r < rn → 1 ≤ C r ∧ C r ≤ 5 ∧ cn r = nI (C r) ∧ ∀ f, f < C r → cd_fd Z K sz ch (5 * r + f)
theorem cd_tb0 {C Z K : Nat → Nat} {cn sz ch : Nat → Int32} : cd_tb 0 C Z K cn sz ch :=
  fun r h => absurd h (Nat.not_lt_zero r)
theorem cd_tbf {rn : Nat} {C Z K Z' K' : Nat → Nat} {cn sz ch sz' ch' : Nat → Int32} (h : cd_tb rn C Z K cn sz ch)
    (hf : ∀ k, cd_fd Z K sz ch k → cd_fd Z' K' sz' ch' k) : cd_tb rn C Z' K' cn sz' ch' :=
  fun r hr => ⟨(h r hr).1, (h r hr).2.1, (h r hr).2.2.1, fun f hF => hf _ ((h r hr).2.2.2 f hF)⟩
/-- one record more, of one field -/
theorem cd_tbN {rn : Nat} {C Z K : Nat → Nat} {cn sz ch : Nat → Int32} (h : cd_tb rn C Z K cn sz ch)
    (hf : cd_fd Z K sz ch (5 * rn)) : cd_tb (rn + 1) (cd_up C rn 1) Z K (upd cn rn (nI 1)) sz ch := by
  intro r hr
  by_cases e : r = rn
  · subst e
    rw [cd_us, pk_us]
    refine ⟨Nat.le_refl 1, by omega, rfl, fun f hF => ?_⟩
    have e0 : f = 0 := by omega
    subst e0
    exact hf
  · rw [cd_un e, pk_un e]
    exact h r (by omega)
/-- one field more in the last record -/
theorem cd_tbG {m : Nat} {C Z K : Nat → Nat} {cn sz ch : Nat → Int32} (h : cd_tb (m + 1) C Z K cn sz ch) (h5 : C m < 5)
    (hf : cd_fd Z K sz ch (5 * m + C m)) : cd_tb (m + 1) (cd_up C m (C m + 1)) Z K (upd cn m (nI (C m + 1))) sz ch := by
  intro r hr
  by_cases e : r = m
  · subst e
    rw [cd_us, pk_us]
    refine ⟨by omega, by omega, rfl, fun f hF => ?_⟩
    by_cases ef : f = C r
    · subst ef
      exact hf
    · exact (h r hr).2.2.2 f (by omega)
  · rw [cd_un e, pk_un e]
    exact h r hr
/-- an empty field at place k -/
theorem cd_fd0 {Z K : Nat → Nat} {sz ch : Nat → Int32} (k : Nat) : cd_fd (cd_up Z k 0) K (upd sz k (nI 0)) ch k := by
  unfold cd_fd
  rw [cd_us, pk_us]
  exact ⟨by omega, rfl, fun i hi => absurd hi (Nat.not_lt_zero i)⟩
theorem cd_fdZ {Z K : Nat → Nat} {sz ch : Nat → Int32} (k j : Nat) (h : cd_fd Z K sz ch j) : cd_fd (cd_up Z k 0) K (upd sz k (nI 0)) ch j := by
  by_cases e : j = k
  · subst e
    exact cd_fd0 j
  · unfold cd_fd
    rw [cd_un e, pk_un e]
    exact h
theorem cd_tbR {rn : Nat} {C Z K : Nat → Nat} {cn sz ch : Nat → Int32} (h : cd_tb rn C Z K cn sz ch) :
    cd_tb (rn + 1) (cd_up C rn 1) (cd_up Z (5 * rn) 0) K (upd cn rn (nI 1)) (upd sz (5 * rn) (nI 0)) ch :=
  cd_tbN (cd_tbf h (fun j hj => cd_fdZ (5 * rn) j hj)) (cd_fd0 _)
theorem cd_tbF {m : Nat} {C Z K : Nat → Nat} {cn sz ch : Nat → Int32} (h : cd_tb (m + 1) C Z K cn sz ch) (h5 : C m < 5) :
    cd_tb (m + 1) (cd_up C m (C m + 1)) (cd_up Z (5 * m + C m) 0) K (upd cn m (nI (C m + 1))) (upd sz (5 * m + C m) (nI 0)) ch :=
  cd_tbG (cd_tbf h (fun j hj => cd_fdZ (5 * m + C m) j hj)) h5 (cd_fd0 _)
/-- one character more in the field at place k -/
theorem cd_fdA {Z K : Nat → Nat} {sz ch : Nat → Int32} {k c : Nat} (h6 : Z k < 6) (hc : c ≤ 9) (j : Nat) (h : cd_fd Z K sz ch j) :
    cd_fd (cd_up Z k (Z k + 1)) (cd_up K (6 * k + Z k) c) (upd sz k (nI (Z k + 1))) (upd ch (6 * k + Z k) (nI c)) j := by
  obtain ⟨h1, h2, h3⟩ := h
  unfold cd_fd
  by_cases e : j = k
  · subst e
    rw [cd_us, pk_us]
    refine ⟨by omega, rfl, fun i hi => ?_⟩
    by_cases ei : i = Z j
    · subst ei
      rw [cd_us, pk_us]
      exact ⟨hc, rfl⟩
    · have e2 : 6 * j + i ≠ 6 * j + Z j := by omega
      rw [cd_un e2, pk_un e2]
      exact h3 i (by omega)
  · rw [cd_un e, pk_un e]
    refine ⟨h1, h2, fun i hi => ?_⟩
    have e2 : 6 * j + i ≠ 6 * k + Z k := by omega
    rw [cd_un e2, pk_un e2]
    exact h3 i hi
theorem cd_tbA {rn k c : Nat} {C Z K : Nat → Nat} {cn sz ch : Nat → Int32} (h : cd_tb rn C Z K cn sz ch) (h6 : Z k < 6) (hc : c ≤ 9) :
    cd_tb rn C (cd_up Z k (Z k + 1)) (cd_up K (6 * k + Z k) c) cn (upd sz k (nI (Z k + 1))) (upd ch (6 * k + Z k) (nI c)) :=
  cd_tbf h (fun j hj => cd_fdA h6 hc j hj)
/-- the draft D of n characters put at place k -/
def cd_pk (K : Nat → Nat) (k n : Nat) (D : Nat → Nat) : Nat → Nat := fun j => if 6 * k ≤ j ∧ j < 6 * k + n then D (j - 6 * k) else K j
theorem cd_pkin {K : Nat → Nat} {k n : Nat} {D : Nat → Nat} {i : Nat} (h : i < n) : cd_pk K k n D (6 * k + i) = D i := by
  unfold cd_pk
  rw [if_pos ⟨by omega, by omega⟩]
  exact congrArg D (by omega)
theorem cd_pkout {K : Nat → Nat} {k n : Nat} {D : Nat → Nat} {j : Nat} (h : j < 6 * k ∨ 6 * k + n ≤ j) : cd_pk K k n D j = K j := by
  unfold cd_pk
  rw [if_neg (by omega)]
/-- the arrays' side of it -/
def cd_pa (ch ch' : Nat → Int32) (k n : Nat) (D : Nat → Nat) : Prop :=
  (∀ i, i < n → ch' (6 * k + i) = nI (D i)) ∧ ∀ j, (j < 6 * k ∨ 6 * k + n ≤ j) → ch' j = ch j
theorem cd_fdP0 {Z K D : Nat → Nat} {sz ch ch' : Nat → Int32} {k n : Nat} (h6 : n ≤ 6) (hD : ∀ i, i < n → D i ≤ 9) (ha : cd_pa ch ch' k n D) :
    cd_fd (cd_up Z k n) (cd_pk K k n D) (upd sz k (nI n)) ch' k := by
  unfold cd_fd
  rw [cd_us, pk_us]
  refine ⟨h6, rfl, fun i hi => ?_⟩
  rw [cd_pkin hi]
  exact ⟨hD i hi, ha.1 i hi⟩
theorem cd_fdP {Z K D : Nat → Nat} {sz ch ch' : Nat → Int32} {k n : Nat} (h6 : n ≤ 6) (hD : ∀ i, i < n → D i ≤ 9) (ha : cd_pa ch ch' k n D)
    (j : Nat) (h : cd_fd Z K sz ch j) : cd_fd (cd_up Z k n) (cd_pk K k n D) (upd sz k (nI n)) ch' j := by
  by_cases e : j = k
  · subst e
    exact cd_fdP0 h6 hD ha
  · obtain ⟨h1, h2, h3⟩ := h
    unfold cd_fd
    rw [cd_un e, pk_un e]
    refine ⟨h1, h2, fun i hi => ?_⟩
    have o : 6 * j + i < 6 * k ∨ 6 * k + n ≤ 6 * j + i := by omega
    rw [cd_pkout o, ha.2 _ o]
    exact h3 i hi
theorem cd_tbP {rn k n : Nat} {C Z K D : Nat → Nat} {cn sz ch ch' : Nat → Int32} (h : cd_tb rn C Z K cn sz ch) (h6 : n ≤ 6)
    (hD : ∀ i, i < n → D i ≤ 9) (ha : cd_pa ch ch' k n D) : cd_tb rn C (cd_up Z k n) (cd_pk K k n D) cn (upd sz k (nI n)) ch' :=
  cd_tbf h (fun j hj => cd_fdP h6 hD ha j hj)
/-- a counted text: the draft (6, 9), the raw text (96, 10) -/
def cd_tx (N M n : Nat) (D : Nat → Nat) (x : Int32) (a : Nat → Int32) : Prop :=
  n ≤ N ∧ x = nI n ∧ ∀ i, i < n → D i ≤ M ∧ a i = nI (D i)
theorem cd_txU {N M n c : Nat} {D : Nat → Nat} {x : Int32} {a : Nat → Int32} (h : cd_tx N M n D x a) (hn : n < N) (hc : c ≤ M) :
    cd_tx N M (n + 1) (cd_up D n c) (nI (n + 1)) (upd a n (nI c)) := by
  refine ⟨hn, rfl, fun i hi => ?_⟩
  by_cases e : i = n
  · subst e
    rw [cd_us, pk_us]
    exact ⟨hc, rfl⟩
  · rw [cd_un e, pk_un e]
    exact h.2.2 i (by omega)
theorem cd_tx0 {N M : Nat} {D : Nat → Nat} {a : Nat → Int32} : cd_tx N M 0 D 0 a :=
  ⟨Nat.zero_le N, rfl, fun i hi => absurd hi (Nat.not_lt_zero i)⟩
theorem cd_txD {N M n : Nat} {D : Nat → Nat} {x : Int32} {a : Nat → Int32} (h : cd_tx N M (n + 1) D x a) : cd_tx N M n D (nI n) a :=
  ⟨by have := h.1; omega, rfl, fun i hi => h.2.2 i (by omega)⟩
