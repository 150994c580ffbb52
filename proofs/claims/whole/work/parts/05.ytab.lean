/-! the reference's read arrays against the table that is read -/
def cy_fd (Z K : Nat → Nat) (rS rK : Nat → Int32) (k : Nat) : Prop :=
  rS k = nI (if Z k < 7 then Z k else 6) ∧ ∀ i, i < 6 → i < Z k → rK (6 * k + i) = nI (K (6 * k + i))
theorem cy_fdc {Z K Z' K' : Nat → Nat} {rS rK rS' rK' : Nat → Int32} {k : Nat} (h : cy_fd Z K rS rK k) (h1 : Z' k = Z k) (h2 : rS' k = rS k)
    (h3 : ∀ i, i < 6 → K' (6 * k + i) = K (6 * k + i)) (h4 : ∀ i, i < 6 → rK' (6 * k + i) = rK (6 * k + i)) : cy_fd Z' K' rS' rK' k := by
  unfold cy_fd
  rw [h1, h2]
  refine ⟨h.1, fun i hi hz => ?_⟩
  rw [h3 i hi, h4 i hi]
  exact h.2 i hi hz
/-- inside field g of record m -/
def cy_T (m g : Nat) (C Z K : Nat → Nat) (rC rS rK : Nat → Int32) : Prop :=
  (∀ r, r < m → r < 6 → rC r = nI (C r)) ∧
  (∀ r f, r < m → f < C r → r < 6 → f < 5 → cy_fd Z K rS rK (5 * r + f)) ∧
  (∀ f, f < g → m < 6 → f < 5 → cy_fd Z K rS rK (5 * m + f)) ∧
  (m < 6 → g < 5 → ∀ i, i < 6 → i < Z (5 * m + g) → rK (6 * (5 * m + g) + i) = nI (K (6 * (5 * m + g) + i)))
/-- behind it -/
def cy_C (m g : Nat) (C Z K : Nat → Nat) (rC rS rK : Nat → Int32) : Prop :=
  (∀ r, r < m → r < 6 → rC r = nI (C r)) ∧
  (∀ r f, r < m → f < C r → r < 6 → f < 5 → cy_fd Z K rS rK (5 * r + f)) ∧
  (∀ f, f < g + 1 → m < 6 → f < 5 → cy_fd Z K rS rK (5 * m + f))
/-- behind n records -/
def cy_R (n : Nat) (C Z K : Nat → Nat) (rC rS rK : Nat → Int32) : Prop :=
  (∀ r, r < n → r < 6 → rC r = nI (C r)) ∧
  (∀ r f, r < n → f < C r → r < 6 → f < 5 → cy_fd Z K rS rK (5 * r + f))
theorem cy_Tst {m g : Nat} {C Z K Z' K' : Nat → Nat} {rC rS rK rK' : Nat → Int32} (h : cy_T m g C Z K rC rS rK)
    (hZ : ∀ k, k < 5 * m + g → Z' k = Z k) (hK : ∀ j, j < 6 * (5 * m + g) → K' j = K j) (hk : ∀ j, j < 6 * (5 * m + g) → rK' j = rK j)
    (hc : m < 6 → g < 5 → ∀ i, i < 6 → i < Z' (5 * m + g) → rK' (6 * (5 * m + g) + i) = nI (K' (6 * (5 * m + g) + i))) : cy_T m g C Z' K' rC rS rK' :=
  ⟨h.1, fun r f hr hf h6 h5 => cy_fdc (h.2.1 r f hr hf h6 h5) (hZ _ (by omega)) rfl (fun i hi => hK _ (by omega)) (fun i hi => hk _ (by omega)),
    fun f hf h6 h5 => cy_fdc (h.2.2.1 f hf h6 h5) (hZ _ (by omega)) rfl (fun i hi => hK _ (by omega)) (fun i hi => hk _ (by omega)), hc⟩
/-- a character that finds room -/
theorem cy_Ta {m g c : Nat} {C Z K : Nat → Nat} {rC rS rK : Nat → Int32} (h : cy_T m g C Z K rC rS rK) (h6 : m < 6) (h5 : g < 5) :
    cy_T m g C (cd_up Z (5 * m + g) (Z (5 * m + g) + 1)) (cd_up K (6 * (5 * m + g) + Z (5 * m + g)) c) rC rS (upd rK (6 * (5 * m + g) + Z (5 * m + g)) (nI c)) := by
  refine cy_Tst h (fun k hk => cd_un (by omega)) (fun j hj => cd_un (by omega)) (fun j hj => pk_un (by omega)) (fun _ _ i hi hz => ?_)
  rw [cd_us] at hz
  by_cases e : i = Z (5 * m + g)
  · subst e
    rw [cd_us, pk_us]
  · have e2 : 6 * (5 * m + g) + i ≠ 6 * (5 * m + g) + Z (5 * m + g) := by omega
    rw [cd_un e2, pk_un e2]
    exact h.2.2.2 h6 h5 i hi (by omega)
/-- one that finds none -/
theorem cy_To {m g c : Nat} {C Z K : Nat → Nat} {rC rS rK : Nat → Int32} (h : cy_T m g C Z K rC rS rK) (ho : 6 ≤ m ∨ 5 ≤ g ∨ 6 ≤ Z (5 * m + g)) :
    cy_T m g C (cd_up Z (5 * m + g) (Z (5 * m + g) + 1)) (cd_up K (6 * (5 * m + g) + Z (5 * m + g)) c) rC rS rK := by
  refine cy_Tst h (fun k hk => cd_un (by omega)) (fun j hj => cd_un (by omega)) (fun j hj => rfl) (fun h6 h5 i hi hz => ?_)
  rw [cd_us] at hz
  have e2 : 6 * (5 * m + g) + i ≠ 6 * (5 * m + g) + Z (5 * m + g) := by omega
  rw [cd_un e2]
  exact h.2.2.2 h6 h5 i hi (by omega)
/-- the field's end -/
theorem cy_Ci {m g : Nat} {C Z K : Nat → Nat} {rC rS rK : Nat → Int32} (h : cy_T m g C Z K rC rS rK) (h6 : m < 6) (h5 : g < 5) :
    cy_C m g C Z K rC (upd rS (5 * m + g) (nI (if Z (5 * m + g) < 7 then Z (5 * m + g) else 6))) rK := by
  refine ⟨h.1, fun r f hr hf hr6 hf5 => cy_fdc (h.2.1 r f hr hf hr6 hf5) rfl (pk_un (by omega)) (fun _ _ => rfl) (fun _ _ => rfl), fun f hf _ hf5 => ?_⟩
  by_cases e : f = g
  · subst e
    exact ⟨pk_us, h.2.2.2 h6 h5⟩
  · exact cy_fdc (h.2.2.1 f (by omega) h6 hf5) rfl (pk_un (by omega)) (fun _ _ => rfl) (fun _ _ => rfl)
theorem cy_Co {m g : Nat} {C Z K : Nat → Nat} {rC rS rK : Nat → Int32} (h : cy_T m g C Z K rC rS rK) (ho : 6 ≤ m ∨ 5 ≤ g) : cy_C m g C Z K rC rS rK :=
  ⟨h.1, h.2.1, fun f hf h6 h5 => h.2.2.1 f (by omega) h6 h5⟩
/-- the next field -/
theorem cy_CF {m g x : Nat} {C Z K : Nat → Nat} {rC rS rK : Nat → Int32} (h : cy_C m g C Z K rC rS rK) :
    cy_T m (g + 1) (cd_up C m x) (cd_up Z (5 * m + (g + 1)) 0) K rC rS rK := by
  refine ⟨fun r hr h6 => ?_, fun r f hr hf h6 h5 => ?_, fun f hf h6 h5 => ?_, fun _ _ i _ hz => ?_⟩
  · rw [cd_un (by omega)]
    exact h.1 r hr h6
  · rw [cd_un (by omega)] at hf
    exact cy_fdc (h.2.1 r f hr hf h6 h5) (cd_un (by omega)) rfl (fun _ _ => rfl) (fun _ _ => rfl)
  · exact cy_fdc (h.2.2 f hf h6 h5) (cd_un (by omega)) rfl (fun _ _ => rfl) (fun _ _ => rfl)
  · rw [cd_us] at hz
    exact absurd hz (Nat.not_lt_zero i)
/-- the record's end -/
theorem cy_CRi {m g : Nat} {C Z K : Nat → Nat} {rC rS rK : Nat → Int32} (h : cy_C m g C Z K rC rS rK) (hg : C m = g + 1) :
    cy_R (m + 1) C Z K (upd rC m (nI (g + 1))) rS rK := by
  refine ⟨fun r hr h6 => ?_, fun r f hr hf h6 h5 => ?_⟩
  · by_cases e : r = m
    · subst e
      rw [pk_us, hg]
    · rw [pk_un e]
      exact h.1 r (by omega) h6
  · by_cases e : r = m
    · subst e
      exact h.2.2 f (by omega) h6 h5
    · exact h.2.1 r f (by omega) hf h6 h5
theorem cy_CRo {m g : Nat} {C Z K : Nat → Nat} {rC rS rK : Nat → Int32} (h : cy_C m g C Z K rC rS rK) (hg : C m = g + 1) (ho : 6 ≤ m) :
    cy_R (m + 1) C Z K rC rS rK := by
  refine ⟨fun r hr h6 => h.1 r (by omega) h6, fun r f hr hf h6 h5 => h.2.1 r f (by omega) hf h6 h5⟩
/-- the next record -/
theorem cy_RT {n : Nat} {C Z K : Nat → Nat} {rC rS rK : Nat → Int32} (h : cy_R n C Z K rC rS rK) :
    cy_T n 0 (cd_up C n 1) (cd_up Z (5 * n) 0) K rC rS rK := by
  refine ⟨fun r hr h6 => ?_, fun r f hr hf h6 h5 => ?_, fun f hf => absurd hf (Nat.not_lt_zero f), fun _ _ i _ hz => ?_⟩
  · rw [cd_un (by omega)]
    exact h.1 r hr h6
  · rw [cd_un (by omega)] at hf
    exact cy_fdc (h.2 r f hr hf h6 h5) (cd_un (by omega)) rfl (fun _ _ => rfl) (fun _ _ => rfl)
  · rw [Nat.add_zero, cd_us] at hz
    exact absurd hz (Nat.not_lt_zero i)
theorem cy_R0 {C Z K : Nat → Nat} {rC rS rK : Nat → Int32} : cy_R 0 C Z K rC rS rK :=
  ⟨fun r h => absurd h (Nat.not_lt_zero r), fun r _ h => absurd h (Nat.not_lt_zero r)⟩
/-- taken over into the table, where the limits are kept (which the component's side has shown) -/
theorem cy_tb {n : Nat} {C Z K : Nat → Nat} {rC rS rK cn sz ch cn' sz' ch' : Nat → Int32} (h : cy_R n C Z K rC rS rK) (hn : n ≤ 6) (hx : cd_tb n C Z K cn' sz' ch')
    (h1 : ∀ r, r < n → cn r = rC r) (h2 : ∀ k, k < 30 → sz k = rS k) (h3 : ∀ j, j < 180 → ch j = rK j) : cd_tb n C Z K cn sz ch := by
  intro r hr
  obtain ⟨a1, a2, a3, a4⟩ := hx r hr
  refine ⟨a1, a2, ?_, fun f hf => ?_⟩
  · rw [h1 r hr]
    exact h.1 r hr (by omega)
  · obtain ⟨b1, b2, b3⟩ := a4 f hf
    obtain ⟨c1, c2⟩ := h.2 r f hr hf (by omega) (by omega)
    refine ⟨b1, ?_, fun i hi => ⟨(b3 i hi).1, ?_⟩⟩
    · rw [h2 _ (by omega), c1, if_pos (by omega)]
    · rw [h3 _ (by omega)]
      exact c2 i (by omega) hi
