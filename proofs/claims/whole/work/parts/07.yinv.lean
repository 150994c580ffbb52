/-! what the reference's fields say while it reads: w is (table, longest, most fields, uneven) -/
def cd_b (b : Bool) : Int32 := match b with
  | true => 1
  | false => 0
theorem cd_b0 {b : Bool} : cd_b b = 0 ↔ b = false := by
  cases b
  · exact ⟨fun _ => rfl, fun _ => rfl⟩
  · exact ⟨fun h => absurd h (by decide), fun h => absurd h (by decide)⟩
theorem cy_pl {t : cd_T} {m g : Nat} (h : t.1 = m + 1) (hg : t.2.1 m = g + 1) : cd_pl t = 5 * m + g ∧ cd_f t = g + 1 ∧ cd_z t = t.2.2.1 (5 * m + g) := by
  have e : t.1 - 1 = m := by omega
  have e1 : cd_pl t = 5 * m + g := by
    unfold cd_pl
    rw [e, hg]
    omega
  refine ⟨e1, ?_, ?_⟩
  · unfold cd_f
    rw [e, hg]
  · unfold cd_z
    rw [e1]
/-- inside field g of record m -/
def cy_I (w : cd_W) (m g : Nat) (ov : Int32) (rC rS rK : Nat → Int32) : Prop :=
  w.1.1 = m + 1 ∧ w.1.2.1 m = g + 1 ∧ cy_T m g w.1.2.1 w.1.2.2.1 w.1.2.2.2 rC rS rK ∧
  ∃ b : Bool, ov = cd_b b ∧ (b = true → 6 ≤ m ∨ 5 ≤ g ∨ 5 < w.2.2.1 ∨ 6 < w.2.1) ∧ (5 < w.2.2.1 ∨ 6 < w.2.1 → b = true ∨ 6 ≤ m ∨ 5 ≤ g)
/-- behind it -/
def cy_J (w : cd_W) (m g : Nat) (ov : Int32) (rC rS rK : Nat → Int32) : Prop :=
  w.1.1 = m + 1 ∧ w.1.2.1 m = g + 1 ∧ cy_C m g w.1.2.1 w.1.2.2.1 w.1.2.2.2 rC rS rK ∧
  ∃ b : Bool, ov = cd_b b ∧ (b = true ↔ 6 ≤ m ∨ 5 ≤ g ∨ 5 < w.2.2.1 ∨ 6 < w.2.1)
/-- behind n records -/
def cy_B (w : cd_W) (n : Nat) (ov : Int32) (rC rS rK : Nat → Int32) : Prop :=
  w.1.1 = n ∧ cy_R n w.1.2.1 w.1.2.2.1 w.1.2.2.2 rC rS rK ∧
  ∃ b : Bool, ov = cd_b b ∧ (b = true ↔ 6 < n ∨ 5 < w.2.2.1 ∨ 6 < w.2.1)
/-- even and first, behind m records -/
def cy_E (m mc : Nat) (uv : Bool) (ev fi : Int32) : Prop :=
  ev = cd_b (!uv) ∧ (uv = false → 1 ≤ m → fi = nI mc) ∧ (m = 0 → mc = 0)
theorem cy_oA {w : cd_W} {m g c : Nat} (h : w.1.1 = m + 1) (hg : w.1.2.1 m = g + 1) :
    (cd_oA c w.1).1 = m + 1 ∧ (cd_oA c w.1).2.1 = w.1.2.1 ∧ (cd_oA c w.1).2.2.1 = cd_up w.1.2.2.1 (5 * m + g) (w.1.2.2.1 (5 * m + g) + 1) ∧
    (cd_oA c w.1).2.2.2 = cd_up w.1.2.2.2 (6 * (5 * m + g) + w.1.2.2.1 (5 * m + g)) c := by
  obtain ⟨e1, e2, e3⟩ := cy_pl h hg
  refine ⟨h, rfl, ?_, ?_⟩
  · show cd_up w.1.2.2.1 (cd_pl w.1) (cd_z w.1 + 1) = _
    rw [e1, e3]
  · show cd_up w.1.2.2.2 (6 * cd_pl w.1 + cd_z w.1) c = _
    rw [e1, e3]
theorem cy_Ii {w : cd_W} {m g c : Nat} {ov : Int32} {rC rS rK : Nat → Int32} (h : cy_I w m g ov rC rS rK) (h6 : m < 6) (h5 : g < 5) (hz : cd_z w.1 < 6) :
    cy_I (cd_oA c w.1, cd_mx w.2.1 (cd_z w.1 + 1), w.2.2.1, w.2.2.2) m g ov rC rS (upd rK (6 * (5 * m + g) + cd_z w.1) (nI c)) := by
  obtain ⟨h1, h2, h3, b, h4, h5', h6'⟩ := h
  obtain ⟨e1, e2, e3⟩ := cy_pl h1 h2
  obtain ⟨a1, a2, a3, a4⟩ := cy_oA (c := c) h1 h2
  refine ⟨a1, by show (cd_oA c w.1).2.1 m = g + 1; rw [a2]; exact h2, ?_, b, h4, ?_, ?_⟩
  · show cy_T m g (cd_oA c w.1).2.1 (cd_oA c w.1).2.2.1 (cd_oA c w.1).2.2.2 rC rS _
    rw [a2, a3, a4, e3]
    exact cy_Ta h3 h6 h5
  · intro z
    show 6 ≤ m ∨ 5 ≤ g ∨ 5 < w.2.2.1 ∨ 6 < cd_mx w.2.1 (cd_z w.1 + 1)
    rw [cd_mxl]
    have := h5' z
    omega
  · intro z
    have z' : 5 < w.2.2.1 ∨ 6 < cd_mx w.2.1 (cd_z w.1 + 1) := z
    rw [cd_mxl] at z'
    exact h6' (by omega)
theorem cy_Io {w : cd_W} {m g c : Nat} {ov : Int32} {rC rS rK : Nat → Int32} (h : cy_I w m g ov rC rS rK) (ho : 6 ≤ m ∨ 5 ≤ g ∨ 6 ≤ cd_z w.1) :
    cy_I (cd_oA c w.1, cd_mx w.2.1 (cd_z w.1 + 1), w.2.2.1, w.2.2.2) m g 1 rC rS rK := by
  obtain ⟨h1, h2, h3, b, h4, h5', h6'⟩ := h
  obtain ⟨e1, e2, e3⟩ := cy_pl h1 h2
  obtain ⟨a1, a2, a3, a4⟩ := cy_oA (c := c) h1 h2
  refine ⟨a1, by show (cd_oA c w.1).2.1 m = g + 1; rw [a2]; exact h2, ?_, true, rfl, ?_, fun _ => Or.inl rfl⟩
  · show cy_T m g (cd_oA c w.1).2.1 (cd_oA c w.1).2.2.1 (cd_oA c w.1).2.2.2 rC rS _
    rw [a2, a3, a4]
    exact cy_To h3 (by rw [e3] at ho; exact ho)
  · intro z
    show 6 ≤ m ∨ 5 ≤ g ∨ 5 < w.2.2.1 ∨ 6 < cd_mx w.2.1 (cd_z w.1 + 1)
    rw [cd_mxl]
    omega
theorem cy_IJi {w : cd_W} {m g : Nat} {ov : Int32} {rC rS rK : Nat → Int32} (h : cy_I w m g ov rC rS rK) (h6 : m < 6) (h5 : g < 5) :
    cy_J w m g ov rC (upd rS (5 * m + g) (nI (if cd_z w.1 < 7 then cd_z w.1 else 6))) rK := by
  obtain ⟨h1, h2, h3, b, h4, h5', h6'⟩ := h
  obtain ⟨e1, e2, e3⟩ := cy_pl h1 h2
  refine ⟨h1, h2, by rw [e3]; exact cy_Ci h3 h6 h5, b, h4, h5', fun z => ?_⟩
  rcases h6' (by omega) with z1 | z1
  · exact z1
  · omega
theorem cy_IJo {w : cd_W} {m g : Nat} {ov : Int32} {rC rS rK : Nat → Int32} (h : cy_I w m g ov rC rS rK) (ho : 6 ≤ m ∨ 5 ≤ g) : cy_J w m g 1 rC rS rK := by
  obtain ⟨h1, h2, h3, b, h4, h5', h6'⟩ := h
  exact ⟨h1, h2, cy_Co h3 ho, true, rfl, fun _ => by omega, fun _ => rfl⟩
theorem cy_JI {w : cd_W} {m g : Nat} {ov : Int32} {rC rS rK : Nat → Int32} (h : cy_J w m g ov rC rS rK) :
    cy_I (cd_oF w.1, w.2.1, w.2.2.1, w.2.2.2) m (g + 1) ov rC rS rK := by
  obtain ⟨h1, h2, h3, b, h4, h5⟩ := h
  obtain ⟨e1, e2, e3⟩ := cy_pl h1 h2
  have em : w.1.1 - 1 = m := by omega
  have a2 : (cd_oF w.1).2.1 = cd_up w.1.2.1 m (g + 2) := by
    show cd_up w.1.2.1 (w.1.1 - 1) (cd_f w.1 + 1) = _
    rw [em, e2]
  have a3 : (cd_oF w.1).2.2.1 = cd_up w.1.2.2.1 (5 * m + (g + 1)) 0 := by
    show cd_up w.1.2.2.1 (5 * (w.1.1 - 1) + cd_f w.1) 0 = _
    rw [em, e2]
  refine ⟨h1, by show (cd_oF w.1).2.1 m = g + 1 + 1; rw [a2, cd_us], ?_, b, h4, fun z => ?_, fun z => ?_⟩
  · show cy_T m (g + 1) (cd_oF w.1).2.1 (cd_oF w.1).2.2.1 w.1.2.2.2 rC rS rK
    rw [a2, a3]
    exact cy_CF h3
  · have := h5.mp z
    show 6 ≤ m ∨ 5 ≤ g + 1 ∨ 5 < w.2.2.1 ∨ 6 < w.2.1
    omega
  · exact Or.inl (h5.mpr (by have z' : 5 < w.2.2.1 ∨ 6 < w.2.1 := z; omega))
theorem cy_JBb {w : cd_W} {m g : Nat} {b : Bool} (e2 : cd_f w.1 = g + 1) (h : b = true ↔ 6 ≤ m ∨ 5 ≤ g ∨ 5 < w.2.2.1 ∨ 6 < w.2.1) :
    b = true ↔ 6 < m + 1 ∨ 5 < (cd_cw w).2.2.1 ∨ 6 < (cd_cw w).2.1 := by
  have e : (cd_cw w).2.2.1 = cd_mx w.2.2.1 (cd_f w.1) := rfl
  have e' : (cd_cw w).2.1 = w.2.1 := rfl
  rw [e, e', cd_mxl, e2, h]
  omega
theorem cy_JBi {w : cd_W} {m g : Nat} {ov : Int32} {rC rS rK : Nat → Int32} (h : cy_J w m g ov rC rS rK) :
    cy_B (cd_cw w) (m + 1) ov (upd rC m (nI (g + 1))) rS rK := by
  obtain ⟨h1, h2, h3, b, h4, h5⟩ := h
  exact ⟨h1, cy_CRi h3 h2, b, h4, cy_JBb (cy_pl h1 h2).2.1 h5⟩
theorem cy_JBo {w : cd_W} {m g : Nat} {ov : Int32} {rC rS rK : Nat → Int32} (h : cy_J w m g ov rC rS rK) (ho : 6 ≤ m) :
    cy_B (cd_cw w) (m + 1) ov rC rS rK := by
  obtain ⟨h1, h2, h3, b, h4, h5⟩ := h
  exact ⟨h1, cy_CRo h3 h2 ho, b, h4, cy_JBb (cy_pl h1 h2).2.1 h5⟩
theorem cy_BI {w : cd_W} {n : Nat} {ov : Int32} {rC rS rK : Nat → Int32} (h : cy_B w n ov rC rS rK) :
    cy_I (cd_oR w.1, w.2.1, w.2.2.1, w.2.2.2) n 0 ov rC rS rK := by
  obtain ⟨h1, h2, b, h4, h5⟩ := h
  have a2 : (cd_oR w.1).2.1 = cd_up w.1.2.1 n 1 := by
    show cd_up w.1.2.1 w.1.1 1 = _
    rw [h1]
  have a3 : (cd_oR w.1).2.2.1 = cd_up w.1.2.2.1 (5 * n) 0 := by
    show cd_up w.1.2.2.1 (5 * w.1.1) 0 = _
    rw [h1]
  refine ⟨by show w.1.1 + 1 = n + 1; rw [h1], by show (cd_oR w.1).2.1 n = 0 + 1; rw [a2, cd_us], ?_, b, h4, fun z => ?_, fun z => ?_⟩
  · show cy_T n 0 (cd_oR w.1).2.1 (cd_oR w.1).2.2.1 w.1.2.2.2 rC rS rK
    rw [a2, a3]
    exact cy_RT h2
  · have := h5.mp z
    show 6 ≤ n ∨ 5 ≤ 0 ∨ 5 < w.2.2.1 ∨ 6 < w.2.1
    omega
  · exact Or.inl (h5.mpr (by have z' : 5 < w.2.2.1 ∨ 6 < w.2.1 := z; omega))
/-- even and first over one record's end -/
theorem cy_Es {m mc g : Nat} {uv : Bool} {ev fi ev' fi' : Int32} (h : cy_E m mc uv ev fi) (hb : mc < 2 ^ 31) (hg : g < 2 ^ 31)
    (he : (ev' = 1 ∧ ¬ ev = 0 ∧ (m = 0 ∨ nI g = fi)) ∨ (ev' = 0 ∧ (ev = 0 ∨ (m ≠ 0 ∧ ¬ nI g = fi)))) (hf : (m = 0 ∧ fi' = nI g) ∨ (m ≠ 0 ∧ fi' = fi)) :
    cy_E (m + 1) (cd_mx mc g) (uv || (decide (1 < m + 1) && !decide (g = mc))) ev' fi' := by
  obtain ⟨h1, h2, h3⟩ := h
  refine ⟨?_, ?_, fun z => absurd z (by omega)⟩
  · cases uv with
    | true =>
      rw [Bool.true_or]
      have e0 : ev = 0 := h1
      rcases he with ⟨_, z, _⟩ | ⟨z, _⟩
      · exact absurd e0 z
      · rw [z]; rfl
    | false =>
      rw [Bool.false_or]
      have e1 : ¬ ev = 0 := by rw [h1]; decide
      by_cases m0 : m = 0
      · rw [decide_eq_false (by omega), Bool.false_and]
        rcases he with ⟨z, _⟩ | ⟨_, z | z⟩
        · rw [z]; rfl
        · exact absurd z e1
        · exact absurd m0 z.1
      · rw [decide_eq_true (by omega), Bool.true_and]
        have ef := h2 rfl (by omega)
        rw [ef, nI_eq hg hb] at he
        rcases he with ⟨z, _, z1⟩ | ⟨z, z1⟩
        · have eg : g = mc := by omega
          rw [z, decide_eq_true eg]; rfl
        · have eg : ¬ g = mc := by
            rcases z1 with z1 | z1
            · exact absurd z1 e1
            · exact z1.2
          rw [z, decide_eq_false eg]; rfl
  · intro hu _
    rw [Bool.or_eq_false_iff] at hu
    obtain ⟨u1, u2⟩ := hu
    by_cases m0 : m = 0
    · have := h3 m0
      rcases hf with ⟨_, z⟩ | ⟨z, _⟩
      · rw [z, this]
        unfold cd_mx
        split
        · rfl
        · exact congrArg nI (by omega)
      · exact absurd m0 z
    · rw [decide_eq_true (by omega), Bool.true_and] at u2
      have eg : g = mc := by simpa using u2
      rcases hf with ⟨z, _⟩ | ⟨_, z⟩
      · exact absurd z m0
      · rw [z, h2 u1 (by omega), eg]
        unfold cd_mx
        rw [if_neg (by omega)]
