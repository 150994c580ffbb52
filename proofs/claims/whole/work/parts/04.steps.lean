/-! what one character does to all that is counted -/
abbrev cd_W : Type := cd_T × Nat × Nat × Bool
/-- in a record: table, longest, most fields of the ended records, uneven -/
def cd_v (d : Nat) (R : Nat → Nat) (n : Nat) : cd_W := (cd_t' d R n, cd_lg d R n, cd_mc d R n, cd_uv d R n)
def cd_cw (w : cd_W) : cd_W := (w.1, w.2.1, cd_mx w.2.2.1 (cd_f w.1), w.2.2.2 || (decide (1 < w.1.1) && !decide (cd_f w.1 = w.2.2.1)))
/-- with the last record ended -/
def cd_e (d : Nat) (R : Nat → Nat) (n : Nat) : cd_W := if cd_S d R n = 0 then (cd_t d R n, cd_lg d R n, cd_mc d R n, cd_uv d R n) else cd_cw (cd_v d R n)
theorem cd_e0 {d : Nat} {R : Nat → Nat} {n : Nat} (h : cd_S d R n = 0) : cd_e d R n = (cd_t d R n, cd_lg d R n, cd_mc d R n, cd_uv d R n) := if_pos h
theorem cd_en {d : Nat} {R : Nat → Nat} {n : Nat} (h : cd_S d R n ≠ 0) : cd_e d R n = cd_cw (cd_v d R n) := if_neg h
theorem cd_v0 {d : Nat} {R : Nat → Nat} {n : Nat} (h : cd_S d R n = 0) : cd_v d R n = (cd_oR (cd_e d R n).1, (cd_e d R n).2.1, (cd_e d R n).2.2.1, (cd_e d R n).2.2.2) := by
  rw [cd_e0 h]
  unfold cd_v
  rw [cd_t'0 h]
theorem cd_mc_n {d : Nat} {R : Nat → Nat} {n : Nat} (h : cd_S d R (n + 1) ≠ 0) : cd_mc d R (n + 1) = cd_mc d R n := if_neg h
theorem cd_uv_n {d : Nat} {R : Nat → Nat} {n : Nat} (h : cd_S d R (n + 1) ≠ 0) : cd_uv d R (n + 1) = cd_uv d R n := by
  show (cd_uv d R n || (decide (cd_S d R (n + 1) = 0) && _)) = cd_uv d R n
  rw [decide_eq_false h, Bool.false_and, Bool.or_false]
theorem cd_ct0 (s : Nat) : cd_ct s 0 = false := by simp [cd_ct]
theorem cd_ct1 (s : Nat) : cd_ct s 1 = false := by simp [cd_ct]
theorem cd_ct4 (s : Nat) : cd_ct s 4 = false := by simp [cd_ct]
theorem cd_ct5 (s : Nat) : cd_ct s 5 = false := by simp [cd_ct]
theorem cd_ct6 (s : Nat) : cd_ct s 6 = false := by simp [cd_ct]
theorem cd_ct7 (s : Nat) : cd_ct s 7 = false := by simp [cd_ct]
theorem cd_ct2 (s : Nat) : cd_ct s 2 = true := by simp [cd_ct]
theorem cd_ct03 {s : Nat} (h : s = 0 ∨ s = 1) : cd_ct s 3 = false := by
  rcases h with h | h <;> subst h <;> decide
theorem cd_ct3 {s : Nat} (h0 : s ≠ 0) (h1 : s ≠ 1) : cd_ct s 3 = true := by simp [cd_ct, h0, h1]
theorem cd_ctn {s s' : Nat} (h : cd_ct s s' = true) : s' = 2 ∨ s' = 3 := by
  by_cases h2 : s' = 2
  · exact Or.inl h2
  · by_cases h3 : s' = 3
    · exact Or.inr h3
    · simp [cd_ct, h2, h3] at h
theorem cd_lg_n {d : Nat} {R : Nat → Nat} {n : Nat} (h : cd_ct (cd_S d R n) (cd_S d R (n + 1)) = false) : cd_lg d R (n + 1) = cd_lg d R n := by
  show (if cd_ct (cd_S d R n) (cd_S d R (n + 1)) = true then _ else cd_lg d R n) = _
  rw [h]
  exact if_neg (by decide)
theorem cd_lg_c {d : Nat} {R : Nat → Nat} {n : Nat} (h : cd_ct (cd_S d R n) (cd_S d R (n + 1)) = true) : cd_lg d R (n + 1) = cd_mx (cd_lg d R n) (cd_z (cd_t d R (n + 1))) := if_pos h
/-- a step inside a field that reads no character -/
theorem cd_vn {d : Nat} {R : Nat → Nat} {q : Nat} (h0 : cd_S d R (q + 1) ≠ 0) (h1 : cd_S d R (q + 1) ≠ 1) (hc : cd_ct (cd_S d R q) (cd_S d R (q + 1)) = false) : cd_v d R (q + 1) = cd_v d R q := by
  have e : cd_t' d R (q + 1) = cd_t' d R q := by
    rw [cd_t'n h0, cd_ts1]
    unfold cd_ts
    rw [if_neg h1, hc]
    exact if_neg (by decide)
  unfold cd_v
  rw [e, cd_mc_n h0, cd_uv_n h0, cd_lg_n hc]
/-- a step that reads a character -/
theorem cd_vc {d : Nat} {R : Nat → Nat} {q : Nat} (hc : cd_ct (cd_S d R q) (cd_S d R (q + 1)) = true) :
    cd_v d R (q + 1) = (cd_oA (R q) (cd_t' d R q), cd_mx (cd_lg d R q) (cd_z (cd_t' d R q) + 1), cd_mc d R q, cd_uv d R q) := by
  have h0 : cd_S d R (q + 1) ≠ 0 := by
    intro z
    rw [z, cd_ct0] at hc
    exact absurd hc (by decide)
  have h1 : cd_S d R (q + 1) ≠ 1 := by
    intro z
    rw [z, cd_ct1] at hc
    exact absurd hc (by decide)
  have e : cd_t d R (q + 1) = cd_oA (R q) (cd_t' d R q) := by
    rw [cd_ts1]
    unfold cd_ts
    rw [if_neg h1, if_pos hc]
  unfold cd_v
  rw [cd_t'n h0, cd_mc_n h0, cd_uv_n h0, cd_lg_c hc, e, cd_oAz]
/-- the separator -/
theorem cd_vf {d : Nat} {R : Nat → Nat} {q : Nat} (h1 : cd_S d R (q + 1) = 1) :
    cd_v d R (q + 1) = (cd_oF (cd_t' d R q), cd_lg d R q, cd_mc d R q, cd_uv d R q) := by
  have h0 : cd_S d R (q + 1) ≠ 0 := by rw [h1]; decide
  have hc : cd_ct (cd_S d R q) (cd_S d R (q + 1)) = false := by rw [h1]; exact cd_ct1 _
  have e : cd_t d R (q + 1) = cd_oF (cd_t' d R q) := by
    rw [cd_ts1]
    unfold cd_ts
    rw [if_pos h1]
  unfold cd_v
  rw [cd_t'n h0, cd_mc_n h0, cd_uv_n h0, cd_lg_n hc, e]
/-- the record's end -/
theorem cd_ve {d : Nat} {R : Nat → Nat} {q : Nat} (h : cd_S d R (q + 1) = 0) : cd_e d R (q + 1) = cd_cw (cd_v d R q) := by
  have hc : cd_ct (cd_S d R q) (cd_S d R (q + 1)) = false := by rw [h]; exact cd_ct0 _
  have e : cd_t d R (q + 1) = cd_t' d R q := by
    rw [cd_ts1]
    unfold cd_ts
    rw [if_neg (by rw [h]; decide), hc]
    exact if_neg (by decide)
  have em : cd_mc d R (q + 1) = cd_mx (cd_mc d R q) (cd_f (cd_t d R (q + 1))) := if_pos h
  have eu : cd_uv d R (q + 1) = (cd_uv d R q || (decide (1 < (cd_t d R (q + 1)).1) && !decide (cd_f (cd_t d R (q + 1)) = cd_mc d R q))) := by
    show (cd_uv d R q || (decide (cd_S d R (q + 1) = 0) && _)) = _
    rw [decide_eq_true h, Bool.true_and]
  rw [cd_e0 h, em, eu, cd_lg_n hc, e]
  rfl
/-- bounds -/
theorem cd_t'p (d : Nat) (R : Nat → Nat) (n : Nat) : 1 ≤ (cd_t' d R n).1 ∧ 1 ≤ cd_f (cd_t' d R n) := by
  induction n with
  | zero => exact ⟨Nat.le_refl 1, Nat.le_refl 1⟩
  | succ n ih =>
    by_cases h : cd_S d R (n + 1) = 0
    · rw [cd_t'0 h, cd_oRf]
      exact ⟨Nat.le_add_left 1 _, Nat.le_refl 1⟩
    · rw [cd_t'n h, cd_ts1]
      unfold cd_ts
      split
      · rw [cd_oFf]
        exact ⟨ih.1, Nat.le_add_left 1 _⟩
      · split
        · rw [cd_oAf]
          exact ih
        · exact ih
theorem cd_tsb {s s' c : Nat} {t : cd_T} {n : Nat} (h : t.1 ≤ n ∧ cd_f t ≤ n ∧ cd_z t ≤ n) : (cd_ts s s' c t).1 = t.1 ∧ cd_f (cd_ts s s' c t) ≤ n + 1 ∧ cd_z (cd_ts s s' c t) ≤ n + 1 ∧ cd_f t ≤ cd_f (cd_ts s s' c t) := by
  unfold cd_ts
  split
  · rw [cd_oFf, cd_oFz]
    exact ⟨rfl, by omega, by omega, by omega⟩
  · split
    · rw [cd_oAf, cd_oAz]
      exact ⟨rfl, by omega, by omega, by omega⟩
    · exact ⟨rfl, by omega, by omega, by omega⟩
theorem cd_tb1 (d : Nat) (R : Nat → Nat) (n : Nat) : (cd_t d R n).1 ≤ n ∧ cd_f (cd_t d R n) ≤ n + 1 ∧ cd_z (cd_t d R n) ≤ n ∧ (cd_t' d R n).1 ≤ n + 1 ∧ cd_f (cd_t' d R n) ≤ n + 1 ∧ cd_z (cd_t' d R n) ≤ n := by
  induction n with
  | zero => exact ⟨Nat.le_refl 0, Nat.le_succ 0, Nat.le_refl 0, Nat.le_refl 1, Nat.le_refl 1, Nat.le_refl 0⟩
  | succ n ih =>
    obtain ⟨_, _, _, i1, i2, i3⟩ := ih
    have b := cd_tsb (s := cd_S d R n) (s' := cd_S d R (n + 1)) (c := R n) (t := cd_t' d R n) (n := n + 1) ⟨i1, i2, by omega⟩
    have b3 : cd_z (cd_t d R (n + 1)) ≤ n + 1 := by
      rw [cd_ts1]
      unfold cd_ts
      split
      · rw [cd_oFz]; omega
      · split
        · rw [cd_oAz]; omega
        · omega
    rw [← cd_ts1] at b
    refine ⟨by omega, by omega, b3, ?_⟩
    by_cases h : cd_S d R (n + 1) = 0
    · rw [cd_t'0 h, cd_oRf, cd_oRz]
      refine ⟨?_, by omega, by omega⟩
      show (cd_t d R (n + 1)).1 + 1 ≤ _
      omega
    · rw [cd_t'n h]
      exact ⟨by omega, by omega, b3⟩
theorem cd_lgb (d : Nat) (R : Nat → Nat) (n : Nat) : cd_lg d R n ≤ n := by
  induction n with
  | zero => exact Nat.le_refl 0
  | succ n ih =>
    show (if cd_ct (cd_S d R n) (cd_S d R (n + 1)) = true then cd_mx (cd_lg d R n) (cd_z (cd_t d R (n + 1))) else cd_lg d R n) ≤ _
    split
    · rw [cd_mxe]
      exact ⟨by omega, (cd_tb1 d R (n + 1)).2.2.1⟩
    · omega
theorem cd_mcb (d : Nat) (R : Nat → Nat) (n : Nat) : cd_mc d R n ≤ n + 1 := by
  induction n with
  | zero => exact Nat.zero_le _
  | succ n ih =>
    show (if cd_S d R (n + 1) = 0 then cd_mx (cd_mc d R n) (cd_f (cd_t d R (n + 1))) else cd_mc d R n) ≤ _
    split
    · rw [cd_mxe]
      exact ⟨by omega, (cd_tb1 d R (n + 1)).2.1⟩
    · omega
theorem cd_sob (d : Nat) (R : Nat → Nat) (n : Nat) : cd_so d R n ≤ n := by
  induction n with
  | zero => exact Nat.le_refl 0
  | succ n ih =>
    show (if cd_S d R (n + 1) = 7 then cd_so d R n else cd_so d R n + 1) ≤ _
    split <;> omega
/-- the limits, and that they are kept at every step if they are at the end -/
def cd_lim (w : cd_W) : Prop := w.1.1 ≤ 6 ∧ w.2.2.1 ≤ 5 ∧ w.2.1 ≤ 6
theorem cd_e1 (d : Nat) (R : Nat → Nat) (n : Nat) : (cd_e d R n).1 = cd_t d R n ∧ (cd_e d R n).2.1 = cd_lg d R n := by
  by_cases h : cd_S d R n = 0
  · rw [cd_e0 h]
    exact ⟨rfl, rfl⟩
  · rw [cd_en h]
    exact ⟨cd_t'n h, rfl⟩
theorem cd_em (d : Nat) (R : Nat → Nat) (n : Nat) : cd_mc d R n ≤ (cd_e d R n).2.2.1 ∧ (cd_S d R n ≠ 0 → cd_f (cd_t d R n) ≤ (cd_e d R n).2.2.1) := by
  by_cases h : cd_S d R n = 0
  · rw [cd_e0 h]
    exact ⟨Nat.le_refl _, fun z => absurd h z⟩
  · rw [cd_en h]
    have e : (cd_cw (cd_v d R n)).2.2.1 = cd_mx (cd_mc d R n) (cd_f (cd_t' d R n)) := rfl
    rw [e, cd_t'n h]
    have := (cd_mxe (cd_mx (cd_mc d R n) (cd_f (cd_t d R n))) (cd_mc d R n) (cd_f (cd_t d R n))).mp (Nat.le_refl _)
    exact ⟨this.1, fun _ => this.2⟩
theorem cd_lims {d : Nat} {R : Nat → Nat} {i : Nat} (h : cd_lim (cd_e d R (i + 1))) : cd_lim (cd_e d R i) := by
  obtain ⟨h1, h2, h3⟩ := h
  rw [(cd_e1 d R (i + 1)).1] at h1
  rw [(cd_e1 d R (i + 1)).2] at h3
  have b := cd_tsb (s := cd_S d R i) (s' := cd_S d R (i + 1)) (c := R i) (t := cd_t' d R i) (n := i + 1) ⟨(cd_tb1 d R i).2.2.2.1, (cd_tb1 d R i).2.2.2.2.1, by have := (cd_tb1 d R i).2.2.2.2.2; omega⟩
  rw [← cd_ts1] at b
  have hl : cd_lg d R i ≤ cd_lg d R (i + 1) := by
    show _ ≤ (if cd_ct (cd_S d R i) (cd_S d R (i + 1)) = true then cd_mx (cd_lg d R i) (cd_z (cd_t d R (i + 1))) else cd_lg d R i)
    split
    · exact ((cd_mxe _ _ _).mp (Nat.le_refl _)).1
    · exact Nat.le_refl _
  have hm := cd_em d R (i + 1)
  have hmc : cd_mc d R i ≤ cd_mc d R (i + 1) ∧ (cd_S d R (i + 1) = 0 → cd_f (cd_t d R (i + 1)) ≤ cd_mc d R (i + 1)) := by
    show _ ≤ (if cd_S d R (i + 1) = 0 then cd_mx (cd_mc d R i) (cd_f (cd_t d R (i + 1))) else cd_mc d R i) ∧ (cd_S d R (i + 1) = 0 → _ ≤ (if cd_S d R (i + 1) = 0 then cd_mx (cd_mc d R i) (cd_f (cd_t d R (i + 1))) else cd_mc d R i))
    split
    · exact ⟨((cd_mxe _ _ _).mp (Nat.le_refl _)).1, fun _ => ((cd_mxe _ _ _).mp (Nat.le_refl _)).2⟩
    · exact ⟨Nat.le_refl _, fun z => absurd z (by assumption)⟩
  have hf : cd_f (cd_t d R (i + 1)) ≤ 5 := by
    by_cases z : cd_S d R (i + 1) = 0
    · have := hmc.2 z
      omega
    · have := hm.2 z
      omega
  by_cases h : cd_S d R i = 0
  · rw [cd_e0 h]
    rw [cd_t'0 h] at b
    have e : (cd_oR (cd_t d R i)).1 = (cd_t d R i).1 + 1 := rfl
    rw [e] at b
    exact ⟨by show (cd_t d R i).1 ≤ 6; omega, by show cd_mc d R i ≤ 5; omega, by show cd_lg d R i ≤ 6; omega⟩
  · rw [cd_en h]
    rw [cd_t'n h] at b
    have e : cd_cw (cd_v d R i) = (cd_t d R i, cd_lg d R i, cd_mx (cd_mc d R i) (cd_f (cd_t d R i)), (cd_cw (cd_v d R i)).2.2.2) := by
      unfold cd_cw cd_v
      rw [cd_t'n h]
    rw [e]
    refine ⟨by show (cd_t d R i).1 ≤ 6; omega, ?_, by show cd_lg d R i ≤ 6; omega⟩
    show cd_mx (cd_mc d R i) (cd_f (cd_t d R i)) ≤ 5
    rw [cd_mxe]
    omega
theorem cd_limi {d : Nat} {R : Nat → Nat} {i n : Nat} (hi : i ≤ n) (h : cd_lim (cd_e d R n)) : cd_lim (cd_e d R i) := by
  induction n with
  | zero =>
    have e : i = 0 := by omega
    rw [e]
    exact h
  | succ n ih =>
    by_cases e : i = n + 1
    · rw [e]
      exact h
    · exact ih (by omega) (cd_lims h)
/-- what the limits say of one step -/
theorem cd_limx {d : Nat} {R : Nat → Nat} {i : Nat} (h : cd_lim (cd_e d R (i + 1))) :
    (cd_S d R i = 0 → (cd_t d R i).1 < 6) ∧ (cd_S d R (i + 1) = 1 → cd_f (cd_t' d R i) < 5) ∧ (cd_ct (cd_S d R i) (cd_S d R (i + 1)) = true → cd_z (cd_t' d R i) < 6) := by
  obtain ⟨h1, h2, h3⟩ := h
  rw [(cd_e1 d R (i + 1)).1] at h1
  rw [(cd_e1 d R (i + 1)).2] at h3
  refine ⟨fun z => ?_, fun z => ?_, fun z => ?_⟩
  · have b := cd_tsb (s := cd_S d R i) (s' := cd_S d R (i + 1)) (c := R i) (t := cd_t' d R i) (n := i + 1) ⟨(cd_tb1 d R i).2.2.2.1, (cd_tb1 d R i).2.2.2.2.1, by have := (cd_tb1 d R i).2.2.2.2.2; omega⟩
    rw [← cd_ts1, cd_t'0 z] at b
    have e : (cd_oR (cd_t d R i)).1 = (cd_t d R i).1 + 1 := rfl
    rw [e] at b
    omega
  · have hm := (cd_em d R (i + 1)).2 (by rw [z]; decide)
    rw [cd_ts1] at hm
    unfold cd_ts at hm
    rw [if_pos z, cd_oFf] at hm
    omega
  · have e := cd_lg_c z
    have e2 := congrArg (fun w : cd_W => w.2.1) (cd_vc z)
    have e3 : cd_lg d R (i + 1) = cd_mx (cd_lg d R i) (cd_z (cd_t' d R i) + 1) := e2
    rw [e3, cd_mxe] at h3
    omega
/-- the escape is no character of a field -/
theorem cd_c9 {d s c : Nat} (h : cd_ct s (cd_stp d s c) = true) (hc : c ≤ 10) : c ≤ 9 := by
  by_cases e : c = 10
  · subst e
    exfalso
    have hs := cd_ctn h
    have n2 : cd_stp d s 10 ≠ 2 ∧ cd_stp d s 10 ≠ 3 := by
      unfold cd_stp
      repeat' split
      all_goals omega
    omega
  · omega
