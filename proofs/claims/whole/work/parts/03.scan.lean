/-! reading, purely: the states of the automaton, and what it has read after n characters -/
def cd_sp (d : Nat) : Nat := if d % 2 = 1 then 6 else 5
def cd_cr (d : Nat) : Bool := decide (d / 2 % 2 = 0)
def cd_es (d : Nat) : Bool := decide (4 ≤ d)
theorem cd_a1 : ∀ d, d < 8 → ((nI d &&& 1) = 0 ∧ ¬ (nI d &&& 1) = 1 ∧ cd_sp d = 5) ∨ (¬ (nI d &&& 1) = 0 ∧ (nI d &&& 1) = 1 ∧ cd_sp d = 6) := by decide +kernel
theorem cd_a2 : ∀ d, d < 8 → ((nI d &&& 2) = 0 ∧ cd_cr d = true) ∨ (¬ (nI d &&& 2) = 0 ∧ cd_cr d = false) := by decide +kernel
theorem cd_a4 : ∀ d, d < 8 → ((nI d &&& 4) = 0 ∧ cd_es d = false) ∨ (¬ (nI d &&& 4) = 0 ∧ cd_es d = true) := by decide +kernel
theorem cd_spr (d : Nat) : cd_sp d = 5 ∨ cd_sp d = 6 := by
  unfold cd_sp
  split
  · exact Or.inr rfl
  · exact Or.inl rfl
abbrev cd_ok (s : Nat) : Prop := s = 0 ∨ s = 1 ∨ s = 2 ∨ s = 5
def cd_stp (d s c : Nat) : Nat :=
  if s = 3 then (if c = 7 then 5 else if c = 10 then (if cd_es d = true then 4 else 7) else 3)
  else if s = 4 then (if c = 7 then 3 else 7)
  else if s = 6 then (if c = 9 then 0 else 7)
  else if s = 7 then 7
  else if c = 7 then (if s = 2 then 7 else if s = 5 then (if cd_es d = true then 7 else 3) else 3)
  else if c = cd_sp d then 1
  else if c = 8 then (if cd_cr d = true then 6 else 7)
  else if c = 9 then (if cd_cr d = true then 7 else 0)
  else if c = 10 then 7
  else if s = 5 then 7 else 2
theorem cd_stpl (d s c : Nat) : cd_stp d s c < 8 := by
  unfold cd_stp
  repeat' split
  all_goals omega
theorem cd_s3q {d : Nat} : cd_stp d 3 7 = 5 := by simp [cd_stp]
theorem cd_s3et {d : Nat} (h : cd_es d = true) : cd_stp d 3 10 = 4 := by simp [cd_stp, h]
theorem cd_s3ef {d : Nat} (h : cd_es d = false) : cd_stp d 3 10 = 7 := by simp [cd_stp, h]
theorem cd_s3o {d c : Nat} (h7 : c ≠ 7) (h10 : c ≠ 10) : cd_stp d 3 c = 3 := by simp [cd_stp, h7, h10]
theorem cd_s4q {d : Nat} : cd_stp d 4 7 = 3 := by simp [cd_stp]
theorem cd_s4o {d c : Nat} (h7 : c ≠ 7) : cd_stp d 4 c = 7 := by simp [cd_stp, h7]
theorem cd_s6n {d : Nat} : cd_stp d 6 9 = 0 := by simp [cd_stp]
theorem cd_s6o {d c : Nat} (h : c ≠ 9) : cd_stp d 6 c = 7 := by simp [cd_stp, h]
theorem cd_s7 {d c : Nat} : cd_stp d 7 c = 7 := by simp [cd_stp]
theorem cd_s2q {d : Nat} : cd_stp d 2 7 = 7 := by simp [cd_stp]
theorem cd_s5qt {d : Nat} (h : cd_es d = true) : cd_stp d 5 7 = 7 := by simp [cd_stp, h]
theorem cd_s5qf {d : Nat} (h : cd_es d = false) : cd_stp d 5 7 = 3 := by simp [cd_stp, h]
theorem cd_s01q {d s : Nat} (h : s = 0 ∨ s = 1) : cd_stp d s 7 = 3 := by
  rcases h with rfl | rfl
  · simp [cd_stp]
  · simp [cd_stp]
theorem cd_sos {d s : Nat} (h : cd_ok s) : cd_stp d s (cd_sp d) = 1 := by
  rcases cd_spr d with e | e <;> rcases h with rfl | rfl | rfl | rfl <;> simp [cd_stp, e]
theorem cd_sop {d s c : Nat} (h : s = 0 ∨ s = 1 ∨ s = 2) (h1 : c ≠ cd_sp d) (h2 : c < 7) : cd_stp d s c = 2 := by
  have a7 : c ≠ 7 := by omega
  have a8 : c ≠ 8 := by omega
  have a9 : c ≠ 9 := by omega
  have a10 : c ≠ 10 := by omega
  rcases h with rfl | rfl | rfl <;> simp [cd_stp, h1, a7, a8, a9, a10]
/-- behind a field that has ended -/
def cd_nx (d c : Nat) : Nat :=
  if c = cd_sp d then 1 else if c = 8 then (if cd_cr d = true then 6 else 7) else if c = 9 then (if cd_cr d = true then 7 else 0) else 7
theorem cd_nx5 {d c : Nat} (h : cd_es d = true ∨ c ≠ 7) : cd_stp d 5 c = cd_nx d c := by
  by_cases c7 : c = 7
  · subst c7
    have e : cd_es d = true := by
      rcases h with h | h
      · exact h
      · exact absurd rfl h
    rcases cd_spr d with hs | hs <;> simp [cd_stp, cd_nx, e, hs]
  · simp only [cd_stp, cd_nx, if_neg c7]
    by_cases cs : c = cd_sp d
    · simp [cs]
    · by_cases c8 : c = 8
      · simp [c8, cs]
      · by_cases c9 : c = 9
        · simp [c9, c8, cs]
        · simp [c9, c8, cs]
theorem cd_nx2 {d c : Nat} (h : c = cd_sp d ∨ 7 ≤ c) (h10 : c ≤ 10) : cd_stp d 2 c = cd_nx d c := by
  by_cases cs : c = cd_sp d
  · subst cs
    rcases cd_spr d with hs | hs <;> simp [cd_stp, cd_nx, hs]
  · have h7 : 7 ≤ c := by
      rcases h with h | h
      · exact absurd h cs
      · exact h
    have hc : c = 7 ∨ c = 8 ∨ c = 9 ∨ c = 10 := by omega
    rcases hc with e | e | e | e <;> subst e <;> simp [cd_stp, cd_nx, cs]
theorem cd_nx01 {d s c : Nat} (h01 : s = 0 ∨ s = 1) (h : c = cd_sp d ∨ 7 ≤ c) (h7 : c ≠ 7) (h10 : c ≤ 10) : cd_stp d s c = cd_nx d c := by
  by_cases cs : c = cd_sp d
  · subst cs
    rcases cd_spr d with hs | hs <;> rcases h01 with rfl | rfl <;> simp [cd_stp, cd_nx, hs]
  · have hc : c = 8 ∨ c = 9 ∨ c = 10 := by
      rcases h with h | h
      · exact absurd h cs
      · omega
    rcases hc with e | e | e <;> subst e <;> rcases h01 with rfl | rfl <;> simp [cd_stp, cd_nx, cs]
/-- from every state but 7 some characters lead to one that reads -/
theorem cd_beg {d s : Nat} (h8 : s < 8) : (cd_ok s ∨ cd_ok (cd_stp d s 9) ∨ cd_ok (cd_stp d s 7) ∨ cd_ok (cd_stp d (cd_stp d s 7) 7)) ↔ s ≠ 7 := by
  have hc : s = 0 ∨ s = 1 ∨ s = 2 ∨ s = 3 ∨ s = 4 ∨ s = 5 ∨ s = 6 ∨ s = 7 := by omega
  rcases hc with e | e | e | e | e | e | e | e <;> subst e
  · exact ⟨fun _ => by decide, fun _ => Or.inl (by decide)⟩
  · exact ⟨fun _ => by decide, fun _ => Or.inl (by decide)⟩
  · exact ⟨fun _ => by decide, fun _ => Or.inl (by decide)⟩
  · exact ⟨fun _ => by decide, fun _ => Or.inr (Or.inr (Or.inl (by rw [cd_s3q]; decide)))⟩
  · exact ⟨fun _ => by decide, fun _ => Or.inr (Or.inr (Or.inr (by rw [cd_s4q, cd_s3q]; decide)))⟩
  · exact ⟨fun _ => by decide, fun _ => Or.inl (by decide)⟩
  · exact ⟨fun _ => by decide, fun _ => Or.inr (Or.inl (by rw [cd_s6n]; decide))⟩
  · rw [cd_s7, cd_s7, cd_s7]
    exact ⟨fun h => absurd h (by decide), fun h => absurd rfl h⟩
def cd_S (d : Nat) (R : Nat → Nat) : Nat → Nat
  | 0 => 0
  | n + 1 => cd_stp d (cd_S d R n) (R n)
theorem cd_Ss (d : Nat) (R : Nat → Nat) (n : Nat) : cd_S d R (n + 1) = cd_stp d (cd_S d R n) (R n) := rfl
theorem cd_Sl (d : Nat) (R : Nat → Nat) (n : Nat) : cd_S d R n < 8 := by
  cases n with
  | zero => exact (by decide : (0 : Nat) < 8)
  | succ n => exact cd_stpl _ _ _
theorem cd_S7 {d : Nat} {R : Nat → Nat} {m n : Nat} (h : cd_S d R m = 7) (hn : m ≤ n) : cd_S d R n = 7 := by
  induction n with
  | zero =>
    have e : m = 0 := by omega
    rw [e] at h
    exact h
  | succ n ih =>
    by_cases e : m = n + 1
    · rw [e] at h
      exact h
    · rw [cd_Ss, ih (by omega), cd_s7]
theorem cd_Sc {d : Nat} {R R' : Nat → Nat} {n : Nat} (h : ∀ i, i < n → R i = R' i) : cd_S d R n = cd_S d R' n := by
  induction n with
  | zero => rfl
  | succ n ih => rw [cd_Ss, cd_Ss, ih (fun i hi => h i (by omega)), h n (by omega)]
/-- how many steps don't end in state 7 -/
def cd_so (d : Nat) (R : Nat → Nat) : Nat → Nat
  | 0 => 0
  | n + 1 => if cd_S d R (n + 1) = 7 then cd_so d R n else cd_so d R n + 1
theorem cd_sos7 {d : Nat} {R : Nat → Nat} {m n : Nat} (h : cd_S d R m = 7) (hn : m ≤ n) : cd_so d R n = cd_so d R m := by
  induction n with
  | zero =>
    have e : m = 0 := by omega
    rw [e]
  | succ n ih =>
    by_cases e : m = n + 1
    · rw [e]
    · show (if cd_S d R (n + 1) = 7 then cd_so d R n else cd_so d R n + 1) = _
      rw [if_pos (cd_S7 h (by omega)), ih (by omega)]
theorem cd_so_n {d : Nat} {R : Nat → Nat} {n : Nat} (h : cd_S d R n ≠ 7) : cd_so d R n = n := by
  induction n with
  | zero => rfl
  | succ n ih =>
    show (if cd_S d R (n + 1) = 7 then cd_so d R n else cd_so d R n + 1) = _
    rw [if_neg h, ih (fun z => h (by rw [cd_Ss, z, cd_s7]))]
/-- the greatest n of the states that aren't 7 -/
theorem cd_so_k {d : Nat} {R : Nat → Nat} {k n : Nat} (hk : k ≤ n) (h : cd_S d R k ≠ 7) (h1 : ∀ j, k < j → j ≤ n → cd_S d R j = 7) : cd_so d R n = k := by
  by_cases e : k = n
  · rw [← e]
    exact cd_so_n h
  · have h7 := h1 (k + 1) (by omega) (by omega)
    rw [cd_sos7 h7 (by omega)]
    show (if cd_S d R (k + 1) = 7 then cd_so d R k else cd_so d R k + 1) = _
    rw [if_pos h7]
    exact cd_so_n h
/-- the table that is read: (records, counts, sizes, characters) -/
abbrev cd_T : Type := Nat × (Nat → Nat) × (Nat → Nat) × (Nat → Nat)
def cd_f (t : cd_T) : Nat := t.2.1 (t.1 - 1)
def cd_pl (t : cd_T) : Nat := 5 * (t.1 - 1) + (t.2.1 (t.1 - 1) - 1)
def cd_z (t : cd_T) : Nat := t.2.2.1 (cd_pl t)
def cd_oR (t : cd_T) : cd_T := (t.1 + 1, cd_up t.2.1 t.1 1, cd_up t.2.2.1 (5 * t.1) 0, t.2.2.2)
def cd_oF (t : cd_T) : cd_T := (t.1, cd_up t.2.1 (t.1 - 1) (cd_f t + 1), cd_up t.2.2.1 (5 * (t.1 - 1) + cd_f t) 0, t.2.2.2)
def cd_oA (c : Nat) (t : cd_T) : cd_T := (t.1, t.2.1, cd_up t.2.2.1 (cd_pl t) (cd_z t + 1), cd_up t.2.2.2 (6 * cd_pl t + cd_z t) c)
theorem cd_oRf (t : cd_T) : cd_f (cd_oR t) = 1 := cd_us
theorem cd_oRp (t : cd_T) : cd_pl (cd_oR t) = 5 * t.1 := by
  show 5 * (t.1 + 1 - 1) + (cd_up t.2.1 t.1 1 (t.1 + 1 - 1) - 1) = 5 * t.1
  rw [Nat.add_sub_cancel, cd_us]
  omega
theorem cd_oRz (t : cd_T) : cd_z (cd_oR t) = 0 := by
  unfold cd_z
  rw [cd_oRp]
  exact cd_us
theorem cd_oFf (t : cd_T) : cd_f (cd_oF t) = cd_f t + 1 := cd_us
theorem cd_oFp (t : cd_T) : cd_pl (cd_oF t) = 5 * (t.1 - 1) + cd_f t := by
  show 5 * (t.1 - 1) + (cd_f (cd_oF t) - 1) = _
  rw [cd_oFf, Nat.add_sub_cancel]
theorem cd_oFz (t : cd_T) : cd_z (cd_oF t) = 0 := by
  unfold cd_z
  rw [cd_oFp]
  exact cd_us
theorem cd_oAf (c : Nat) (t : cd_T) : cd_f (cd_oA c t) = cd_f t := rfl
theorem cd_oAz (c : Nat) (t : cd_T) : cd_z (cd_oA c t) = cd_z t + 1 := cd_us
/-- a step from state s to state s' reads a character of a field -/
def cd_ct (s s' : Nat) : Bool := decide (s' = 2) || (decide (s' = 3) && !(decide (s = 0) || decide (s = 1)))
def cd_ob (s : Nat) (t : cd_T) : cd_T := if s = 0 then cd_oR t else t
def cd_ts (s s' c : Nat) (t : cd_T) : cd_T := if s' = 1 then cd_oF t else if cd_ct s s' = true then cd_oA c t else t
def cd_t (d : Nat) (R : Nat → Nat) : Nat → cd_T
  | 0 => (0, fun _ => 0, fun _ => 0, fun _ => 0)
  | n + 1 => cd_ts (cd_S d R n) (cd_S d R (n + 1)) (R n) (cd_ob (cd_S d R n) (cd_t d R n))
/-- the same, with the record that the next character begins -/
def cd_t' (d : Nat) (R : Nat → Nat) (n : Nat) : cd_T := cd_ob (cd_S d R n) (cd_t d R n)
theorem cd_ts1 (d : Nat) (R : Nat → Nat) (n : Nat) : cd_t d R (n + 1) = cd_ts (cd_S d R n) (cd_S d R (n + 1)) (R n) (cd_t' d R n) := rfl
theorem cd_t'n {d : Nat} {R : Nat → Nat} {n : Nat} (h : cd_S d R n ≠ 0) : cd_t' d R n = cd_t d R n := if_neg h
theorem cd_t'0 {d : Nat} {R : Nat → Nat} {n : Nat} (h : cd_S d R n = 0) : cd_t' d R n = cd_oR (cd_t d R n) := if_pos h
def cd_mx (a b : Nat) : Nat := if a < b then b else a
theorem cd_mxl (k a b : Nat) : k < cd_mx a b ↔ k < a ∨ k < b := by
  unfold cd_mx
  split <;> omega
theorem cd_mxe (k a b : Nat) : cd_mx a b ≤ k ↔ a ≤ k ∧ b ≤ k := by
  unfold cd_mx
  split <;> omega
def cd_lg (d : Nat) (R : Nat → Nat) : Nat → Nat
  | 0 => 0
  | n + 1 => if cd_ct (cd_S d R n) (cd_S d R (n + 1)) = true then cd_mx (cd_lg d R n) (cd_z (cd_t d R (n + 1))) else cd_lg d R n
def cd_mc (d : Nat) (R : Nat → Nat) : Nat → Nat
  | 0 => 0
  | n + 1 => if cd_S d R (n + 1) = 0 then cd_mx (cd_mc d R n) (cd_f (cd_t d R (n + 1))) else cd_mc d R n
def cd_uv (d : Nat) (R : Nat → Nat) : Nat → Bool
  | 0 => false
  | n + 1 => cd_uv d R n || (decide (cd_S d R (n + 1) = 0) && (decide (1 < (cd_t d R (n + 1)).1) && !decide (cd_f (cd_t d R (n + 1)) = cd_mc d R n)))
