/-! writing, purely: (how many characters, which) -/
abbrev cd_O : Type := Nat × (Nat → Nat)
def cw_em (w : cd_O) (c : Nat) : cd_O := (w.1 + 1, cd_up w.2 w.1 c)
/-- n characters from place b on; q stands before a quote -/
def cw_ch (q : Nat) (K : Nat → Nat) (b : Nat) (w : cd_O) : Nat → cd_O
  | 0 => w
  | i + 1 => cw_em (if K (b + i) = 7 then cw_em (cw_ch q K b w i) q else cw_ch q K b w i) (K (b + i))
/-- one of the first n characters wants quotes -/
def cw_nq (s : Nat) (K : Nat → Nat) (b : Nat) : Nat → Bool
  | 0 => false
  | i + 1 => cw_nq s K b i || (decide (K (b + i) = s) || decide (7 ≤ K (b + i)))
def cw_q (s : Nat) (C Z K : Nat → Nat) (r f : Nat) : Bool :=
  cw_nq s K (6 * (5 * r + f)) (Z (5 * r + f)) || (decide (Z (5 * r + f) = 0) && decide (C r = 1))
def cw_bq (d : Nat) : Nat := if cd_es d = true then 10 else 7
def cw_o (b : Bool) (w : cd_O) (c : Nat) : cd_O := if b = true then cw_em w c else w
def cw_f (d : Nat) (C Z K : Nat → Nat) (r f : Nat) (w : cd_O) : cd_O :=
  cw_o (cw_q (cd_sp d) C Z K r f) (cw_ch (cw_bq d) K (6 * (5 * r + f)) (cw_o (cw_q (cd_sp d) C Z K r f) w 7) (Z (5 * r + f))) 7
def cw_r (d : Nat) (C Z K : Nat → Nat) (r : Nat) (w : cd_O) : Nat → cd_O
  | 0 => w
  | f + 1 => cw_f d C Z K r f (if f = 0 then cw_r d C Z K r w f else cw_em (cw_r d C Z K r w f) (cd_sp d))
def cw_e (d : Nat) (w : cd_O) : cd_O := cw_em (cw_o (cd_cr d) w 8) 9
def cw_a (d : Nat) (C Z K : Nat → Nat) : Nat → cd_O
  | 0 => (0, fun _ => 0)
  | r + 1 => cw_e d (cw_r d C Z K r (cw_a d C Z K r) (C r))
theorem cw_em1 (w : cd_O) (c : Nat) : (cw_em w c).1 = w.1 + 1 := rfl
theorem cw_chb (q : Nat) (K : Nat → Nat) (b : Nat) (w : cd_O) (i : Nat) : (cw_ch q K b w i).1 ≤ w.1 + 2 * i := by
  induction i with
  | zero => exact Nat.le_refl _
  | succ i ih =>
    show (cw_em (if K (b + i) = 7 then cw_em (cw_ch q K b w i) q else cw_ch q K b w i) (K (b + i))).1 ≤ _
    rw [cw_em1]
    split
    · rw [cw_em1]; omega
    · omega
theorem cw_ob (b : Bool) (w : cd_O) (c : Nat) : (cw_o b w c).1 ≤ w.1 + 1 := by
  unfold cw_o
  split
  · rw [cw_em1]; omega
  · omega
theorem cw_fb {d : Nat} {C Z K : Nat → Nat} {r f : Nat} (w : cd_O) (h : Z (5 * r + f) ≤ 6) : (cw_f d C Z K r f w).1 ≤ w.1 + 14 := by
  unfold cw_f
  have h1 := cw_ob (cw_q (cd_sp d) C Z K r f) (cw_ch (cw_bq d) K (6 * (5 * r + f)) (cw_o (cw_q (cd_sp d) C Z K r f) w 7) (Z (5 * r + f))) 7
  have h2 := cw_chb (cw_bq d) K (6 * (5 * r + f)) (cw_o (cw_q (cd_sp d) C Z K r f) w 7) (Z (5 * r + f))
  have h3 := cw_ob (cw_q (cd_sp d) C Z K r f) w 7
  omega
theorem cw_rb {d : Nat} {C Z K : Nat → Nat} {r : Nat} (w : cd_O) (n : Nat) (h : ∀ f, f < n → Z (5 * r + f) ≤ 6) :
    (cw_r d C Z K r w n).1 ≤ w.1 + 15 * n - 1 ∨ (n = 0 ∧ (cw_r d C Z K r w n).1 = w.1) := by
  induction n with
  | zero => exact Or.inr ⟨rfl, rfl⟩
  | succ n ih =>
    left
    have hf := cw_fb (d := d) (C := C) (K := K) (if n = 0 then cw_r d C Z K r w n else cw_em (cw_r d C Z K r w n) (cd_sp d)) (h n (by omega))
    have e : cw_r d C Z K r w (n + 1) = cw_f d C Z K r n (if n = 0 then cw_r d C Z K r w n else cw_em (cw_r d C Z K r w n) (cd_sp d)) := rfl
    rw [e]
    have ih := ih (fun f hF => h f (by omega))
    by_cases n0 : n = 0
    · rw [if_pos n0] at hf ⊢
      omega
    · rw [if_neg n0] at hf ⊢
      rw [cw_em1] at hf
      omega
theorem cw_eb (d : Nat) (w : cd_O) : (cw_e d w).1 ≤ w.1 + 2 := by
  unfold cw_e
  rw [cw_em1]
  have := cw_ob (cd_cr d) w 8
  omega
theorem cw_ab {d rn : Nat} {C Z K : Nat → Nat} {cn sz ch : Nat → Int32} (h : cd_tb rn C Z K cn sz ch) (r : Nat) (hr : r ≤ rn) : (cw_a d C Z K r).1 ≤ 76 * r := by
  induction r with
  | zero => exact Nat.le_refl 0
  | succ r ih =>
    obtain ⟨h1, h2, _, h4⟩ := h r (by omega)
    have e : cw_a d C Z K (r + 1) = cw_e d (cw_r d C Z K r (cw_a d C Z K r) (C r)) := rfl
    rw [e]
    have a := cw_eb d (cw_r d C Z K r (cw_a d C Z K r) (C r))
    have b := cw_rb (d := d) (C := C) (K := K) (cw_a d C Z K r) (C r) (fun f hf => (h4 f hf).1)
    have c := ih (by omega)
    omega
