section
/-! rows pasted from kit/rows: stores, numbers, masks, branches by naturals -/
theorem pk_us {f : Nat → Int32} {k : Nat} {x : Int32} : upd f k x k = x := if_pos rfl
theorem pk_un {f : Nat → Int32} {k j : Nat} {x : Int32} (h : j ≠ k) : upd f k x j = f j := if_neg h
theorem pk_sub {a b : Nat} (h : b ≤ a) : nI a - nI b = nI (a - b) := by
  obtain ⟨c, rfl⟩ : ∃ c, a = c + b := ⟨a - b, by omega⟩
  rw [← nI_add, Int32.add_sub_cancel, Nat.add_sub_cancel]
theorem pk_m1 (n : Nat) : nI (n + 1) + (-1) = nI n := by
  rw [← nI_1, Int32.add_assoc, show (1 : Int32) + (-1) = 0 from rfl, Int32.add_zero]
theorem pk_mul (a b : Nat) : nI a * nI b = nI (a * b) := (Int32.ofNat_mul a b).symm
theorem pk_div {a d : Nat} (ha : a < 2 ^ 31) (h0 : 0 < d) (hd : d < 2 ^ 31) : nI a / nI d = nI (a / d) := by
  apply Int32.toInt_inj.mp
  rw [lg_idiv_nonneg (by rw [nI_toInt ha]; omega) (by rw [nI_toInt hd]; omega), nI_toInt ha, nI_toInt hd, nI_toInt (Nat.lt_of_le_of_lt (Nat.div_le_self a d) ha)]
  first | rfl | exact (Int.natCast_ediv _ _).symm
theorem pk_ix (x : Int32) {n : Nat} (hn : n < 2 ^ 31) : x < 0 ∨ nI n ≤ x ∨ ∃ j : Nat, j < n ∧ x = nI j := by
  by_cases h : x < 0
  · exact Or.inl h
  · obtain ⟨j, hj, rfl⟩ := nI_of h
    by_cases h2 : j < n
    · exact Or.inr (Or.inr ⟨j, h2, rfl⟩)
    · exact Or.inr (Or.inl (nI_le (by omega) hj))
theorem pk_le {x y : Int32} {A B : Prop} (a b : Nat) (f : a ≤ b → A) (g : b < a → B) (hx : x = nI a := by rfl) (hy : y = nI b := by rfl) (ha : a < 2 ^ 31 := by omega) (hb : b < 2 ^ 31 := by omega) : (x ≤ y → A) ∧ (¬ x ≤ y → B) := by
  subst hx hy
  rw [nI_leI ha hb]
  exact ⟨f, fun z => g (by omega)⟩
theorem pk_lt {x y : Int32} {A B : Prop} (a b : Nat) (f : a < b → A) (g : b ≤ a → B) (hx : x = nI a := by rfl) (hy : y = nI b := by rfl) (ha : a < 2 ^ 31 := by omega) (hb : b < 2 ^ 31 := by omega) : (x < y → A) ∧ (¬ x < y → B) := by
  subst hx hy
  rw [nI_ltI ha hb]
  exact ⟨f, fun z => g (by omega)⟩
theorem pk_eq {x y : Int32} {A B : Prop} (a b : Nat) (f : a = b → A) (g : a ≠ b → B) (hx : x = nI a := by rfl) (hy : y = nI b := by rfl) (ha : a < 2 ^ 31 := by omega) (hb : b < 2 ^ 31 := by omega) : (x = y → A) ∧ (¬ x = y → B) := by
  subst hx hy
  rw [nI_eq ha hb]
  exact ⟨f, g⟩
theorem pk_in {x : Int32} (n N : Nat) (h : n < N) (hx : x = nI n := by rfl) (hN : N < 2 ^ 31 := by omega) : vp_in x N := by
  subst hx
  exact vp_in_nI h hN
theorem pk_cl {x : Int32} (n : Nat) (hx : x = nI n := by rfl) (h : n < 2 ^ 31 := by omega) : x.toNatClampNeg = n := by
  subst hx
  exact nI_clamp h
theorem pk_tn {n : Nat} (h : n < 2 ^ 32) : (nI n).toBitVec.toNat = n := Nat.mod_eq_of_lt h
theorem pk_and (x : Int32) {m : Int32} (k : Nat) (hm : m.toBitVec.toNat = 2 ^ k - 1) : x &&& m = nI (x.toBitVec.toNat % 2 ^ k) := by
  apply Int32.toBitVec_inj.mp
  apply BitVec.eq_of_toNat_eq
  rw [Int32.toBitVec_and, BitVec.toNat_and, hm, Nat.and_two_pow_sub_one_eq_mod]
  show _ = (BitVec.ofNat 32 _).toNat
  rw [BitVec.toNat_ofNat]
  exact (Nat.mod_eq_of_lt (Nat.lt_of_le_of_lt (Nat.mod_le _ _) x.toBitVec.isLt)).symm
theorem pk_andN {n : Nat} (h : n < 2 ^ 32) {m : Int32} (k : Nat) (hm : m.toBitVec.toNat = 2 ^ k - 1) : nI n &&& m = nI (n % 2 ^ k) := by
  rw [pk_and _ k hm, pk_tn h]
theorem pk_shl (a s : Int32) (k : Nat) (hs : (s.toBitVec.smod 32).toNat = k) : (a <<< s).toBitVec.toNat = a.toBitVec.toNat * 2 ^ k % 2 ^ 32 := by
  show (a.toBitVec <<< (s.toBitVec.smod 32).toNat).toNat = _
  rw [hs, BitVec.toNat_shiftLeft, Nat.shiftLeft_eq]
theorem pk_shlN {n : Nat} (s : Int32) (k : Nat) (hs : (s.toBitVec.smod 32).toNat = k) (h : n * 2 ^ k < 2 ^ 32) : nI n <<< s = nI (n * 2 ^ k) := by
  apply Int32.toBitVec_inj.mp
  apply BitVec.eq_of_toNat_eq
  have hn : n < 2 ^ 32 := Nat.lt_of_le_of_lt (Nat.le_mul_of_pos_right n (Nat.two_pow_pos k)) h
  rw [pk_shl _ _ k hs, pk_tn hn, pk_tn h, Nat.mod_eq_of_lt h]
theorem ek_if {c d A B : Prop} (e : c ↔ d) (f : d → A) (g : ¬ d → B) : (c → A) ∧ (¬ c → B) :=
  ⟨fun z => f (e.mp z), fun z => g (fun y => z (e.mpr y))⟩
theorem ek_v {α : Sort _} {P : α → Prop} {a b : α} (e : a = b) (h : P b) : P a := e ▸ h
/-! numbers against literals (written by a short program) -/
theorem cl_lt0 {a : Nat} (h : a < 2 ^ 31) : nI a < (0 : Int32) ↔ a < 0 := nI_ltI (b := 0) h (by decide)
theorem cl_gt0 {a : Nat} (h : a < 2 ^ 31) : (0 : Int32) < nI a ↔ 0 < a := nI_ltI (a := 0) (by decide) h
theorem cl_le0 {a : Nat} (h : a < 2 ^ 31) : nI a ≤ (0 : Int32) ↔ a ≤ 0 := nI_leI (b := 0) h (by decide)
theorem cl_ge0 {a : Nat} (h : a < 2 ^ 31) : (0 : Int32) ≤ nI a ↔ 0 ≤ a := nI_leI (a := 0) (by decide) h
theorem cl_eq0 {a : Nat} (h : a < 2 ^ 31) : nI a = (0 : Int32) ↔ a = 0 := nI_eq (b := 0) h (by decide)
theorem cl_lt1 {a : Nat} (h : a < 2 ^ 31) : nI a < (1 : Int32) ↔ a < 1 := nI_ltI (b := 1) h (by decide)
theorem cl_gt1 {a : Nat} (h : a < 2 ^ 31) : (1 : Int32) < nI a ↔ 1 < a := nI_ltI (a := 1) (by decide) h
theorem cl_le1 {a : Nat} (h : a < 2 ^ 31) : nI a ≤ (1 : Int32) ↔ a ≤ 1 := nI_leI (b := 1) h (by decide)
theorem cl_ge1 {a : Nat} (h : a < 2 ^ 31) : (1 : Int32) ≤ nI a ↔ 1 ≤ a := nI_leI (a := 1) (by decide) h
theorem cl_eq1 {a : Nat} (h : a < 2 ^ 31) : nI a = (1 : Int32) ↔ a = 1 := nI_eq (b := 1) h (by decide)
theorem cl_lt2 {a : Nat} (h : a < 2 ^ 31) : nI a < (2 : Int32) ↔ a < 2 := nI_ltI (b := 2) h (by decide)
theorem cl_gt2 {a : Nat} (h : a < 2 ^ 31) : (2 : Int32) < nI a ↔ 2 < a := nI_ltI (a := 2) (by decide) h
theorem cl_le2 {a : Nat} (h : a < 2 ^ 31) : nI a ≤ (2 : Int32) ↔ a ≤ 2 := nI_leI (b := 2) h (by decide)
theorem cl_ge2 {a : Nat} (h : a < 2 ^ 31) : (2 : Int32) ≤ nI a ↔ 2 ≤ a := nI_leI (a := 2) (by decide) h
theorem cl_eq2 {a : Nat} (h : a < 2 ^ 31) : nI a = (2 : Int32) ↔ a = 2 := nI_eq (b := 2) h (by decide)
theorem cl_lt3 {a : Nat} (h : a < 2 ^ 31) : nI a < (3 : Int32) ↔ a < 3 := nI_ltI (b := 3) h (by decide)
theorem cl_gt3 {a : Nat} (h : a < 2 ^ 31) : (3 : Int32) < nI a ↔ 3 < a := nI_ltI (a := 3) (by decide) h
theorem cl_le3 {a : Nat} (h : a < 2 ^ 31) : nI a ≤ (3 : Int32) ↔ a ≤ 3 := nI_leI (b := 3) h (by decide)
theorem cl_ge3 {a : Nat} (h : a < 2 ^ 31) : (3 : Int32) ≤ nI a ↔ 3 ≤ a := nI_leI (a := 3) (by decide) h
theorem cl_eq3 {a : Nat} (h : a < 2 ^ 31) : nI a = (3 : Int32) ↔ a = 3 := nI_eq (b := 3) h (by decide)
theorem cl_lt4 {a : Nat} (h : a < 2 ^ 31) : nI a < (4 : Int32) ↔ a < 4 := nI_ltI (b := 4) h (by decide)
theorem cl_gt4 {a : Nat} (h : a < 2 ^ 31) : (4 : Int32) < nI a ↔ 4 < a := nI_ltI (a := 4) (by decide) h
theorem cl_le4 {a : Nat} (h : a < 2 ^ 31) : nI a ≤ (4 : Int32) ↔ a ≤ 4 := nI_leI (b := 4) h (by decide)
theorem cl_ge4 {a : Nat} (h : a < 2 ^ 31) : (4 : Int32) ≤ nI a ↔ 4 ≤ a := nI_leI (a := 4) (by decide) h
theorem cl_eq4 {a : Nat} (h : a < 2 ^ 31) : nI a = (4 : Int32) ↔ a = 4 := nI_eq (b := 4) h (by decide)
theorem cl_lt5 {a : Nat} (h : a < 2 ^ 31) : nI a < (5 : Int32) ↔ a < 5 := nI_ltI (b := 5) h (by decide)
theorem cl_gt5 {a : Nat} (h : a < 2 ^ 31) : (5 : Int32) < nI a ↔ 5 < a := nI_ltI (a := 5) (by decide) h
theorem cl_le5 {a : Nat} (h : a < 2 ^ 31) : nI a ≤ (5 : Int32) ↔ a ≤ 5 := nI_leI (b := 5) h (by decide)
theorem cl_ge5 {a : Nat} (h : a < 2 ^ 31) : (5 : Int32) ≤ nI a ↔ 5 ≤ a := nI_leI (a := 5) (by decide) h
theorem cl_eq5 {a : Nat} (h : a < 2 ^ 31) : nI a = (5 : Int32) ↔ a = 5 := nI_eq (b := 5) h (by decide)
theorem cl_lt6 {a : Nat} (h : a < 2 ^ 31) : nI a < (6 : Int32) ↔ a < 6 := nI_ltI (b := 6) h (by decide)
theorem cl_gt6 {a : Nat} (h : a < 2 ^ 31) : (6 : Int32) < nI a ↔ 6 < a := nI_ltI (a := 6) (by decide) h
theorem cl_le6 {a : Nat} (h : a < 2 ^ 31) : nI a ≤ (6 : Int32) ↔ a ≤ 6 := nI_leI (b := 6) h (by decide)
theorem cl_ge6 {a : Nat} (h : a < 2 ^ 31) : (6 : Int32) ≤ nI a ↔ 6 ≤ a := nI_leI (a := 6) (by decide) h
theorem cl_eq6 {a : Nat} (h : a < 2 ^ 31) : nI a = (6 : Int32) ↔ a = 6 := nI_eq (b := 6) h (by decide)
theorem cl_lt7 {a : Nat} (h : a < 2 ^ 31) : nI a < (7 : Int32) ↔ a < 7 := nI_ltI (b := 7) h (by decide)
theorem cl_gt7 {a : Nat} (h : a < 2 ^ 31) : (7 : Int32) < nI a ↔ 7 < a := nI_ltI (a := 7) (by decide) h
theorem cl_le7 {a : Nat} (h : a < 2 ^ 31) : nI a ≤ (7 : Int32) ↔ a ≤ 7 := nI_leI (b := 7) h (by decide)
theorem cl_ge7 {a : Nat} (h : a < 2 ^ 31) : (7 : Int32) ≤ nI a ↔ 7 ≤ a := nI_leI (a := 7) (by decide) h
theorem cl_eq7 {a : Nat} (h : a < 2 ^ 31) : nI a = (7 : Int32) ↔ a = 7 := nI_eq (b := 7) h (by decide)
theorem cl_lt8 {a : Nat} (h : a < 2 ^ 31) : nI a < (8 : Int32) ↔ a < 8 := nI_ltI (b := 8) h (by decide)
theorem cl_gt8 {a : Nat} (h : a < 2 ^ 31) : (8 : Int32) < nI a ↔ 8 < a := nI_ltI (a := 8) (by decide) h
theorem cl_le8 {a : Nat} (h : a < 2 ^ 31) : nI a ≤ (8 : Int32) ↔ a ≤ 8 := nI_leI (b := 8) h (by decide)
theorem cl_ge8 {a : Nat} (h : a < 2 ^ 31) : (8 : Int32) ≤ nI a ↔ 8 ≤ a := nI_leI (a := 8) (by decide) h
theorem cl_eq8 {a : Nat} (h : a < 2 ^ 31) : nI a = (8 : Int32) ↔ a = 8 := nI_eq (b := 8) h (by decide)
theorem cl_lt9 {a : Nat} (h : a < 2 ^ 31) : nI a < (9 : Int32) ↔ a < 9 := nI_ltI (b := 9) h (by decide)
theorem cl_gt9 {a : Nat} (h : a < 2 ^ 31) : (9 : Int32) < nI a ↔ 9 < a := nI_ltI (a := 9) (by decide) h
theorem cl_le9 {a : Nat} (h : a < 2 ^ 31) : nI a ≤ (9 : Int32) ↔ a ≤ 9 := nI_leI (b := 9) h (by decide)
theorem cl_ge9 {a : Nat} (h : a < 2 ^ 31) : (9 : Int32) ≤ nI a ↔ 9 ≤ a := nI_leI (a := 9) (by decide) h
theorem cl_eq9 {a : Nat} (h : a < 2 ^ 31) : nI a = (9 : Int32) ↔ a = 9 := nI_eq (b := 9) h (by decide)
theorem cl_lt10 {a : Nat} (h : a < 2 ^ 31) : nI a < (10 : Int32) ↔ a < 10 := nI_ltI (b := 10) h (by decide)
theorem cl_gt10 {a : Nat} (h : a < 2 ^ 31) : (10 : Int32) < nI a ↔ 10 < a := nI_ltI (a := 10) (by decide) h
theorem cl_le10 {a : Nat} (h : a < 2 ^ 31) : nI a ≤ (10 : Int32) ↔ a ≤ 10 := nI_leI (b := 10) h (by decide)
theorem cl_ge10 {a : Nat} (h : a < 2 ^ 31) : (10 : Int32) ≤ nI a ↔ 10 ≤ a := nI_leI (a := 10) (by decide) h
theorem cl_eq10 {a : Nat} (h : a < 2 ^ 31) : nI a = (10 : Int32) ↔ a = 10 := nI_eq (b := 10) h (by decide)
theorem cl_lt30 {a : Nat} (h : a < 2 ^ 31) : nI a < (30 : Int32) ↔ a < 30 := nI_ltI (b := 30) h (by decide)
theorem cl_gt30 {a : Nat} (h : a < 2 ^ 31) : (30 : Int32) < nI a ↔ 30 < a := nI_ltI (a := 30) (by decide) h
theorem cl_le30 {a : Nat} (h : a < 2 ^ 31) : nI a ≤ (30 : Int32) ↔ a ≤ 30 := nI_leI (b := 30) h (by decide)
theorem cl_ge30 {a : Nat} (h : a < 2 ^ 31) : (30 : Int32) ≤ nI a ↔ 30 ≤ a := nI_leI (a := 30) (by decide) h
theorem cl_eq30 {a : Nat} (h : a < 2 ^ 31) : nI a = (30 : Int32) ↔ a = 30 := nI_eq (b := 30) h (by decide)
theorem cl_lt96 {a : Nat} (h : a < 2 ^ 31) : nI a < (96 : Int32) ↔ a < 96 := nI_ltI (b := 96) h (by decide)
theorem cl_gt96 {a : Nat} (h : a < 2 ^ 31) : (96 : Int32) < nI a ↔ 96 < a := nI_ltI (a := 96) (by decide) h
theorem cl_le96 {a : Nat} (h : a < 2 ^ 31) : nI a ≤ (96 : Int32) ↔ a ≤ 96 := nI_leI (b := 96) h (by decide)
theorem cl_ge96 {a : Nat} (h : a < 2 ^ 31) : (96 : Int32) ≤ nI a ↔ 96 ≤ a := nI_leI (a := 96) (by decide) h
theorem cl_eq96 {a : Nat} (h : a < 2 ^ 31) : nI a = (96 : Int32) ↔ a = 96 := nI_eq (b := 96) h (by decide)
theorem cl_lt180 {a : Nat} (h : a < 2 ^ 31) : nI a < (180 : Int32) ↔ a < 180 := nI_ltI (b := 180) h (by decide)
theorem cl_gt180 {a : Nat} (h : a < 2 ^ 31) : (180 : Int32) < nI a ↔ 180 < a := nI_ltI (a := 180) (by decide) h
theorem cl_le180 {a : Nat} (h : a < 2 ^ 31) : nI a ≤ (180 : Int32) ↔ a ≤ 180 := nI_leI (b := 180) h (by decide)
theorem cl_ge180 {a : Nat} (h : a < 2 ^ 31) : (180 : Int32) ≤ nI a ↔ 180 ≤ a := nI_leI (a := 180) (by decide) h
theorem cl_eq180 {a : Nat} (h : a < 2 ^ 31) : nI a = (180 : Int32) ↔ a = 180 := nI_eq (b := 180) h (by decide)
theorem cl_lt456 {a : Nat} (h : a < 2 ^ 31) : nI a < (456 : Int32) ↔ a < 456 := nI_ltI (b := 456) h (by decide)
theorem cl_gt456 {a : Nat} (h : a < 2 ^ 31) : (456 : Int32) < nI a ↔ 456 < a := nI_ltI (a := 456) (by decide) h
theorem cl_le456 {a : Nat} (h : a < 2 ^ 31) : nI a ≤ (456 : Int32) ↔ a ≤ 456 := nI_leI (b := 456) h (by decide)
theorem cl_ge456 {a : Nat} (h : a < 2 ^ 31) : (456 : Int32) ≤ nI a ↔ 456 ≤ a := nI_leI (a := 456) (by decide) h
theorem cl_eq456 {a : Nat} (h : a < 2 ^ 31) : nI a = (456 : Int32) ↔ a = 456 := nI_eq (b := 456) h (by decide)
theorem cl_m5 (a : Nat) : nI a * (5 : Int32) = nI (a * 5) := pk_mul a 5
theorem cl_x5 (a : Nat) : (5 : Int32) * nI a = nI (5 * a) := pk_mul 5 a
theorem cl_m6 (a : Nat) : nI a * (6 : Int32) = nI (a * 6) := pk_mul a 6
theorem cl_x6 (a : Nat) : (6 : Int32) * nI a = nI (6 * a) := pk_mul 6 a
theorem cl_p2 (a : Nat) : nI a + (2 : Int32) = nI (a + 2) := nI_add a 2
theorem cl_s1 {a : Nat} (h : 1 ≤ a) : nI a - (1 : Int32) = nI (a - 1) := pk_sub (b := 1) h
theorem cl_n1 {a : Nat} (h : 1 ≤ a) : nI a + (-1 : Int32) = nI (a - 1) := by
  obtain ⟨c, rfl⟩ : ∃ c, a = c + 1 := ⟨a - 1, by omega⟩
  exact pk_m1 c
end
section
/-! the pure picture of the table (counts C, sizes Z, characters K: naturals) and what the arrays hold of it -/
def cd_up (f : Nat → Nat) (k x : Nat) : Nat → Nat := fun j => if j = k then x else f j
theorem cd_us {f : Nat → Nat} {k x : Nat} : cd_up f k x k = x := if_pos rfl
theorem cd_un {f : Nat → Nat} {k j x : Nat} (h : j ≠ k) : cd_up f k x j = f j := if_neg h
theorem cd_uu {f : Nat → Nat} {k a b : Nat} : cd_up (cd_up f k a) k b = cd_up f k b := by
  funext j
  by_cases h : j = k
  · rw [h, cd_us, cd_us]
  · rw [cd_un h, cd_un h, cd_un h]
/-- the field at place k -/
def cd_fd (Z K : Nat → Nat) (sz ch : Nat → Int32) (k : Nat) : Prop :=
  Z k ≤ 6 ∧ sz k = nI (Z k) ∧ ∀ i, i < Z k → K (6 * k + i) ≤ 9 ∧ ch (6 * k + i) = nI (K (6 * k + i))
def cd_tb (rn : Nat) (C Z K : Nat → Nat) (cn sz ch : Nat → Int32) : Prop :=
  ∀ r, r < rn → 1 ≤ C r ∧ C r ≤ 5 ∧ cn r = nI (C r) ∧ ∀ f, f < C r → cd_fd Z K sz ch (5 * r + f)
theorem cd_tb0 {C Z K : Nat → Nat} {cn sz ch : Nat → Int32} : cd_tb 0 C Z K cn sz ch :=
  fun r h => absurd h (Nat.not_lt_zero r)
theorem cd_tbf {rn : Nat} {C Z K Z' K' : Nat → Nat} {cn sz ch sz' ch' : Nat → Int32} (h : cd_tb rn C Z K cn sz ch)
    (hf : ∀ k, cd_fd Z K sz ch k → cd_fd Z' K' sz' ch' k) : cd_tb rn C Z' K' cn sz' ch' :=
  fun r hr => ⟨(h r hr).1, (h r hr).2.1, (h r hr).2.2.1, fun f hF => hf _ ((h r hr).2.2.2 f hF)⟩
/-- one record more, of one field -/
theorem cd_tbN {rn : Nat} {C Z K : Nat → Nat} {cn sz ch : Nat → Int32} (h : cd_tb rn C Z K cn sz ch)
    (hf : cd_fd Z K sz ch (5 * rn)) : cd_tb (rn + 1) (cd_up C rn 1) Z K (upd cn rn (nI 1)) sz ch := by
  intro r hr
  by_cases e : r = rn
  · subst e
    rw [cd_us, pk_us]
    refine ⟨Nat.le_refl 1, by omega, rfl, fun f hF => ?_⟩
    have e0 : f = 0 := by omega
    subst e0
    exact hf
  · rw [cd_un e, pk_un e]
    exact h r (by omega)
/-- one field more in the last record -/
theorem cd_tbG {m : Nat} {C Z K : Nat → Nat} {cn sz ch : Nat → Int32} (h : cd_tb (m + 1) C Z K cn sz ch) (h5 : C m < 5)
    (hf : cd_fd Z K sz ch (5 * m + C m)) : cd_tb (m + 1) (cd_up C m (C m + 1)) Z K (upd cn m (nI (C m + 1))) sz ch := by
  intro r hr
  by_cases e : r = m
  · subst e
    rw [cd_us, pk_us]
    refine ⟨by omega, by omega, rfl, fun f hF => ?_⟩
    by_cases ef : f = C r
    · subst ef
      exact hf
    · exact (h r hr).2.2.2 f (by omega)
  · rw [cd_un e, pk_un e]
    exact h r hr
/-- an empty field at place k -/
theorem cd_fd0 {Z K : Nat → Nat} {sz ch : Nat → Int32} (k : Nat) : cd_fd (cd_up Z k 0) K (upd sz k (nI 0)) ch k := by
  unfold cd_fd
  rw [cd_us, pk_us]
  exact ⟨by omega, rfl, fun i hi => absurd hi (Nat.not_lt_zero i)⟩
theorem cd_fdZ {Z K : Nat → Nat} {sz ch : Nat → Int32} (k j : Nat) (h : cd_fd Z K sz ch j) : cd_fd (cd_up Z k 0) K (upd sz k (nI 0)) ch j := by
  by_cases e : j = k
  · subst e
    exact cd_fd0 j
  · unfold cd_fd
    rw [cd_un e, pk_un e]
    exact h
theorem cd_tbR {rn : Nat} {C Z K : Nat → Nat} {cn sz ch : Nat → Int32} (h : cd_tb rn C Z K cn sz ch) :
    cd_tb (rn + 1) (cd_up C rn 1) (cd_up Z (5 * rn) 0) K (upd cn rn (nI 1)) (upd sz (5 * rn) (nI 0)) ch :=
  cd_tbN (cd_tbf h (fun j hj => cd_fdZ (5 * rn) j hj)) (cd_fd0 _)
theorem cd_tbF {m : Nat} {C Z K : Nat → Nat} {cn sz ch : Nat → Int32} (h : cd_tb (m + 1) C Z K cn sz ch) (h5 : C m < 5) :
    cd_tb (m + 1) (cd_up C m (C m + 1)) (cd_up Z (5 * m + C m) 0) K (upd cn m (nI (C m + 1))) (upd sz (5 * m + C m) (nI 0)) ch :=
  cd_tbG (cd_tbf h (fun j hj => cd_fdZ (5 * m + C m) j hj)) h5 (cd_fd0 _)
/-- one character more in the field at place k -/
theorem cd_fdA {Z K : Nat → Nat} {sz ch : Nat → Int32} {k c : Nat} (h6 : Z k < 6) (hc : c ≤ 9) (j : Nat) (h : cd_fd Z K sz ch j) :
    cd_fd (cd_up Z k (Z k + 1)) (cd_up K (6 * k + Z k) c) (upd sz k (nI (Z k + 1))) (upd ch (6 * k + Z k) (nI c)) j := by
  obtain ⟨h1, h2, h3⟩ := h
  unfold cd_fd
  by_cases e : j = k
  · subst e
    rw [cd_us, pk_us]
    refine ⟨by omega, rfl, fun i hi => ?_⟩
    by_cases ei : i = Z j
    · subst ei
      rw [cd_us, pk_us]
      exact ⟨hc, rfl⟩
    · have e2 : 6 * j + i ≠ 6 * j + Z j := by omega
      rw [cd_un e2, pk_un e2]
      exact h3 i (by omega)
  · rw [cd_un e, pk_un e]
    refine ⟨h1, h2, fun i hi => ?_⟩
    have e2 : 6 * j + i ≠ 6 * k + Z k := by omega
    rw [cd_un e2, pk_un e2]
    exact h3 i hi
theorem cd_tbA {rn k c : Nat} {C Z K : Nat → Nat} {cn sz ch : Nat → Int32} (h : cd_tb rn C Z K cn sz ch) (h6 : Z k < 6) (hc : c ≤ 9) :
    cd_tb rn C (cd_up Z k (Z k + 1)) (cd_up K (6 * k + Z k) c) cn (upd sz k (nI (Z k + 1))) (upd ch (6 * k + Z k) (nI c)) :=
  cd_tbf h (fun j hj => cd_fdA h6 hc j hj)
/-- the draft D of n characters put at place k -/
def cd_pk (K : Nat → Nat) (k n : Nat) (D : Nat → Nat) : Nat → Nat := fun j => if 6 * k ≤ j ∧ j < 6 * k + n then D (j - 6 * k) else K j
theorem cd_pkin {K : Nat → Nat} {k n : Nat} {D : Nat → Nat} {i : Nat} (h : i < n) : cd_pk K k n D (6 * k + i) = D i := by
  unfold cd_pk
  rw [if_pos ⟨by omega, by omega⟩]
  exact congrArg D (by omega)
theorem cd_pkout {K : Nat → Nat} {k n : Nat} {D : Nat → Nat} {j : Nat} (h : j < 6 * k ∨ 6 * k + n ≤ j) : cd_pk K k n D j = K j := by
  unfold cd_pk
  rw [if_neg (by omega)]
/-- the arrays' side of it -/
def cd_pa (ch ch' : Nat → Int32) (k n : Nat) (D : Nat → Nat) : Prop :=
  (∀ i, i < n → ch' (6 * k + i) = nI (D i)) ∧ ∀ j, (j < 6 * k ∨ 6 * k + n ≤ j) → ch' j = ch j
theorem cd_fdP0 {Z K D : Nat → Nat} {sz ch ch' : Nat → Int32} {k n : Nat} (h6 : n ≤ 6) (hD : ∀ i, i < n → D i ≤ 9) (ha : cd_pa ch ch' k n D) :
    cd_fd (cd_up Z k n) (cd_pk K k n D) (upd sz k (nI n)) ch' k := by
  unfold cd_fd
  rw [cd_us, pk_us]
  refine ⟨h6, rfl, fun i hi => ?_⟩
  rw [cd_pkin hi]
  exact ⟨hD i hi, ha.1 i hi⟩
theorem cd_fdP {Z K D : Nat → Nat} {sz ch ch' : Nat → Int32} {k n : Nat} (h6 : n ≤ 6) (hD : ∀ i, i < n → D i ≤ 9) (ha : cd_pa ch ch' k n D)
    (j : Nat) (h : cd_fd Z K sz ch j) : cd_fd (cd_up Z k n) (cd_pk K k n D) (upd sz k (nI n)) ch' j := by
  by_cases e : j = k
  · subst e
    exact cd_fdP0 h6 hD ha
  · obtain ⟨h1, h2, h3⟩ := h
    unfold cd_fd
    rw [cd_un e, pk_un e]
    refine ⟨h1, h2, fun i hi => ?_⟩
    have o : 6 * j + i < 6 * k ∨ 6 * k + n ≤ 6 * j + i := by omega
    rw [cd_pkout o, ha.2 _ o]
    exact h3 i hi
theorem cd_tbP {rn k n : Nat} {C Z K D : Nat → Nat} {cn sz ch ch' : Nat → Int32} (h : cd_tb rn C Z K cn sz ch) (h6 : n ≤ 6)
    (hD : ∀ i, i < n → D i ≤ 9) (ha : cd_pa ch ch' k n D) : cd_tb rn C (cd_up Z k n) (cd_pk K k n D) cn (upd sz k (nI n)) ch' :=
  cd_tbf h (fun j hj => cd_fdP h6 hD ha j hj)
/-- a counted text: the draft (6, 9), the raw text (96, 10) -/
def cd_tx (N M n : Nat) (D : Nat → Nat) (x : Int32) (a : Nat → Int32) : Prop :=
  n ≤ N ∧ x = nI n ∧ ∀ i, i < n → D i ≤ M ∧ a i = nI (D i)
theorem cd_txU {N M n c : Nat} {D : Nat → Nat} {x : Int32} {a : Nat → Int32} (h : cd_tx N M n D x a) (hn : n < N) (hc : c ≤ M) :
    cd_tx N M (n + 1) (cd_up D n c) (nI (n + 1)) (upd a n (nI c)) := by
  refine ⟨hn, rfl, fun i hi => ?_⟩
  by_cases e : i = n
  · subst e
    rw [cd_us, pk_us]
    exact ⟨hc, rfl⟩
  · rw [cd_un e, pk_un e]
    exact h.2.2 i (by omega)
theorem cd_tx0 {N M : Nat} {D : Nat → Nat} {a : Nat → Int32} : cd_tx N M 0 D 0 a :=
  ⟨Nat.zero_le N, rfl, fun i hi => absurd hi (Nat.not_lt_zero i)⟩
theorem cd_txD {N M n : Nat} {D : Nat → Nat} {x : Int32} {a : Nat → Int32} (h : cd_tx N M (n + 1) D x a) : cd_tx N M n D (nI n) a :=
  ⟨by have := h.1; omega, rfl, fun i hi => h.2.2 i (by omega)⟩
end
section
/-! reading, purely: the states of the automaton, and what it has read after n characters -/
def cd_sp (d : Nat) : Nat := if d % 2 = 1 then 6 else 5
def cd_cr (d : Nat) : Bool := decide (d / 2 % 2 = 0)
def cd_es (d : Nat) : Bool := decide (4 ≤ d)
theorem cd_a1 : ∀ d, d < 8 → ((nI d &&& 1) = 0 ∧ ¬ (nI d &&& 1) = 1 ∧ cd_sp d = 5) ∨ (¬ (nI d &&& 1) = 0 ∧ (nI d &&& 1) = 1 ∧ cd_sp d = 6) := by decide +kernel
theorem cd_a2 : ∀ d, d < 8 → ((nI d &&& 2) = 0 ∧ cd_cr d = true) ∨ (¬ (nI d &&& 2) = 0 ∧ cd_cr d = false) := by decide +kernel
theorem cd_a4 : ∀ d, d < 8 → ((nI d &&& 4) = 0 ∧ cd_es d = false) ∨ (¬ (nI d &&& 4) = 0 ∧ cd_es d = true) := by decide +kernel
theorem cd_spr (d : Nat) : cd_sp d = 5 ∨ cd_sp d = 6 := by
  unfold cd_sp
  split
  · exact Or.inr rfl
  · exact Or.inl rfl
abbrev cd_ok (s : Nat) : Prop := s = 0 ∨ s = 1 ∨ s = 2 ∨ s = 5
def cd_stp (d s c : Nat) : Nat :=
  if s = 3 then (if c = 7 then 5 else if c = 10 then (if cd_es d = true then 4 else 7) else 3)
  else if s = 4 then (if c = 7 then 3 else 7)
  else if s = 6 then (if c = 9 then 0 else 7)
  else if s = 7 then 7
  else if c = 7 then (if s = 2 then 7 else if s = 5 then (if cd_es d = true then 7 else 3) else 3)
  else if c = cd_sp d then 1
  else if c = 8 then (if cd_cr d = true then 6 else 7)
  else if c = 9 then (if cd_cr d = true then 7 else 0)
  else if c = 10 then 7
  else if s = 5 then 7 else 2
theorem cd_stpl (d s c : Nat) : cd_stp d s c < 8 := by
  unfold cd_stp
  repeat' split
  all_goals omega
theorem cd_s3q {d : Nat} : cd_stp d 3 7 = 5 := by simp [cd_stp]
theorem cd_s3et {d : Nat} (h : cd_es d = true) : cd_stp d 3 10 = 4 := by simp [cd_stp, h]
theorem cd_s3ef {d : Nat} (h : cd_es d = false) : cd_stp d 3 10 = 7 := by simp [cd_stp, h]
theorem cd_s3o {d c : Nat} (h7 : c ≠ 7) (h10 : c ≠ 10) : cd_stp d 3 c = 3 := by simp [cd_stp, h7, h10]
theorem cd_s4q {d : Nat} : cd_stp d 4 7 = 3 := by simp [cd_stp]
theorem cd_s4o {d c : Nat} (h7 : c ≠ 7) : cd_stp d 4 c = 7 := by simp [cd_stp, h7]
theorem cd_s6n {d : Nat} : cd_stp d 6 9 = 0 := by simp [cd_stp]
theorem cd_s6o {d c : Nat} (h : c ≠ 9) : cd_stp d 6 c = 7 := by simp [cd_stp, h]
theorem cd_s7 {d c : Nat} : cd_stp d 7 c = 7 := by simp [cd_stp]
theorem cd_s2q {d : Nat} : cd_stp d 2 7 = 7 := by simp [cd_stp]
theorem cd_s5qt {d : Nat} (h : cd_es d = true) : cd_stp d 5 7 = 7 := by simp [cd_stp, h]
theorem cd_s5qf {d : Nat} (h : cd_es d = false) : cd_stp d 5 7 = 3 := by simp [cd_stp, h]
theorem cd_s01q {d s : Nat} (h : s = 0 ∨ s = 1) : cd_stp d s 7 = 3 := by
  rcases h with rfl | rfl
  · simp [cd_stp]
  · simp [cd_stp]
theorem cd_sos {d s : Nat} (h : cd_ok s) : cd_stp d s (cd_sp d) = 1 := by
  rcases cd_spr d with e | e <;> rcases h with rfl | rfl | rfl | rfl <;> simp [cd_stp, e]
theorem cd_sop {d s c : Nat} (h : s = 0 ∨ s = 1 ∨ s = 2) (h1 : c ≠ cd_sp d) (h2 : c < 7) : cd_stp d s c = 2 := by
  have a7 : c ≠ 7 := by omega
  have a8 : c ≠ 8 := by omega
  have a9 : c ≠ 9 := by omega
  have a10 : c ≠ 10 := by omega
  rcases h with rfl | rfl | rfl <;> simp [cd_stp, h1, a7, a8, a9, a10]
/-- behind a field that has ended -/
def cd_nx (d c : Nat) : Nat :=
  if c = cd_sp d then 1 else if c = 8 then (if cd_cr d = true then 6 else 7) else if c = 9 then (if cd_cr d = true then 7 else 0) else 7
theorem cd_nx5 {d c : Nat} (h : cd_es d = true ∨ c ≠ 7) : cd_stp d 5 c = cd_nx d c := by
  by_cases c7 : c = 7
  · subst c7
    have e : cd_es d = true := by
      rcases h with h | h
      · exact h
      · exact absurd rfl h
    rcases cd_spr d with hs | hs <;> simp [cd_stp, cd_nx, e, hs]
  · simp only [cd_stp, cd_nx, if_neg c7]
    by_cases cs : c = cd_sp d
    · simp [cs]
    · by_cases c8 : c = 8
      · simp [c8, cs]
      · by_cases c9 : c = 9
        · simp [c9, c8, cs]
        · simp [c9, c8, cs]
theorem cd_nx2 {d c : Nat} (h : c = cd_sp d ∨ 7 ≤ c) (h10 : c ≤ 10) : cd_stp d 2 c = cd_nx d c := by
  by_cases cs : c = cd_sp d
  · subst cs
    rcases cd_spr d with hs | hs <;> simp [cd_stp, cd_nx, hs]
  · have h7 : 7 ≤ c := by
      rcases h with h | h
      · exact absurd h cs
      · exact h
    have hc : c = 7 ∨ c = 8 ∨ c = 9 ∨ c = 10 := by omega
    rcases hc with e | e | e | e <;> subst e <;> simp [cd_stp, cd_nx, cs]
theorem cd_nx01 {d s c : Nat} (h01 : s = 0 ∨ s = 1) (h : c = cd_sp d ∨ 7 ≤ c) (h7 : c ≠ 7) (h10 : c ≤ 10) : cd_stp d s c = cd_nx d c := by
  by_cases cs : c = cd_sp d
  · subst cs
    rcases cd_spr d with hs | hs <;> rcases h01 with rfl | rfl <;> simp [cd_stp, cd_nx, hs]
  · have hc : c = 8 ∨ c = 9 ∨ c = 10 := by
      rcases h with h | h
      · exact absurd h cs
      · omega
    rcases hc with e | e | e <;> subst e <;> rcases h01 with rfl | rfl <;> simp [cd_stp, cd_nx, cs]
/-- from every state but 7 some characters lead to one that reads -/
theorem cd_beg {d s : Nat} (h8 : s < 8) : (cd_ok s ∨ cd_ok (cd_stp d s 9) ∨ cd_ok (cd_stp d s 7) ∨ cd_ok (cd_stp d (cd_stp d s 7) 7)) ↔ s ≠ 7 := by
  have hc : s = 0 ∨ s = 1 ∨ s = 2 ∨ s = 3 ∨ s = 4 ∨ s = 5 ∨ s = 6 ∨ s = 7 := by omega
  rcases hc with e | e | e | e | e | e | e | e <;> subst e
  · exact ⟨fun _ => by decide, fun _ => Or.inl (by decide)⟩
  · exact ⟨fun _ => by decide, fun _ => Or.inl (by decide)⟩
  · exact ⟨fun _ => by decide, fun _ => Or.inl (by decide)⟩
  · exact ⟨fun _ => by decide, fun _ => Or.inr (Or.inr (Or.inl (by rw [cd_s3q]; decide)))⟩
  · exact ⟨fun _ => by decide, fun _ => Or.inr (Or.inr (Or.inr (by rw [cd_s4q, cd_s3q]; decide)))⟩
  · exact ⟨fun _ => by decide, fun _ => Or.inl (by decide)⟩
  · exact ⟨fun _ => by decide, fun _ => Or.inr (Or.inl (by rw [cd_s6n]; decide))⟩
  · rw [cd_s7, cd_s7, cd_s7]
    exact ⟨fun h => absurd h (by decide), fun h => absurd rfl h⟩
def cd_S (d : Nat) (R : Nat → Nat) : Nat → Nat
  | 0 => 0
  | n + 1 => cd_stp d (cd_S d R n) (R n)
theorem cd_Ss (d : Nat) (R : Nat → Nat) (n : Nat) : cd_S d R (n + 1) = cd_stp d (cd_S d R n) (R n) := rfl
theorem cd_Sl (d : Nat) (R : Nat → Nat) (n : Nat) : cd_S d R n < 8 := by
  cases n with
  | zero => exact (by decide : (0 : Nat) < 8)
  | succ n => exact cd_stpl _ _ _
theorem cd_S7 {d : Nat} {R : Nat → Nat} {m n : Nat} (h : cd_S d R m = 7) (hn : m ≤ n) : cd_S d R n = 7 := by
  induction n with
  | zero =>
    have e : m = 0 := by omega
    rw [e] at h
    exact h
  | succ n ih =>
    by_cases e : m = n + 1
    · rw [e] at h
      exact h
    · rw [cd_Ss, ih (by omega), cd_s7]
theorem cd_Sc {d : Nat} {R R' : Nat → Nat} {n : Nat} (h : ∀ i, i < n → R i = R' i) : cd_S d R n = cd_S d R' n := by
  induction n with
  | zero => rfl
  | succ n ih => rw [cd_Ss, cd_Ss, ih (fun i hi => h i (by omega)), h n (by omega)]
/-- how many steps don't end in state 7 -/
def cd_so (d : Nat) (R : Nat → Nat) : Nat → Nat
  | 0 => 0
  | n + 1 => if cd_S d R (n + 1) = 7 then cd_so d R n else cd_so d R n + 1
theorem cd_sos7 {d : Nat} {R : Nat → Nat} {m n : Nat} (h : cd_S d R m = 7) (hn : m ≤ n) : cd_so d R n = cd_so d R m := by
  induction n with
  | zero =>
    have e : m = 0 := by omega
    rw [e]
  | succ n ih =>
    by_cases e : m = n + 1
    · rw [e]
    · show (if cd_S d R (n + 1) = 7 then cd_so d R n else cd_so d R n + 1) = _
      rw [if_pos (cd_S7 h (by omega)), ih (by omega)]
theorem cd_so_n {d : Nat} {R : Nat → Nat} {n : Nat} (h : cd_S d R n ≠ 7) : cd_so d R n = n := by
  induction n with
  | zero => rfl
  | succ n ih =>
    show (if cd_S d R (n + 1) = 7 then cd_so d R n else cd_so d R n + 1) = _
    rw [if_neg h, ih (fun z => h (by rw [cd_Ss, z, cd_s7]))]
/-- the greatest n of the states that aren't 7 -/
theorem cd_so_k {d : Nat} {R : Nat → Nat} {k n : Nat} (hk : k ≤ n) (h : cd_S d R k ≠ 7) (h1 : ∀ j, k < j → j ≤ n → cd_S d R j = 7) : cd_so d R n = k := by
  by_cases e : k = n
  · rw [← e]
    exact cd_so_n h
  · have h7 := h1 (k + 1) (by omega) (by omega)
    rw [cd_sos7 h7 (by omega)]
    show (if cd_S d R (k + 1) = 7 then cd_so d R k else cd_so d R k + 1) = _
    rw [if_pos h7]
    exact cd_so_n h
/-- the table that is read: (records, counts, sizes, characters) -/
abbrev cd_T : Type := Nat × (Nat → Nat) × (Nat → Nat) × (Nat → Nat)
def cd_f (t : cd_T) : Nat := t.2.1 (t.1 - 1)
def cd_pl (t : cd_T) : Nat := 5 * (t.1 - 1) + (t.2.1 (t.1 - 1) - 1)
def cd_z (t : cd_T) : Nat := t.2.2.1 (cd_pl t)
def cd_oR (t : cd_T) : cd_T := (t.1 + 1, cd_up t.2.1 t.1 1, cd_up t.2.2.1 (5 * t.1) 0, t.2.2.2)
def cd_oF (t : cd_T) : cd_T := (t.1, cd_up t.2.1 (t.1 - 1) (cd_f t + 1), cd_up t.2.2.1 (5 * (t.1 - 1) + cd_f t) 0, t.2.2.2)
def cd_oA (c : Nat) (t : cd_T) : cd_T := (t.1, t.2.1, cd_up t.2.2.1 (cd_pl t) (cd_z t + 1), cd_up t.2.2.2 (6 * cd_pl t + cd_z t) c)
theorem cd_oRf (t : cd_T) : cd_f (cd_oR t) = 1 := cd_us
theorem cd_oRp (t : cd_T) : cd_pl (cd_oR t) = 5 * t.1 := by
  show 5 * (t.1 + 1 - 1) + (cd_up t.2.1 t.1 1 (t.1 + 1 - 1) - 1) = 5 * t.1
  rw [Nat.add_sub_cancel, cd_us]
  omega
theorem cd_oRz (t : cd_T) : cd_z (cd_oR t) = 0 := by
  unfold cd_z
  rw [cd_oRp]
  exact cd_us
theorem cd_oFf (t : cd_T) : cd_f (cd_oF t) = cd_f t + 1 := cd_us
theorem cd_oFp (t : cd_T) : cd_pl (cd_oF t) = 5 * (t.1 - 1) + cd_f t := by
  show 5 * (t.1 - 1) + (cd_f (cd_oF t) - 1) = _
  rw [cd_oFf, Nat.add_sub_cancel]
theorem cd_oFz (t : cd_T) : cd_z (cd_oF t) = 0 := by
  unfold cd_z
  rw [cd_oFp]
  exact cd_us
theorem cd_oAf (c : Nat) (t : cd_T) : cd_f (cd_oA c t) = cd_f t := rfl
theorem cd_oAz (c : Nat) (t : cd_T) : cd_z (cd_oA c t) = cd_z t + 1 := cd_us
/-- a step from state s to state s' reads a character of a field -/
def cd_ct (s s' : Nat) : Bool := decide (s' = 2) || (decide (s' = 3) && !(decide (s = 0) || decide (s = 1)))
def cd_ob (s : Nat) (t : cd_T) : cd_T := if s = 0 then cd_oR t else t
def cd_ts (s s' c : Nat) (t : cd_T) : cd_T := if s' = 1 then cd_oF t else if cd_ct s s' = true then cd_oA c t else t
def cd_t (d : Nat) (R : Nat → Nat) : Nat → cd_T
  | 0 => (0, fun _ => 0, fun _ => 0, fun _ => 0)
  | n + 1 => cd_ts (cd_S d R n) (cd_S d R (n + 1)) (R n) (cd_ob (cd_S d R n) (cd_t d R n))
/-- the same, with the record that the next character begins -/
def cd_t' (d : Nat) (R : Nat → Nat) (n : Nat) : cd_T := cd_ob (cd_S d R n) (cd_t d R n)
theorem cd_ts1 (d : Nat) (R : Nat → Nat) (n : Nat) : cd_t d R (n + 1) = cd_ts (cd_S d R n) (cd_S d R (n + 1)) (R n) (cd_t' d R n) := rfl
theorem cd_t'n {d : Nat} {R : Nat → Nat} {n : Nat} (h : cd_S d R n ≠ 0) : cd_t' d R n = cd_t d R n := if_neg h
theorem cd_t'0 {d : Nat} {R : Nat → Nat} {n : Nat} (h : cd_S d R n = 0) : cd_t' d R n = cd_oR (cd_t d R n) := if_pos h
def cd_mx (a b : Nat) : Nat := if a < b then b else a
theorem cd_mxl (k a b : Nat) : k < cd_mx a b ↔ k < a ∨ k < b := by
  unfold cd_mx
  split <;> omega
theorem cd_mxe (k a b : Nat) : cd_mx a b ≤ k ↔ a ≤ k ∧ b ≤ k := by
  unfold cd_mx
  split <;> omega
def cd_lg (d : Nat) (R : Nat → Nat) : Nat → Nat
  | 0 => 0
  | n + 1 => if cd_ct (cd_S d R n) (cd_S d R (n + 1)) = true then cd_mx (cd_lg d R n) (cd_z (cd_t d R (n + 1))) else cd_lg d R n
def cd_mc (d : Nat) (R : Nat → Nat) : Nat → Nat
  | 0 => 0
  | n + 1 => if cd_S d R (n + 1) = 0 then cd_mx (cd_mc d R n) (cd_f (cd_t d R (n + 1))) else cd_mc d R n
def cd_uv (d : Nat) (R : Nat → Nat) : Nat → Bool
  | 0 => false
  | n + 1 => cd_uv d R n || (decide (cd_S d R (n + 1) = 0) && (decide (1 < (cd_t d R (n + 1)).1) && !decide (cd_f (cd_t d R (n + 1)) = cd_mc d R n)))
end
section
/-! what one character does to all that is counted -/
abbrev cd_W : Type := cd_T × Nat × Nat × Bool
/-- in a record: table, longest, most fields of the ended records, uneven -/
def cd_v (d : Nat) (R : Nat → Nat) (n : Nat) : cd_W := (cd_t' d R n, cd_lg d R n, cd_mc d R n, cd_uv d R n)
def cd_cw (w : cd_W) : cd_W := (w.1, w.2.1, cd_mx w.2.2.1 (cd_f w.1), w.2.2.2 || (decide (1 < w.1.1) && !decide (cd_f w.1 = w.2.2.1)))
/-- with the last record ended -/
def cd_e (d : Nat) (R : Nat → Nat) (n : Nat) : cd_W := if cd_S d R n = 0 then (cd_t d R n, cd_lg d R n, cd_mc d R n, cd_uv d R n) else cd_cw (cd_v d R n)
theorem cd_e0 {d : Nat} {R : Nat → Nat} {n : Nat} (h : cd_S d R n = 0) : cd_e d R n = (cd_t d R n, cd_lg d R n, cd_mc d R n, cd_uv d R n) := if_pos h
theorem cd_en {d : Nat} {R : Nat → Nat} {n : Nat} (h : cd_S d R n ≠ 0) : cd_e d R n = cd_cw (cd_v d R n) := if_neg h
theorem cd_v0 {d : Nat} {R : Nat → Nat} {n : Nat} (h : cd_S d R n = 0) : cd_v d R n = (cd_oR (cd_e d R n).1, (cd_e d R n).2.1, (cd_e d R n).2.2.1, (cd_e d R n).2.2.2) := by
  rw [cd_e0 h]
  unfold cd_v
  rw [cd_t'0 h]
theorem cd_mc_n {d : Nat} {R : Nat → Nat} {n : Nat} (h : cd_S d R (n + 1) ≠ 0) : cd_mc d R (n + 1) = cd_mc d R n := if_neg h
theorem cd_uv_n {d : Nat} {R : Nat → Nat} {n : Nat} (h : cd_S d R (n + 1) ≠ 0) : cd_uv d R (n + 1) = cd_uv d R n := by
  show (cd_uv d R n || (decide (cd_S d R (n + 1) = 0) && _)) = cd_uv d R n
  rw [decide_eq_false h, Bool.false_and, Bool.or_false]
theorem cd_ct0 (s : Nat) : cd_ct s 0 = false := by simp [cd_ct]
theorem cd_ct1 (s : Nat) : cd_ct s 1 = false := by simp [cd_ct]
theorem cd_ct4 (s : Nat) : cd_ct s 4 = false := by simp [cd_ct]
theorem cd_ct5 (s : Nat) : cd_ct s 5 = false := by simp [cd_ct]
theorem cd_ct6 (s : Nat) : cd_ct s 6 = false := by simp [cd_ct]
theorem cd_ct7 (s : Nat) : cd_ct s 7 = false := by simp [cd_ct]
theorem cd_ct2 (s : Nat) : cd_ct s 2 = true := by simp [cd_ct]
theorem cd_ct03 {s : Nat} (h : s = 0 ∨ s = 1) : cd_ct s 3 = false := by
  rcases h with h | h <;> subst h <;> decide
theorem cd_ct3 {s : Nat} (h0 : s ≠ 0) (h1 : s ≠ 1) : cd_ct s 3 = true := by simp [cd_ct, h0, h1]
theorem cd_ctn {s s' : Nat} (h : cd_ct s s' = true) : s' = 2 ∨ s' = 3 := by
  by_cases h2 : s' = 2
  · exact Or.inl h2
  · by_cases h3 : s' = 3
    · exact Or.inr h3
    · simp [cd_ct, h2, h3] at h
theorem cd_lg_n {d : Nat} {R : Nat → Nat} {n : Nat} (h : cd_ct (cd_S d R n) (cd_S d R (n + 1)) = false) : cd_lg d R (n + 1) = cd_lg d R n := by
  show (if cd_ct (cd_S d R n) (cd_S d R (n + 1)) = true then _ else cd_lg d R n) = _
  rw [h]
  exact if_neg (by decide)
theorem cd_lg_c {d : Nat} {R : Nat → Nat} {n : Nat} (h : cd_ct (cd_S d R n) (cd_S d R (n + 1)) = true) : cd_lg d R (n + 1) = cd_mx (cd_lg d R n) (cd_z (cd_t d R (n + 1))) := if_pos h
/-- a step inside a field that reads no character -/
theorem cd_vn {d : Nat} {R : Nat → Nat} {q : Nat} (h0 : cd_S d R (q + 1) ≠ 0) (h1 : cd_S d R (q + 1) ≠ 1) (hc : cd_ct (cd_S d R q) (cd_S d R (q + 1)) = false) : cd_v d R (q + 1) = cd_v d R q := by
  have e : cd_t' d R (q + 1) = cd_t' d R q := by
    rw [cd_t'n h0, cd_ts1]
    unfold cd_ts
    rw [if_neg h1, hc]
    exact if_neg (by decide)
  unfold cd_v
  rw [e, cd_mc_n h0, cd_uv_n h0, cd_lg_n hc]
/-- a step that reads a character -/
theorem cd_vc {d : Nat} {R : Nat → Nat} {q : Nat} (hc : cd_ct (cd_S d R q) (cd_S d R (q + 1)) = true) :
    cd_v d R (q + 1) = (cd_oA (R q) (cd_t' d R q), cd_mx (cd_lg d R q) (cd_z (cd_t' d R q) + 1), cd_mc d R q, cd_uv d R q) := by
  have h0 : cd_S d R (q + 1) ≠ 0 := by
    intro z
    rw [z, cd_ct0] at hc
    exact absurd hc (by decide)
  have h1 : cd_S d R (q + 1) ≠ 1 := by
    intro z
    rw [z, cd_ct1] at hc
    exact absurd hc (by decide)
  have e : cd_t d R (q + 1) = cd_oA (R q) (cd_t' d R q) := by
    rw [cd_ts1]
    unfold cd_ts
    rw [if_neg h1, if_pos hc]
  unfold cd_v
  rw [cd_t'n h0, cd_mc_n h0, cd_uv_n h0, cd_lg_c hc, e, cd_oAz]
/-- the separator -/
theorem cd_vf {d : Nat} {R : Nat → Nat} {q : Nat} (h1 : cd_S d R (q + 1) = 1) :
    cd_v d R (q + 1) = (cd_oF (cd_t' d R q), cd_lg d R q, cd_mc d R q, cd_uv d R q) := by
  have h0 : cd_S d R (q + 1) ≠ 0 := by rw [h1]; decide
  have hc : cd_ct (cd_S d R q) (cd_S d R (q + 1)) = false := by rw [h1]; exact cd_ct1 _
  have e : cd_t d R (q + 1) = cd_oF (cd_t' d R q) := by
    rw [cd_ts1]
    unfold cd_ts
    rw [if_pos h1]
  unfold cd_v
  rw [cd_t'n h0, cd_mc_n h0, cd_uv_n h0, cd_lg_n hc, e]
/-- the record's end -/
theorem cd_ve {d : Nat} {R : Nat → Nat} {q : Nat} (h : cd_S d R (q + 1) = 0) : cd_e d R (q + 1) = cd_cw (cd_v d R q) := by
  have hc : cd_ct (cd_S d R q) (cd_S d R (q + 1)) = false := by rw [h]; exact cd_ct0 _
  have e : cd_t d R (q + 1) = cd_t' d R q := by
    rw [cd_ts1]
    unfold cd_ts
    rw [if_neg (by rw [h]; decide), hc]
    exact if_neg (by decide)
  have em : cd_mc d R (q + 1) = cd_mx (cd_mc d R q) (cd_f (cd_t d R (q + 1))) := if_pos h
  have eu : cd_uv d R (q + 1) = (cd_uv d R q || (decide (1 < (cd_t d R (q + 1)).1) && !decide (cd_f (cd_t d R (q + 1)) = cd_mc d R q))) := by
    show (cd_uv d R q || (decide (cd_S d R (q + 1) = 0) && _)) = _
    rw [decide_eq_true h, Bool.true_and]
  rw [cd_e0 h, em, eu, cd_lg_n hc, e]
  rfl
/-- bounds -/
theorem cd_t'p (d : Nat) (R : Nat → Nat) (n : Nat) : 1 ≤ (cd_t' d R n).1 ∧ 1 ≤ cd_f (cd_t' d R n) := by
  induction n with
  | zero => exact ⟨Nat.le_refl 1, Nat.le_refl 1⟩
  | succ n ih =>
    by_cases h : cd_S d R (n + 1) = 0
    · rw [cd_t'0 h, cd_oRf]
      exact ⟨Nat.le_add_left 1 _, Nat.le_refl 1⟩
    · rw [cd_t'n h, cd_ts1]
      unfold cd_ts
      split
      · rw [cd_oFf]
        exact ⟨ih.1, Nat.le_add_left 1 _⟩
      · split
        · rw [cd_oAf]
          exact ih
        · exact ih
theorem cd_tsb {s s' c : Nat} {t : cd_T} {n : Nat} (h : t.1 ≤ n ∧ cd_f t ≤ n ∧ cd_z t ≤ n) : (cd_ts s s' c t).1 = t.1 ∧ cd_f (cd_ts s s' c t) ≤ n + 1 ∧ cd_z (cd_ts s s' c t) ≤ n + 1 ∧ cd_f t ≤ cd_f (cd_ts s s' c t) := by
  unfold cd_ts
  split
  · rw [cd_oFf, cd_oFz]
    exact ⟨rfl, by omega, by omega, by omega⟩
  · split
    · rw [cd_oAf, cd_oAz]
      exact ⟨rfl, by omega, by omega, by omega⟩
    · exact ⟨rfl, by omega, by omega, by omega⟩
theorem cd_tb1 (d : Nat) (R : Nat → Nat) (n : Nat) : (cd_t d R n).1 ≤ n ∧ cd_f (cd_t d R n) ≤ n + 1 ∧ cd_z (cd_t d R n) ≤ n ∧ (cd_t' d R n).1 ≤ n + 1 ∧ cd_f (cd_t' d R n) ≤ n + 1 ∧ cd_z (cd_t' d R n) ≤ n := by
  induction n with
  | zero => exact ⟨Nat.le_refl 0, Nat.le_succ 0, Nat.le_refl 0, Nat.le_refl 1, Nat.le_refl 1, Nat.le_refl 0⟩
  | succ n ih =>
    obtain ⟨_, _, _, i1, i2, i3⟩ := ih
    have b := cd_tsb (s := cd_S d R n) (s' := cd_S d R (n + 1)) (c := R n) (t := cd_t' d R n) (n := n + 1) ⟨i1, i2, by omega⟩
    have b3 : cd_z (cd_t d R (n + 1)) ≤ n + 1 := by
      rw [cd_ts1]
      unfold cd_ts
      split
      · rw [cd_oFz]; omega
      · split
        · rw [cd_oAz]; omega
        · omega
    rw [← cd_ts1] at b
    refine ⟨by omega, by omega, b3, ?_⟩
    by_cases h : cd_S d R (n + 1) = 0
    · rw [cd_t'0 h, cd_oRf, cd_oRz]
      refine ⟨?_, by omega, by omega⟩
      show (cd_t d R (n + 1)).1 + 1 ≤ _
      omega
    · rw [cd_t'n h]
      exact ⟨by omega, by omega, b3⟩
theorem cd_lgb (d : Nat) (R : Nat → Nat) (n : Nat) : cd_lg d R n ≤ n := by
  induction n with
  | zero => exact Nat.le_refl 0
  | succ n ih =>
    show (if cd_ct (cd_S d R n) (cd_S d R (n + 1)) = true then cd_mx (cd_lg d R n) (cd_z (cd_t d R (n + 1))) else cd_lg d R n) ≤ _
    split
    · rw [cd_mxe]
      exact ⟨by omega, (cd_tb1 d R (n + 1)).2.2.1⟩
    · omega
theorem cd_mcb (d : Nat) (R : Nat → Nat) (n : Nat) : cd_mc d R n ≤ n + 1 := by
  induction n with
  | zero => exact Nat.zero_le _
  | succ n ih =>
    show (if cd_S d R (n + 1) = 0 then cd_mx (cd_mc d R n) (cd_f (cd_t d R (n + 1))) else cd_mc d R n) ≤ _
    split
    · rw [cd_mxe]
      exact ⟨by omega, (cd_tb1 d R (n + 1)).2.1⟩
    · omega
theorem cd_sob (d : Nat) (R : Nat → Nat) (n : Nat) : cd_so d R n ≤ n := by
  induction n with
  | zero => exact Nat.le_refl 0
  | succ n ih =>
    show (if cd_S d R (n + 1) = 7 then cd_so d R n else cd_so d R n + 1) ≤ _
    split <;> omega
/-- the limits, and that they are kept at every step if they are at the end -/
def cd_lim (w : cd_W) : Prop := w.1.1 ≤ 6 ∧ w.2.2.1 ≤ 5 ∧ w.2.1 ≤ 6
theorem cd_e1 (d : Nat) (R : Nat → Nat) (n : Nat) : (cd_e d R n).1 = cd_t d R n ∧ (cd_e d R n).2.1 = cd_lg d R n := by
  by_cases h : cd_S d R n = 0
  · rw [cd_e0 h]
    exact ⟨rfl, rfl⟩
  · rw [cd_en h]
    exact ⟨cd_t'n h, rfl⟩
theorem cd_em (d : Nat) (R : Nat → Nat) (n : Nat) : cd_mc d R n ≤ (cd_e d R n).2.2.1 ∧ (cd_S d R n ≠ 0 → cd_f (cd_t d R n) ≤ (cd_e d R n).2.2.1) := by
  by_cases h : cd_S d R n = 0
  · rw [cd_e0 h]
    exact ⟨Nat.le_refl _, fun z => absurd h z⟩
  · rw [cd_en h]
    have e : (cd_cw (cd_v d R n)).2.2.1 = cd_mx (cd_mc d R n) (cd_f (cd_t' d R n)) := rfl
    rw [e, cd_t'n h]
    have := (cd_mxe (cd_mx (cd_mc d R n) (cd_f (cd_t d R n))) (cd_mc d R n) (cd_f (cd_t d R n))).mp (Nat.le_refl _)
    exact ⟨this.1, fun _ => this.2⟩
theorem cd_lims {d : Nat} {R : Nat → Nat} {i : Nat} (h : cd_lim (cd_e d R (i + 1))) : cd_lim (cd_e d R i) := by
  obtain ⟨h1, h2, h3⟩ := h
  rw [(cd_e1 d R (i + 1)).1] at h1
  rw [(cd_e1 d R (i + 1)).2] at h3
  have b := cd_tsb (s := cd_S d R i) (s' := cd_S d R (i + 1)) (c := R i) (t := cd_t' d R i) (n := i + 1) ⟨(cd_tb1 d R i).2.2.2.1, (cd_tb1 d R i).2.2.2.2.1, by have := (cd_tb1 d R i).2.2.2.2.2; omega⟩
  rw [← cd_ts1] at b
  have hl : cd_lg d R i ≤ cd_lg d R (i + 1) := by
    show _ ≤ (if cd_ct (cd_S d R i) (cd_S d R (i + 1)) = true then cd_mx (cd_lg d R i) (cd_z (cd_t d R (i + 1))) else cd_lg d R i)
    split
    · exact ((cd_mxe _ _ _).mp (Nat.le_refl _)).1
    · exact Nat.le_refl _
  have hm := cd_em d R (i + 1)
  have hmc : cd_mc d R i ≤ cd_mc d R (i + 1) ∧ (cd_S d R (i + 1) = 0 → cd_f (cd_t d R (i + 1)) ≤ cd_mc d R (i + 1)) := by
    show _ ≤ (if cd_S d R (i + 1) = 0 then cd_mx (cd_mc d R i) (cd_f (cd_t d R (i + 1))) else cd_mc d R i) ∧ (cd_S d R (i + 1) = 0 → _ ≤ (if cd_S d R (i + 1) = 0 then cd_mx (cd_mc d R i) (cd_f (cd_t d R (i + 1))) else cd_mc d R i))
    split
    · exact ⟨((cd_mxe _ _ _).mp (Nat.le_refl _)).1, fun _ => ((cd_mxe _ _ _).mp (Nat.le_refl _)).2⟩
    · exact ⟨Nat.le_refl _, fun z => absurd z (by assumption)⟩
  have hf : cd_f (cd_t d R (i + 1)) ≤ 5 := by
    by_cases z : cd_S d R (i + 1) = 0
    · have := hmc.2 z
      omega
    · have := hm.2 z
      omega
  by_cases h : cd_S d R i = 0
  · rw [cd_e0 h]
    rw [cd_t'0 h] at b
    have e : (cd_oR (cd_t d R i)).1 = (cd_t d R i).1 + 1 := rfl
    rw [e] at b
    exact ⟨by show (cd_t d R i).1 ≤ 6; omega, by show cd_mc d R i ≤ 5; omega, by show cd_lg d R i ≤ 6; omega⟩
  · rw [cd_en h]
    rw [cd_t'n h] at b
    have e : cd_cw (cd_v d R i) = (cd_t d R i, cd_lg d R i, cd_mx (cd_mc d R i) (cd_f (cd_t d R i)), (cd_cw (cd_v d R i)).2.2.2) := by
      unfold cd_cw cd_v
      rw [cd_t'n h]
    rw [e]
    refine ⟨by show (cd_t d R i).1 ≤ 6; omega, ?_, by show cd_lg d R i ≤ 6; omega⟩
    show cd_mx (cd_mc d R i) (cd_f (cd_t d R i)) ≤ 5
    rw [cd_mxe]
    omega
theorem cd_limi {d : Nat} {R : Nat → Nat} {i n : Nat} (hi : i ≤ n) (h : cd_lim (cd_e d R n)) : cd_lim (cd_e d R i) := by
  induction n with
  | zero =>
    have e : i = 0 := by omega
    rw [e]
    exact h
  | succ n ih =>
    by_cases e : i = n + 1
    · rw [e]
      exact h
    · exact ih (by omega) (cd_lims h)
/-- what the limits say of one step -/
theorem cd_limx {d : Nat} {R : Nat → Nat} {i : Nat} (h : cd_lim (cd_e d R (i + 1))) :
    (cd_S d R i = 0 → (cd_t d R i).1 < 6) ∧ (cd_S d R (i + 1) = 1 → cd_f (cd_t' d R i) < 5) ∧ (cd_ct (cd_S d R i) (cd_S d R (i + 1)) = true → cd_z (cd_t' d R i) < 6) := by
  obtain ⟨h1, h2, h3⟩ := h
  rw [(cd_e1 d R (i + 1)).1] at h1
  rw [(cd_e1 d R (i + 1)).2] at h3
  refine ⟨fun z => ?_, fun z => ?_, fun z => ?_⟩
  · have b := cd_tsb (s := cd_S d R i) (s' := cd_S d R (i + 1)) (c := R i) (t := cd_t' d R i) (n := i + 1) ⟨(cd_tb1 d R i).2.2.2.1, (cd_tb1 d R i).2.2.2.2.1, by have := (cd_tb1 d R i).2.2.2.2.2; omega⟩
    rw [← cd_ts1, cd_t'0 z] at b
    have e : (cd_oR (cd_t d R i)).1 = (cd_t d R i).1 + 1 := rfl
    rw [e] at b
    omega
  · have hm := (cd_em d R (i + 1)).2 (by rw [z]; decide)
    rw [cd_ts1] at hm
    unfold cd_ts at hm
    rw [if_pos z, cd_oFf] at hm
    omega
  · have e := cd_lg_c z
    have e2 := congrArg (fun w : cd_W => w.2.1) (cd_vc z)
    have e3 : cd_lg d R (i + 1) = cd_mx (cd_lg d R i) (cd_z (cd_t' d R i) + 1) := e2
    rw [e3, cd_mxe] at h3
    omega
/-- the escape is no character of a field -/
theorem cd_c9 {d s c : Nat} (h : cd_ct s (cd_stp d s c) = true) (hc : c ≤ 10) : c ≤ 9 := by
  by_cases e : c = 10
  · subst e
    exfalso
    have hs := cd_ctn h
    have n2 : cd_stp d s 10 ≠ 2 ∧ cd_stp d s 10 ≠ 3 := by
      unfold cd_stp
      repeat' split
      all_goals omega
    omega
  · omega
end
section
/-! the reference's read arrays against the table that is read -/
def cy_fd (Z K : Nat → Nat) (rS rK : Nat → Int32) (k : Nat) : Prop :=
  rS k = nI (if Z k < 7 then Z k else 6) ∧ ∀ i, i < 6 → i < Z k → rK (6 * k + i) = nI (K (6 * k + i))
theorem cy_fdc {Z K Z' K' : Nat → Nat} {rS rK rS' rK' : Nat → Int32} {k : Nat} (h : cy_fd Z K rS rK k) (h1 : Z' k = Z k) (h2 : rS' k = rS k)
    (h3 : ∀ i, i < 6 → K' (6 * k + i) = K (6 * k + i)) (h4 : ∀ i, i < 6 → rK' (6 * k + i) = rK (6 * k + i)) : cy_fd Z' K' rS' rK' k := by
  unfold cy_fd
  rw [h1, h2]
  refine ⟨h.1, fun i hi hz => ?_⟩
  rw [h3 i hi, h4 i hi]
  exact h.2 i hi hz
/-- inside field g of record m -/
def cy_T (m g : Nat) (C Z K : Nat → Nat) (rC rS rK : Nat → Int32) : Prop :=
  (∀ r, r < m → r < 6 → rC r = nI (C r)) ∧
  (∀ r f, r < m → f < C r → r < 6 → f < 5 → cy_fd Z K rS rK (5 * r + f)) ∧
  (∀ f, f < g → m < 6 → f < 5 → cy_fd Z K rS rK (5 * m + f)) ∧
  (m < 6 → g < 5 → ∀ i, i < 6 → i < Z (5 * m + g) → rK (6 * (5 * m + g) + i) = nI (K (6 * (5 * m + g) + i)))
/-- behind it -/
def cy_C (m g : Nat) (C Z K : Nat → Nat) (rC rS rK : Nat → Int32) : Prop :=
  (∀ r, r < m → r < 6 → rC r = nI (C r)) ∧
  (∀ r f, r < m → f < C r → r < 6 → f < 5 → cy_fd Z K rS rK (5 * r + f)) ∧
  (∀ f, f < g + 1 → m < 6 → f < 5 → cy_fd Z K rS rK (5 * m + f))
/-- behind n records -/
def cy_R (n : Nat) (C Z K : Nat → Nat) (rC rS rK : Nat → Int32) : Prop :=
  (∀ r, r < n → r < 6 → rC r = nI (C r)) ∧
  (∀ r f, r < n → f < C r → r < 6 → f < 5 → cy_fd Z K rS rK (5 * r + f))
theorem cy_Tst {m g : Nat} {C Z K Z' K' : Nat → Nat} {rC rS rK rK' : Nat → Int32} (h : cy_T m g C Z K rC rS rK)
    (hZ : ∀ k, k < 5 * m + g → Z' k = Z k) (hK : ∀ j, j < 6 * (5 * m + g) → K' j = K j) (hk : ∀ j, j < 6 * (5 * m + g) → rK' j = rK j)
    (hc : m < 6 → g < 5 → ∀ i, i < 6 → i < Z' (5 * m + g) → rK' (6 * (5 * m + g) + i) = nI (K' (6 * (5 * m + g) + i))) : cy_T m g C Z' K' rC rS rK' :=
  ⟨h.1, fun r f hr hf h6 h5 => cy_fdc (h.2.1 r f hr hf h6 h5) (hZ _ (by omega)) rfl (fun i hi => hK _ (by omega)) (fun i hi => hk _ (by omega)),
    fun f hf h6 h5 => cy_fdc (h.2.2.1 f hf h6 h5) (hZ _ (by omega)) rfl (fun i hi => hK _ (by omega)) (fun i hi => hk _ (by omega)), hc⟩
/-- a character that finds room -/
theorem cy_Ta {m g c : Nat} {C Z K : Nat → Nat} {rC rS rK : Nat → Int32} (h : cy_T m g C Z K rC rS rK) (h6 : m < 6) (h5 : g < 5) :
    cy_T m g C (cd_up Z (5 * m + g) (Z (5 * m + g) + 1)) (cd_up K (6 * (5 * m + g) + Z (5 * m + g)) c) rC rS (upd rK (6 * (5 * m + g) + Z (5 * m + g)) (nI c)) := by
  refine cy_Tst h (fun k hk => cd_un (by omega)) (fun j hj => cd_un (by omega)) (fun j hj => pk_un (by omega)) (fun _ _ i hi hz => ?_)
  rw [cd_us] at hz
  by_cases e : i = Z (5 * m + g)
  · subst e
    rw [cd_us, pk_us]
  · have e2 : 6 * (5 * m + g) + i ≠ 6 * (5 * m + g) + Z (5 * m + g) := by omega
    rw [cd_un e2, pk_un e2]
    exact h.2.2.2 h6 h5 i hi (by omega)
/-- one that finds none -/
theorem cy_To {m g c : Nat} {C Z K : Nat → Nat} {rC rS rK : Nat → Int32} (h : cy_T m g C Z K rC rS rK) (ho : 6 ≤ m ∨ 5 ≤ g ∨ 6 ≤ Z (5 * m + g)) :
    cy_T m g C (cd_up Z (5 * m + g) (Z (5 * m + g) + 1)) (cd_up K (6 * (5 * m + g) + Z (5 * m + g)) c) rC rS rK := by
  refine cy_Tst h (fun k hk => cd_un (by omega)) (fun j hj => cd_un (by omega)) (fun j hj => rfl) (fun h6 h5 i hi hz => ?_)
  rw [cd_us] at hz
  have e2 : 6 * (5 * m + g) + i ≠ 6 * (5 * m + g) + Z (5 * m + g) := by omega
  rw [cd_un e2]
  exact h.2.2.2 h6 h5 i hi (by omega)
/-- the field's end -/
theorem cy_Ci {m g : Nat} {C Z K : Nat → Nat} {rC rS rK : Nat → Int32} (h : cy_T m g C Z K rC rS rK) (h6 : m < 6) (h5 : g < 5) :
    cy_C m g C Z K rC (upd rS (5 * m + g) (nI (if Z (5 * m + g) < 7 then Z (5 * m + g) else 6))) rK := by
  refine ⟨h.1, fun r f hr hf hr6 hf5 => cy_fdc (h.2.1 r f hr hf hr6 hf5) rfl (pk_un (by omega)) (fun _ _ => rfl) (fun _ _ => rfl), fun f hf _ hf5 => ?_⟩
  by_cases e : f = g
  · subst e
    exact ⟨pk_us, h.2.2.2 h6 h5⟩
  · exact cy_fdc (h.2.2.1 f (by omega) h6 hf5) rfl (pk_un (by omega)) (fun _ _ => rfl) (fun _ _ => rfl)
theorem cy_Co {m g : Nat} {C Z K : Nat → Nat} {rC rS rK : Nat → Int32} (h : cy_T m g C Z K rC rS rK) (ho : 6 ≤ m ∨ 5 ≤ g) : cy_C m g C Z K rC rS rK :=
  ⟨h.1, h.2.1, fun f hf h6 h5 => h.2.2.1 f (by omega) h6 h5⟩
/-- the next field -/
theorem cy_CF {m g x : Nat} {C Z K : Nat → Nat} {rC rS rK : Nat → Int32} (h : cy_C m g C Z K rC rS rK) :
    cy_T m (g + 1) (cd_up C m x) (cd_up Z (5 * m + (g + 1)) 0) K rC rS rK := by
  refine ⟨fun r hr h6 => ?_, fun r f hr hf h6 h5 => ?_, fun f hf h6 h5 => ?_, fun _ _ i _ hz => ?_⟩
  · rw [cd_un (by omega)]
    exact h.1 r hr h6
  · rw [cd_un (by omega)] at hf
    exact cy_fdc (h.2.1 r f hr hf h6 h5) (cd_un (by omega)) rfl (fun _ _ => rfl) (fun _ _ => rfl)
  · exact cy_fdc (h.2.2 f hf h6 h5) (cd_un (by omega)) rfl (fun _ _ => rfl) (fun _ _ => rfl)
  · rw [cd_us] at hz
    exact absurd hz (Nat.not_lt_zero i)
/-- the record's end -/
theorem cy_CRi {m g : Nat} {C Z K : Nat → Nat} {rC rS rK : Nat → Int32} (h : cy_C m g C Z K rC rS rK) (hg : C m = g + 1) :
    cy_R (m + 1) C Z K (upd rC m (nI (g + 1))) rS rK := by
  refine ⟨fun r hr h6 => ?_, fun r f hr hf h6 h5 => ?_⟩
  · by_cases e : r = m
    · subst e
      rw [pk_us, hg]
    · rw [pk_un e]
      exact h.1 r (by omega) h6
  · by_cases e : r = m
    · subst e
      exact h.2.2 f (by omega) h6 h5
    · exact h.2.1 r f (by omega) hf h6 h5
theorem cy_CRo {m g : Nat} {C Z K : Nat → Nat} {rC rS rK : Nat → Int32} (h : cy_C m g C Z K rC rS rK) (hg : C m = g + 1) (ho : 6 ≤ m) :
    cy_R (m + 1) C Z K rC rS rK := by
  refine ⟨fun r hr h6 => h.1 r (by omega) h6, fun r f hr hf h6 h5 => h.2.1 r f (by omega) hf h6 h5⟩
/-- the next record -/
theorem cy_RT {n : Nat} {C Z K : Nat → Nat} {rC rS rK : Nat → Int32} (h : cy_R n C Z K rC rS rK) :
    cy_T n 0 (cd_up C n 1) (cd_up Z (5 * n) 0) K rC rS rK := by
  refine ⟨fun r hr h6 => ?_, fun r f hr hf h6 h5 => ?_, fun f hf => absurd hf (Nat.not_lt_zero f), fun _ _ i _ hz => ?_⟩
  · rw [cd_un (by omega)]
    exact h.1 r hr h6
  · rw [cd_un (by omega)] at hf
    exact cy_fdc (h.2 r f hr hf h6 h5) (cd_un (by omega)) rfl (fun _ _ => rfl) (fun _ _ => rfl)
  · rw [Nat.add_zero, cd_us] at hz
    exact absurd hz (Nat.not_lt_zero i)
theorem cy_R0 {C Z K : Nat → Nat} {rC rS rK : Nat → Int32} : cy_R 0 C Z K rC rS rK :=
  ⟨fun r h => absurd h (Nat.not_lt_zero r), fun r _ h => absurd h (Nat.not_lt_zero r)⟩
/-- taken over into the table, where the limits are kept (which the component's side has shown) -/
theorem cy_tb {n : Nat} {C Z K : Nat → Nat} {rC rS rK cn sz ch cn' sz' ch' : Nat → Int32} (h : cy_R n C Z K rC rS rK) (hn : n ≤ 6) (hx : cd_tb n C Z K cn' sz' ch')
    (h1 : ∀ r, r < n → cn r = rC r) (h2 : ∀ k, k < 30 → sz k = rS k) (h3 : ∀ j, j < 180 → ch j = rK j) : cd_tb n C Z K cn sz ch := by
  intro r hr
  obtain ⟨a1, a2, a3, a4⟩ := hx r hr
  refine ⟨a1, a2, ?_, fun f hf => ?_⟩
  · rw [h1 r hr]
    exact h.1 r hr (by omega)
  · obtain ⟨b1, b2, b3⟩ := a4 f hf
    obtain ⟨c1, c2⟩ := h.2 r f hr hf (by omega) (by omega)
    refine ⟨b1, ?_, fun i hi => ⟨(b3 i hi).1, ?_⟩⟩
    · rw [h2 _ (by omega), c1, if_pos (by omega)]
    · rw [h3 _ (by omega)]
      exact c2 i (by omega) hi
end
section
/-! writing, purely: (how many characters, which) -/
abbrev cd_O : Type := Nat × (Nat → Nat)
def cw_em (w : cd_O) (c : Nat) : cd_O := (w.1 + 1, cd_up w.2 w.1 c)
/-- n characters from place b on; q stands before a quote -/
def cw_ch (q : Nat) (K : Nat → Nat) (b : Nat) (w : cd_O) : Nat → cd_O
  | 0 => w
  | i + 1 => cw_em (if K (b + i) = 7 then cw_em (cw_ch q K b w i) q else cw_ch q K b w i) (K (b + i))
/-- one of the first n characters wants quotes -/
def cw_nq (s : Nat) (K : Nat → Nat) (b : Nat) : Nat → Bool
  | 0 => false
  | i + 1 => cw_nq s K b i || (decide (K (b + i) = s) || decide (7 ≤ K (b + i)))
def cw_q (s : Nat) (C Z K : Nat → Nat) (r f : Nat) : Bool :=
  cw_nq s K (6 * (5 * r + f)) (Z (5 * r + f)) || (decide (Z (5 * r + f) = 0) && decide (C r = 1))
def cw_bq (d : Nat) : Nat := if cd_es d = true then 10 else 7
def cw_o (b : Bool) (w : cd_O) (c : Nat) : cd_O := if b = true then cw_em w c else w
def cw_f (d : Nat) (C Z K : Nat → Nat) (r f : Nat) (w : cd_O) : cd_O :=
  cw_o (cw_q (cd_sp d) C Z K r f) (cw_ch (cw_bq d) K (6 * (5 * r + f)) (cw_o (cw_q (cd_sp d) C Z K r f) w 7) (Z (5 * r + f))) 7
def cw_r (d : Nat) (C Z K : Nat → Nat) (r : Nat) (w : cd_O) : Nat → cd_O
  | 0 => w
  | f + 1 => cw_f d C Z K r f (if f = 0 then cw_r d C Z K r w f else cw_em (cw_r d C Z K r w f) (cd_sp d))
def cw_e (d : Nat) (w : cd_O) : cd_O := cw_em (cw_o (cd_cr d) w 8) 9
def cw_a (d : Nat) (C Z K : Nat → Nat) : Nat → cd_O
  | 0 => (0, fun _ => 0)
  | r + 1 => cw_e d (cw_r d C Z K r (cw_a d C Z K r) (C r))
theorem cw_em1 (w : cd_O) (c : Nat) : (cw_em w c).1 = w.1 + 1 := rfl
theorem cw_chb (q : Nat) (K : Nat → Nat) (b : Nat) (w : cd_O) (i : Nat) : (cw_ch q K b w i).1 ≤ w.1 + 2 * i := by
  induction i with
  | zero => exact Nat.le_refl _
  | succ i ih =>
    show (cw_em (if K (b + i) = 7 then cw_em (cw_ch q K b w i) q else cw_ch q K b w i) (K (b + i))).1 ≤ _
    rw [cw_em1]
    split
    · rw [cw_em1]; omega
    · omega
theorem cw_ob (b : Bool) (w : cd_O) (c : Nat) : (cw_o b w c).1 ≤ w.1 + 1 := by
  unfold cw_o
  split
  · rw [cw_em1]; omega
  · omega
theorem cw_fb {d : Nat} {C Z K : Nat → Nat} {r f : Nat} (w : cd_O) (h : Z (5 * r + f) ≤ 6) : (cw_f d C Z K r f w).1 ≤ w.1 + 14 := by
  unfold cw_f
  have h1 := cw_ob (cw_q (cd_sp d) C Z K r f) (cw_ch (cw_bq d) K (6 * (5 * r + f)) (cw_o (cw_q (cd_sp d) C Z K r f) w 7) (Z (5 * r + f))) 7
  have h2 := cw_chb (cw_bq d) K (6 * (5 * r + f)) (cw_o (cw_q (cd_sp d) C Z K r f) w 7) (Z (5 * r + f))
  have h3 := cw_ob (cw_q (cd_sp d) C Z K r f) w 7
  omega
theorem cw_rb {d : Nat} {C Z K : Nat → Nat} {r : Nat} (w : cd_O) (n : Nat) (h : ∀ f, f < n → Z (5 * r + f) ≤ 6) :
    (cw_r d C Z K r w n).1 ≤ w.1 + 15 * n - 1 ∨ (n = 0 ∧ (cw_r d C Z K r w n).1 = w.1) := by
  induction n with
  | zero => exact Or.inr ⟨rfl, rfl⟩
  | succ n ih =>
    left
    have hf := cw_fb (d := d) (C := C) (K := K) (if n = 0 then cw_r d C Z K r w n else cw_em (cw_r d C Z K r w n) (cd_sp d)) (h n (by omega))
    have e : cw_r d C Z K r w (n + 1) = cw_f d C Z K r n (if n = 0 then cw_r d C Z K r w n else cw_em (cw_r d C Z K r w n) (cd_sp d)) := rfl
    rw [e]
    have ih := ih (fun f hF => h f (by omega))
    by_cases n0 : n = 0
    · rw [if_pos n0] at hf ⊢
      omega
    · rw [if_neg n0] at hf ⊢
      rw [cw_em1] at hf
      omega
theorem cw_eb (d : Nat) (w : cd_O) : (cw_e d w).1 ≤ w.1 + 2 := by
  unfold cw_e
  rw [cw_em1]
  have := cw_ob (cd_cr d) w 8
  omega
theorem cw_ab {d rn : Nat} {C Z K : Nat → Nat} {cn sz ch : Nat → Int32} (h : cd_tb rn C Z K cn sz ch) (r : Nat) (hr : r ≤ rn) : (cw_a d C Z K r).1 ≤ 76 * r := by
  induction r with
  | zero => exact Nat.le_refl 0
  | succ r ih =>
    obtain ⟨h1, h2, _, h4⟩ := h r (by omega)
    have e : cw_a d C Z K (r + 1) = cw_e d (cw_r d C Z K r (cw_a d C Z K r) (C r)) := rfl
    rw [e]
    have a := cw_eb d (cw_r d C Z K r (cw_a d C Z K r) (C r))
    have b := cw_rb (d := d) (C := C) (K := K) (cw_a d C Z K r) (C r) (fun f hf => (h4 f hf).1)
    have c := ih (by omega)
    omega
end
section
/-! what the reference's fields say while it reads: w is (table, longest, most fields, uneven) -/
def cd_b (b : Bool) : Int32 := match b with
  | true => 1
  | false => 0
theorem cd_b0 {b : Bool} : cd_b b = 0 ↔ b = false := by
  cases b
  · exact ⟨fun _ => rfl, fun _ => rfl⟩
  · exact ⟨fun h => absurd h (by decide), fun h => absurd h (by decide)⟩
theorem cy_pl {t : cd_T} {m g : Nat} (h : t.1 = m + 1) (hg : t.2.1 m = g + 1) : cd_pl t = 5 * m + g ∧ cd_f t = g + 1 ∧ cd_z t = t.2.2.1 (5 * m + g) := by
  have e : t.1 - 1 = m := by omega
  have e1 : cd_pl t = 5 * m + g := by
    unfold cd_pl
    rw [e, hg]
    omega
  refine ⟨e1, ?_, ?_⟩
  · unfold cd_f
    rw [e, hg]
  · unfold cd_z
    rw [e1]
/-- inside field g of record m -/
def cy_I (w : cd_W) (m g : Nat) (ov : Int32) (rC rS rK : Nat → Int32) : Prop :=
  w.1.1 = m + 1 ∧ w.1.2.1 m = g + 1 ∧ cy_T m g w.1.2.1 w.1.2.2.1 w.1.2.2.2 rC rS rK ∧
  ∃ b : Bool, ov = cd_b b ∧ (b = true → 6 ≤ m ∨ 5 ≤ g ∨ 5 < w.2.2.1 ∨ 6 < w.2.1) ∧ (5 < w.2.2.1 ∨ 6 < w.2.1 → b = true ∨ 6 ≤ m ∨ 5 ≤ g)
/-- behind it -/
def cy_J (w : cd_W) (m g : Nat) (ov : Int32) (rC rS rK : Nat → Int32) : Prop :=
  w.1.1 = m + 1 ∧ w.1.2.1 m = g + 1 ∧ cy_C m g w.1.2.1 w.1.2.2.1 w.1.2.2.2 rC rS rK ∧
  ∃ b : Bool, ov = cd_b b ∧ (b = true ↔ 6 ≤ m ∨ 5 ≤ g ∨ 5 < w.2.2.1 ∨ 6 < w.2.1)
/-- behind n records -/
def cy_B (w : cd_W) (n : Nat) (ov : Int32) (rC rS rK : Nat → Int32) : Prop :=
  w.1.1 = n ∧ cy_R n w.1.2.1 w.1.2.2.1 w.1.2.2.2 rC rS rK ∧
  ∃ b : Bool, ov = cd_b b ∧ (b = true ↔ 6 < n ∨ 5 < w.2.2.1 ∨ 6 < w.2.1)
/-- even and first, behind m records -/
def cy_E (m mc : Nat) (uv : Bool) (ev fi : Int32) : Prop :=
  ev = cd_b (!uv) ∧ (uv = false → 1 ≤ m → fi = nI mc) ∧ (m = 0 → mc = 0)
theorem cy_oA {w : cd_W} {m g c : Nat} (h : w.1.1 = m + 1) (hg : w.1.2.1 m = g + 1) :
    (cd_oA c w.1).1 = m + 1 ∧ (cd_oA c w.1).2.1 = w.1.2.1 ∧ (cd_oA c w.1).2.2.1 = cd_up w.1.2.2.1 (5 * m + g) (w.1.2.2.1 (5 * m + g) + 1) ∧
    (cd_oA c w.1).2.2.2 = cd_up w.1.2.2.2 (6 * (5 * m + g) + w.1.2.2.1 (5 * m + g)) c := by
  obtain ⟨e1, e2, e3⟩ := cy_pl h hg
  refine ⟨h, rfl, ?_, ?_⟩
  · show cd_up w.1.2.2.1 (cd_pl w.1) (cd_z w.1 + 1) = _
    rw [e1, e3]
  · show cd_up w.1.2.2.2 (6 * cd_pl w.1 + cd_z w.1) c = _
    rw [e1, e3]
theorem cy_Ii {w : cd_W} {m g c : Nat} {ov : Int32} {rC rS rK : Nat → Int32} (h : cy_I w m g ov rC rS rK) (h6 : m < 6) (h5 : g < 5) (hz : cd_z w.1 < 6) :
    cy_I (cd_oA c w.1, cd_mx w.2.1 (cd_z w.1 + 1), w.2.2.1, w.2.2.2) m g ov rC rS (upd rK (6 * (5 * m + g) + cd_z w.1) (nI c)) := by
  obtain ⟨h1, h2, h3, b, h4, h5', h6'⟩ := h
  obtain ⟨e1, e2, e3⟩ := cy_pl h1 h2
  obtain ⟨a1, a2, a3, a4⟩ := cy_oA (c := c) h1 h2
  refine ⟨a1, by show (cd_oA c w.1).2.1 m = g + 1; rw [a2]; exact h2, ?_, b, h4, ?_, ?_⟩
  · show cy_T m g (cd_oA c w.1).2.1 (cd_oA c w.1).2.2.1 (cd_oA c w.1).2.2.2 rC rS _
    rw [a2, a3, a4, e3]
    exact cy_Ta h3 h6 h5
  · intro z
    show 6 ≤ m ∨ 5 ≤ g ∨ 5 < w.2.2.1 ∨ 6 < cd_mx w.2.1 (cd_z w.1 + 1)
    rw [cd_mxl]
    have := h5' z
    omega
  · intro z
    have z' : 5 < w.2.2.1 ∨ 6 < cd_mx w.2.1 (cd_z w.1 + 1) := z
    rw [cd_mxl] at z'
    exact h6' (by omega)
theorem cy_Io {w : cd_W} {m g c : Nat} {ov : Int32} {rC rS rK : Nat → Int32} (h : cy_I w m g ov rC rS rK) (ho : 6 ≤ m ∨ 5 ≤ g ∨ 6 ≤ cd_z w.1) :
    cy_I (cd_oA c w.1, cd_mx w.2.1 (cd_z w.1 + 1), w.2.2.1, w.2.2.2) m g 1 rC rS rK := by
  obtain ⟨h1, h2, h3, b, h4, h5', h6'⟩ := h
  obtain ⟨e1, e2, e3⟩ := cy_pl h1 h2
  obtain ⟨a1, a2, a3, a4⟩ := cy_oA (c := c) h1 h2
  refine ⟨a1, by show (cd_oA c w.1).2.1 m = g + 1; rw [a2]; exact h2, ?_, true, rfl, ?_, fun _ => Or.inl rfl⟩
  · show cy_T m g (cd_oA c w.1).2.1 (cd_oA c w.1).2.2.1 (cd_oA c w.1).2.2.2 rC rS _
    rw [a2, a3, a4]
    exact cy_To h3 (by rw [e3] at ho; exact ho)
  · intro z
    show 6 ≤ m ∨ 5 ≤ g ∨ 5 < w.2.2.1 ∨ 6 < cd_mx w.2.1 (cd_z w.1 + 1)
    rw [cd_mxl]
    omega
theorem cy_IJi {w : cd_W} {m g : Nat} {ov : Int32} {rC rS rK : Nat → Int32} (h : cy_I w m g ov rC rS rK) (h6 : m < 6) (h5 : g < 5) :
    cy_J w m g ov rC (upd rS (5 * m + g) (nI (if cd_z w.1 < 7 then cd_z w.1 else 6))) rK := by
  obtain ⟨h1, h2, h3, b, h4, h5', h6'⟩ := h
  obtain ⟨e1, e2, e3⟩ := cy_pl h1 h2
  refine ⟨h1, h2, by rw [e3]; exact cy_Ci h3 h6 h5, b, h4, h5', fun z => ?_⟩
  rcases h6' (by omega) with z1 | z1
  · exact z1
  · omega
theorem cy_IJo {w : cd_W} {m g : Nat} {ov : Int32} {rC rS rK : Nat → Int32} (h : cy_I w m g ov rC rS rK) (ho : 6 ≤ m ∨ 5 ≤ g) : cy_J w m g 1 rC rS rK := by
  obtain ⟨h1, h2, h3, b, h4, h5', h6'⟩ := h
  exact ⟨h1, h2, cy_Co h3 ho, true, rfl, fun _ => by omega, fun _ => rfl⟩
theorem cy_JI {w : cd_W} {m g : Nat} {ov : Int32} {rC rS rK : Nat → Int32} (h : cy_J w m g ov rC rS rK) :
    cy_I (cd_oF w.1, w.2.1, w.2.2.1, w.2.2.2) m (g + 1) ov rC rS rK := by
  obtain ⟨h1, h2, h3, b, h4, h5⟩ := h
  obtain ⟨e1, e2, e3⟩ := cy_pl h1 h2
  have em : w.1.1 - 1 = m := by omega
  have a2 : (cd_oF w.1).2.1 = cd_up w.1.2.1 m (g + 2) := by
    show cd_up w.1.2.1 (w.1.1 - 1) (cd_f w.1 + 1) = _
    rw [em, e2]
  have a3 : (cd_oF w.1).2.2.1 = cd_up w.1.2.2.1 (5 * m + (g + 1)) 0 := by
    show cd_up w.1.2.2.1 (5 * (w.1.1 - 1) + cd_f w.1) 0 = _
    rw [em, e2]
  refine ⟨h1, by show (cd_oF w.1).2.1 m = g + 1 + 1; rw [a2, cd_us], ?_, b, h4, fun z => ?_, fun z => ?_⟩
  · show cy_T m (g + 1) (cd_oF w.1).2.1 (cd_oF w.1).2.2.1 w.1.2.2.2 rC rS rK
    rw [a2, a3]
    exact cy_CF h3
  · have := h5.mp z
    show 6 ≤ m ∨ 5 ≤ g + 1 ∨ 5 < w.2.2.1 ∨ 6 < w.2.1
    omega
  · exact Or.inl (h5.mpr (by have z' : 5 < w.2.2.1 ∨ 6 < w.2.1 := z; omega))
theorem cy_JBb {w : cd_W} {m g : Nat} {b : Bool} (e2 : cd_f w.1 = g + 1) (h : b = true ↔ 6 ≤ m ∨ 5 ≤ g ∨ 5 < w.2.2.1 ∨ 6 < w.2.1) :
    b = true ↔ 6 < m + 1 ∨ 5 < (cd_cw w).2.2.1 ∨ 6 < (cd_cw w).2.1 := by
  have e : (cd_cw w).2.2.1 = cd_mx w.2.2.1 (cd_f w.1) := rfl
  have e' : (cd_cw w).2.1 = w.2.1 := rfl
  rw [e, e', cd_mxl, e2, h]
  omega
theorem cy_JBi {w : cd_W} {m g : Nat} {ov : Int32} {rC rS rK : Nat → Int32} (h : cy_J w m g ov rC rS rK) :
    cy_B (cd_cw w) (m + 1) ov (upd rC m (nI (g + 1))) rS rK := by
  obtain ⟨h1, h2, h3, b, h4, h5⟩ := h
  exact ⟨h1, cy_CRi h3 h2, b, h4, cy_JBb (cy_pl h1 h2).2.1 h5⟩
theorem cy_JBo {w : cd_W} {m g : Nat} {ov : Int32} {rC rS rK : Nat → Int32} (h : cy_J w m g ov rC rS rK) (ho : 6 ≤ m) :
    cy_B (cd_cw w) (m + 1) ov rC rS rK := by
  obtain ⟨h1, h2, h3, b, h4, h5⟩ := h
  exact ⟨h1, cy_CRo h3 h2 ho, b, h4, cy_JBb (cy_pl h1 h2).2.1 h5⟩
theorem cy_BI {w : cd_W} {n : Nat} {ov : Int32} {rC rS rK : Nat → Int32} (h : cy_B w n ov rC rS rK) :
    cy_I (cd_oR w.1, w.2.1, w.2.2.1, w.2.2.2) n 0 ov rC rS rK := by
  obtain ⟨h1, h2, b, h4, h5⟩ := h
  have a2 : (cd_oR w.1).2.1 = cd_up w.1.2.1 n 1 := by
    show cd_up w.1.2.1 w.1.1 1 = _
    rw [h1]
  have a3 : (cd_oR w.1).2.2.1 = cd_up w.1.2.2.1 (5 * n) 0 := by
    show cd_up w.1.2.2.1 (5 * w.1.1) 0 = _
    rw [h1]
  refine ⟨by show w.1.1 + 1 = n + 1; rw [h1], by show (cd_oR w.1).2.1 n = 0 + 1; rw [a2, cd_us], ?_, b, h4, fun z => ?_, fun z => ?_⟩
  · show cy_T n 0 (cd_oR w.1).2.1 (cd_oR w.1).2.2.1 w.1.2.2.2 rC rS rK
    rw [a2, a3]
    exact cy_RT h2
  · have := h5.mp z
    show 6 ≤ n ∨ 5 ≤ 0 ∨ 5 < w.2.2.1 ∨ 6 < w.2.1
    omega
  · exact Or.inl (h5.mpr (by have z' : 5 < w.2.2.1 ∨ 6 < w.2.1 := z; omega))
/-- even and first over one record's end -/
theorem cy_Es {m mc g : Nat} {uv : Bool} {ev fi ev' fi' : Int32} (h : cy_E m mc uv ev fi) (hb : mc < 2 ^ 31) (hg : g < 2 ^ 31)
    (he : (ev' = 1 ∧ ¬ ev = 0 ∧ (m = 0 ∨ nI g = fi)) ∨ (ev' = 0 ∧ (ev = 0 ∨ (m ≠ 0 ∧ ¬ nI g = fi)))) (hf : (m = 0 ∧ fi' = nI g) ∨ (m ≠ 0 ∧ fi' = fi)) :
    cy_E (m + 1) (cd_mx mc g) (uv || (decide (1 < m + 1) && !decide (g = mc))) ev' fi' := by
  obtain ⟨h1, h2, h3⟩ := h
  refine ⟨?_, ?_, fun z => absurd z (by omega)⟩
  · cases uv with
    | true =>
      rw [Bool.true_or]
      have e0 : ev = 0 := h1
      rcases he with ⟨_, z, _⟩ | ⟨z, _⟩
      · exact absurd e0 z
      · rw [z]; rfl
    | false =>
      rw [Bool.false_or]
      have e1 : ¬ ev = 0 := by rw [h1]; decide
      by_cases m0 : m = 0
      · rw [decide_eq_false (by omega), Bool.false_and]
        rcases he with ⟨z, _⟩ | ⟨_, z | z⟩
        · rw [z]; rfl
        · exact absurd z e1
        · exact absurd m0 z.1
      · rw [decide_eq_true (by omega), Bool.true_and]
        have ef := h2 rfl (by omega)
        rw [ef, nI_eq hg hb] at he
        rcases he with ⟨z, _, z1⟩ | ⟨z, z1⟩
        · have eg : g = mc := by omega
          rw [z, decide_eq_true eg]; rfl
        · have eg : ¬ g = mc := by
            rcases z1 with z1 | z1
            · exact absurd z1 e1
            · exact z1.2
          rw [z, decide_eq_false eg]; rfl
  · intro hu _
    rw [Bool.or_eq_false_iff] at hu
    obtain ⟨u1, u2⟩ := hu
    by_cases m0 : m = 0
    · have := h3 m0
      rcases hf with ⟨_, z⟩ | ⟨z, _⟩
      · rw [z, this]
        unfold cd_mx
        split
        · rfl
        · exact congrArg nI (by omega)
      · exact absurd m0 z
    · rw [decide_eq_true (by omega), Bool.true_and] at u2
      have eg : g = mc := by simpa using u2
      rcases hf with ⟨z, _⟩ | ⟨_, z⟩
      · exact absurd z m0
      · rw [z, h2 u1 (by omega), eg]
        unfold cd_mx
        rw [if_neg (by omega)]
end
section
/-! the relation, and the methods without a loop -/
def cr_X (dn rn ln : Nat) (D C Z K R : Nat → Nat) (u : SX) : Prop := match u with
  | (x_draftSize, x_recordCount, x_rawCount, x_writingCount, x_scanState, x_scanSound, x_scanRecords, x_scanFields, x_scanSize, x_scanMostFields, x_scanLongest, x_scanUneven, x_draftCharacters, x_fieldCounts, x_fieldSizes, x_characters, x_rawCharacters, x_writing) => cd_tx 6 9 dn D x_draftSize x_draftCharacters ∧ (x_recordCount = nI rn ∧ rn ≤ 6) ∧ cd_tb rn C Z K x_fieldCounts x_fieldSizes x_characters ∧ cd_tx 96 10 ln R x_rawCount x_rawCharacters
def cr_Y (dn rn ln : Nat) (D C Z K R : Nat → Nat) (v : SY) : Prop := match v with
  | (y_records, y_drafted, y_length, y_readRecords, y_readFields, y_readSize, y_readFirst, y_readOver, y_readEven, y_pos, y_end, y_dialect, y_out, y_chars, y_sizes, y_counts, y_draft, y_raw, y_readChars, y_readSizes, y_readCounts) => cd_tx 6 9 dn D y_drafted y_draft ∧ (y_records = nI rn ∧ rn ≤ 6) ∧ cd_tb rn C Z K y_counts y_sizes y_chars ∧ cd_tx 96 10 ln R y_length y_raw
def i_Rel (_ : Nat) (u : SX) (v : SY) : Prop := ∃ (dn rn ln : Nat) (D C Z K R : Nat → Nat), cr_X dn rn ln D C Z K R u ∧ cr_Y dn rn ln D C Z K R v
theorem i_up {k : Nat} {u : SX} {v : SY} (h : i_Rel k u v) : i_Rel (k + 4) u v := h
theorem i_vc0 : wpX_init (fun u => wpY_init (fun v => i_Rel 0 u v)) :=
  ⟨0, 0, 0, fun _ => 0, fun _ => 0, fun _ => 0, fun _ => 0, fun _ => 0, ⟨cd_tx0, ⟨rfl, Nat.zero_le 6⟩, cd_tb0, cd_tx0⟩, ⟨cd_tx0, ⟨rfl, Nat.zero_le 6⟩, cd_tb0, cd_tx0⟩⟩
theorem ar_ge {x : Int32} {n : Nat} (hn : n < 2 ^ 31) (h : nI n ≤ x) : ¬ x < 0 ∧ ¬ x < nI n :=
  ⟨Int32.not_lt.mpr (Int32.le_trans (nI_pos' hn) h), Int32.not_lt.mpr h⟩
section
variable {x_draftSize x_recordCount x_rawCount x_writingCount x_scanState x_scanSound x_scanRecords x_scanFields x_scanSize x_scanMostFields x_scanLongest x_scanUneven : Int32} {x_draftCharacters x_fieldCounts x_fieldSizes x_characters x_rawCharacters x_writing : Nat → Int32}
variable {y_records y_drafted y_length y_readRecords y_readFields y_readSize y_readFirst y_readOver y_readEven y_pos y_end y_dialect y_out : Int32} {y_chars y_sizes y_counts y_draft y_raw y_readChars y_readSizes y_readCounts : Nat → Int32}
variable {dn rn ln : Nat} {D C Z K R : Nat → Nat}
theorem i_vc_draft {k : Nat} {u : SX} {v : SY} (I : i_Rel k u v) (hk : k + 4 ≤ 2048) (v1 : Int32) : wpX_draft (fun r u' => wpY_draft (fun r' v' => r' = r ∧ i_Rel (k + 4) u' v') v v1) u v1 := by
  obtain ⟨dn, rn, ln, D, C, Z, K, R, hX, hY⟩ := I
  obtain ⟨x_draftSize, x_recordCount, x_rawCount, x_writingCount, x_scanState, x_scanSound, x_scanRecords, x_scanFields, x_scanSize, x_scanMostFields, x_scanLongest, x_scanUneven, x_draftCharacters, x_fieldCounts, x_fieldSizes, x_characters, x_rawCharacters, x_writing⟩ := u
  obtain ⟨y_records, y_drafted, y_length, y_readRecords, y_readFields, y_readSize, y_readFirst, y_readOver, y_readEven, y_pos, y_end, y_dialect, y_out, y_chars, y_sizes, y_counts, y_draft, y_raw, y_readChars, y_readSizes, y_readCounts⟩ := v
  have hX' := hX
  have hY' := hY
  obtain ⟨⟨a1, rfl, a3⟩, a4, a5, a6⟩ := hX
  obtain ⟨⟨b1, rfl, b3⟩, b4, b5, b6⟩ := hY
  unfold wpX_draft wpY_draft
  dsimp only
  rcases pk_ix v1 (n := 10) (by decide) with h | h | ⟨c, hc, rfl⟩
  · exact br_t h (br_t h ⟨rfl, dn, rn, ln, D, C, Z, K, R, hX', hY'⟩)
  · have g := ar_ge (by decide) h
    exact br_f g.1 (br_f g.2 (br_f g.1 (br_f (fun z => g.2 (Int32.lt_of_le_of_lt z (by decide))) ⟨rfl, dn, rn, ln, D, C, Z, K, R, hX', hY'⟩)))
  · refine br_f (nI_pos (by omega)) (br_t (nI_lt (b := 10) hc (by decide)) ?_)
    refine pk_lt dn 6 (fun h6 => ⟨pk_in dn 6 h6, nm_r (e' := upd x_draftCharacters dn (nI c)) (by rw [nI_clamp (by omega)]) (nm_r (nI_1 dn) ?_)⟩) (fun h6 => ?_)
    · refine br_f (nI_pos (by omega)) (br_t (nI_le (b := 9) (by omega) (by decide)) ?_)
      refine pk_eq dn 6 (fun e => absurd e (by omega)) (fun _ => ⟨pk_in dn 6 h6, nm_r (e' := upd y_draft dn (nI c)) (by rw [nI_clamp (by omega)]) (nm_r (nI_1 dn) ?_)⟩)
      exact ⟨rfl, dn + 1, rn, ln, cd_up D dn c, C, Z, K, R, ⟨cd_txU ⟨a1, rfl, a3⟩ h6 (by omega), a4, a5, a6⟩, ⟨cd_txU ⟨b1, rfl, b3⟩ h6 (by omega), b4, b5, b6⟩⟩
    · refine br_f (nI_pos (by omega)) (br_t (nI_le (b := 9) (by omega) (by decide)) ?_)
      exact pk_eq dn 6 (fun _ => ⟨rfl, dn, rn, ln, D, C, Z, K, R, hX', hY'⟩) (fun e => absurd (by omega) e)
theorem i_vc_raw {k : Nat} {u : SX} {v : SY} (I : i_Rel k u v) (hk : k + 4 ≤ 2048) (v1 : Int32) : wpX_raw (fun r u' => wpY_raw (fun r' v' => r' = r ∧ i_Rel (k + 4) u' v') v v1) u v1 := by
  obtain ⟨dn, rn, ln, D, C, Z, K, R, hX, hY⟩ := I
  obtain ⟨x_draftSize, x_recordCount, x_rawCount, x_writingCount, x_scanState, x_scanSound, x_scanRecords, x_scanFields, x_scanSize, x_scanMostFields, x_scanLongest, x_scanUneven, x_draftCharacters, x_fieldCounts, x_fieldSizes, x_characters, x_rawCharacters, x_writing⟩ := u
  obtain ⟨y_records, y_drafted, y_length, y_readRecords, y_readFields, y_readSize, y_readFirst, y_readOver, y_readEven, y_pos, y_end, y_dialect, y_out, y_chars, y_sizes, y_counts, y_draft, y_raw, y_readChars, y_readSizes, y_readCounts⟩ := v
  have hX' := hX
  have hY' := hY
  obtain ⟨a4, a5, a6, ⟨a1, rfl, a3⟩⟩ := hX
  obtain ⟨b4, b5, b6, ⟨b1, rfl, b3⟩⟩ := hY
  unfold wpX_raw wpY_raw
  dsimp only
  rcases pk_ix v1 (n := 11) (by decide) with h | h | ⟨c, hc, rfl⟩
  · exact br_t h (br_t h ⟨rfl, dn, rn, ln, D, C, Z, K, R, hX', hY'⟩)
  · have g := ar_ge (by decide) h
    have g2 : ¬ v1 ≤ 10 := fun z => g.2 (Int32.lt_of_le_of_lt z (by decide))
    exact br_f g.1 (br_f g2 (br_f g.1 (br_f g2 ⟨rfl, dn, rn, ln, D, C, Z, K, R, hX', hY'⟩)))
  · have hp : ¬ nI c < 0 := nI_pos (by omega)
    have h10 : nI c ≤ 10 := nI_le (b := 10) (by omega) (by decide)
    refine br_f hp (br_t h10 ?_)
    refine pk_lt ln 96 (fun h6 => ⟨pk_in ln 96 h6, nm_r (e' := upd x_rawCharacters ln (nI c)) (by rw [nI_clamp (by omega)]) (nm_r (nI_1 ln) ?_)⟩) (fun h6 => ?_)
    · refine br_f hp (br_t h10 ?_)
      refine pk_eq ln 96 (fun e => absurd e (by omega)) (fun _ => ⟨pk_in ln 98 (by omega), nm_r (e' := upd y_raw ln (nI c)) (by rw [nI_clamp (by omega)]) (nm_r (nI_1 ln) ?_)⟩)
      exact ⟨rfl, dn, rn, ln + 1, D, C, Z, K, cd_up R ln c, ⟨a4, a5, a6, cd_txU ⟨a1, rfl, a3⟩ h6 (by omega)⟩, ⟨b4, b5, b6, cd_txU ⟨b1, rfl, b3⟩ h6 (by omega)⟩⟩
    · refine br_f hp (br_t h10 ?_)
      exact pk_eq ln 96 (fun _ => ⟨rfl, dn, rn, ln, D, C, Z, K, R, hX', hY'⟩) (fun e => absurd (by omega) e)
theorem i_vc_unraw {k : Nat} {u : SX} {v : SY} (I : i_Rel k u v) (hk : k + 4 ≤ 2048) : wpX_unraw (fun r u' => wpY_unraw (fun r' v' => r' = r ∧ i_Rel (k + 4) u' v') v) u := by
  obtain ⟨dn, rn, ln, D, C, Z, K, R, hX, hY⟩ := I
  obtain ⟨x_draftSize, x_recordCount, x_rawCount, x_writingCount, x_scanState, x_scanSound, x_scanRecords, x_scanFields, x_scanSize, x_scanMostFields, x_scanLongest, x_scanUneven, x_draftCharacters, x_fieldCounts, x_fieldSizes, x_characters, x_rawCharacters, x_writing⟩ := u
  obtain ⟨y_records, y_drafted, y_length, y_readRecords, y_readFields, y_readSize, y_readFirst, y_readOver, y_readEven, y_pos, y_end, y_dialect, y_out, y_chars, y_sizes, y_counts, y_draft, y_raw, y_readChars, y_readSizes, y_readCounts⟩ := v
  have hX' := hX
  have hY' := hY
  obtain ⟨a4, a5, a6, ⟨a1, rfl, a3⟩⟩ := hX
  obtain ⟨b4, b5, b6, ⟨b1, rfl, b3⟩⟩ := hY
  unfold wpX_unraw wpY_unraw
  dsimp only
  refine pk_eq ln 0 (fun e => pk_eq ln 0 (fun _ => ⟨rfl, dn, rn, ln, D, C, Z, K, R, hX', hY'⟩) (fun z => absurd e z)) (fun e => ?_)
  obtain ⟨m, rfl⟩ : ∃ m, ln = m + 1 := ⟨ln - 1, by omega⟩
  refine nm_r (nI_pred m) ⟨pk_in m 96 (by omega), ?_⟩
  refine pk_eq (m + 1) 0 (fun z => absurd z e) (fun _ => nm_r (nI_pred m) ⟨pk_in m 98 (by omega), ?_⟩)
  rw [nI_clamp (by omega), (a3 m (by omega)).2, (b3 m (by omega)).2]
  exact ⟨rfl, dn, rn, m, D, C, Z, K, R, ⟨a4, a5, a6, cd_txD ⟨a1, rfl, a3⟩⟩, ⟨b4, b5, b6, cd_txD ⟨b1, rfl, b3⟩⟩⟩
theorem i_vc_rawLength {k : Nat} {u : SX} {v : SY} (I : i_Rel k u v) (hk : k + 4 ≤ 2048) : wpX_rawLength (fun r => wpY_rawLength (fun r' => r' = r ∧ i_Rel (k + 4) u v) v) u := by
  have I' := I
  obtain ⟨dn, rn, ln, D, C, Z, K, R, hX, hY⟩ := I
  obtain ⟨x_draftSize, x_recordCount, x_rawCount, x_writingCount, x_scanState, x_scanSound, x_scanRecords, x_scanFields, x_scanSize, x_scanMostFields, x_scanLongest, x_scanUneven, x_draftCharacters, x_fieldCounts, x_fieldSizes, x_characters, x_rawCharacters, x_writing⟩ := u
  obtain ⟨y_records, y_drafted, y_length, y_readRecords, y_readFields, y_readSize, y_readFirst, y_readOver, y_readEven, y_pos, y_end, y_dialect, y_out, y_chars, y_sizes, y_counts, y_draft, y_raw, y_readChars, y_readSizes, y_readCounts⟩ := v
  exact ⟨hY.2.2.2.2.1.trans hX.2.2.2.2.1.symm, I'⟩
theorem i_vc_records {k : Nat} {u : SX} {v : SY} (I : i_Rel k u v) (hk : k + 4 ≤ 2048) : wpX_records (fun r => wpY_records (fun r' => r' = r ∧ i_Rel (k + 4) u v) v) u := by
  have I' := I
  obtain ⟨dn, rn, ln, D, C, Z, K, R, hX, hY⟩ := I
  obtain ⟨x_draftSize, x_recordCount, x_rawCount, x_writingCount, x_scanState, x_scanSound, x_scanRecords, x_scanFields, x_scanSize, x_scanMostFields, x_scanLongest, x_scanUneven, x_draftCharacters, x_fieldCounts, x_fieldSizes, x_characters, x_rawCharacters, x_writing⟩ := u
  obtain ⟨y_records, y_drafted, y_length, y_readRecords, y_readFields, y_readSize, y_readFirst, y_readOver, y_readEven, y_pos, y_end, y_dialect, y_out, y_chars, y_sizes, y_counts, y_draft, y_raw, y_readChars, y_readSizes, y_readCounts⟩ := v
  exact ⟨hY.2.1.1.trans hX.2.1.1.symm, I'⟩
theorem i_vc_scrap {k : Nat} {u : SX} {v : SY} (I : i_Rel k u v) (hk : k + 4 ≤ 2048) : wpX_scrap (fun u' => wpY_scrap (fun v' => i_Rel (k + 4) u' v') v) u := by
  obtain ⟨dn, rn, ln, D, C, Z, K, R, hX, hY⟩ := I
  obtain ⟨x_draftSize, x_recordCount, x_rawCount, x_writingCount, x_scanState, x_scanSound, x_scanRecords, x_scanFields, x_scanSize, x_scanMostFields, x_scanLongest, x_scanUneven, x_draftCharacters, x_fieldCounts, x_fieldSizes, x_characters, x_rawCharacters, x_writing⟩ := u
  obtain ⟨y_records, y_drafted, y_length, y_readRecords, y_readFields, y_readSize, y_readFirst, y_readOver, y_readEven, y_pos, y_end, y_dialect, y_out, y_chars, y_sizes, y_counts, y_draft, y_raw, y_readChars, y_readSizes, y_readCounts⟩ := v
  exact ⟨0, rn, ln, D, C, Z, K, R, ⟨cd_tx0, hX.2⟩, ⟨cd_tx0, hY.2⟩⟩
theorem i_vc_clear {k : Nat} {u : SX} {v : SY} (I : i_Rel k u v) (hk : k + 4 ≤ 2048) : wpX_clear (fun u' => wpY_clear (fun v' => i_Rel (k + 4) u' v') v) u := by
  obtain ⟨dn, rn, ln, D, C, Z, K, R, hX, hY⟩ := I
  obtain ⟨x_draftSize, x_recordCount, x_rawCount, x_writingCount, x_scanState, x_scanSound, x_scanRecords, x_scanFields, x_scanSize, x_scanMostFields, x_scanLongest, x_scanUneven, x_draftCharacters, x_fieldCounts, x_fieldSizes, x_characters, x_rawCharacters, x_writing⟩ := u
  obtain ⟨y_records, y_drafted, y_length, y_readRecords, y_readFields, y_readSize, y_readFirst, y_readOver, y_readEven, y_pos, y_end, y_dialect, y_out, y_chars, y_sizes, y_counts, y_draft, y_raw, y_readChars, y_readSizes, y_readCounts⟩ := v
  exact ⟨dn, 0, ln, D, C, Z, K, R, ⟨hX.1, ⟨rfl, Nat.zero_le 6⟩, cd_tb0, hX.2.2.2⟩, ⟨hY.1, ⟨rfl, Nat.zero_le 6⟩, cd_tb0, hY.2.2.2⟩⟩
theorem i_vc_rawClear {k : Nat} {u : SX} {v : SY} (I : i_Rel k u v) (hk : k + 4 ≤ 2048) : wpX_rawClear (fun u' => wpY_rawClear (fun v' => i_Rel (k + 4) u' v') v) u := by
  obtain ⟨dn, rn, ln, D, C, Z, K, R, hX, hY⟩ := I
  obtain ⟨x_draftSize, x_recordCount, x_rawCount, x_writingCount, x_scanState, x_scanSound, x_scanRecords, x_scanFields, x_scanSize, x_scanMostFields, x_scanLongest, x_scanUneven, x_draftCharacters, x_fieldCounts, x_fieldSizes, x_characters, x_rawCharacters, x_writing⟩ := u
  obtain ⟨y_records, y_drafted, y_length, y_readRecords, y_readFields, y_readSize, y_readFirst, y_readOver, y_readEven, y_pos, y_end, y_dialect, y_out, y_chars, y_sizes, y_counts, y_draft, y_raw, y_readChars, y_readSizes, y_readCounts⟩ := v
  exact ⟨dn, rn, 0, D, C, Z, K, R, ⟨hX.1, hX.2.1, hX.2.2.1, cd_tx0⟩, ⟨hY.1, hY.2.1, hY.2.2.1, cd_tx0⟩⟩
theorem i_vc_rawAt {k : Nat} {u : SX} {v : SY} (I : i_Rel k u v) (hk : k + 4 ≤ 2048) (v1 : Int32) : wpX_rawAt (fun r => wpY_rawAt (fun r' => r' = r ∧ i_Rel (k + 4) u v) v v1) u v1 := by
  have I' := I
  obtain ⟨dn, rn, ln, D, C, Z, K, R, hX, hY⟩ := I
  obtain ⟨x_draftSize, x_recordCount, x_rawCount, x_writingCount, x_scanState, x_scanSound, x_scanRecords, x_scanFields, x_scanSize, x_scanMostFields, x_scanLongest, x_scanUneven, x_draftCharacters, x_fieldCounts, x_fieldSizes, x_characters, x_rawCharacters, x_writing⟩ := u
  obtain ⟨y_records, y_drafted, y_length, y_readRecords, y_readFields, y_readSize, y_readFirst, y_readOver, y_readEven, y_pos, y_end, y_dialect, y_out, y_chars, y_sizes, y_counts, y_draft, y_raw, y_readChars, y_readSizes, y_readCounts⟩ := v
  obtain ⟨a4, a5, a6, ⟨a1, rfl, a3⟩⟩ := hX
  obtain ⟨b4, b5, b6, ⟨b1, rfl, b3⟩⟩ := hY
  unfold wpX_rawAt wpY_rawAt
  dsimp only
  rcases pk_ix v1 (n := ln) (by omega) with h | h | ⟨c, hc, rfl⟩
  · exact br_t h (br_t h ⟨rfl, I'⟩)
  · have g := ar_ge (by omega) h
    exact br_f g.1 (br_t h (br_f g.1 (br_t h ⟨rfl, I'⟩)))
  · have hp : ¬ nI c < 0 := nI_pos (by omega)
    have hn : ¬ nI ln ≤ nI c := nI_ge hc (by omega)
    refine br_f hp (br_f hn ⟨pk_in c 96 (by omega), br_f hp (br_f hn ⟨pk_in c 98 (by omega), ?_⟩)⟩)
    rw [nI_clamp (by omega), (a3 c hc).2, (b3 c hc).2]
    exact ⟨rfl, I'⟩
end
end
section
/-! fields, size, at, and the methods that put the draft -/
section
variable {x_draftSize x_recordCount x_rawCount x_writingCount x_scanState x_scanSound x_scanRecords x_scanFields x_scanSize x_scanMostFields x_scanLongest x_scanUneven : Int32} {x_draftCharacters x_fieldCounts x_fieldSizes x_characters x_rawCharacters x_writing : Nat → Int32}
variable {y_records y_drafted y_length y_readRecords y_readFields y_readSize y_readFirst y_readOver y_readEven y_pos y_end y_dialect y_out : Int32} {y_chars y_sizes y_counts y_draft y_raw y_readChars y_readSizes y_readCounts : Nat → Int32}
variable {dn rn ln : Nat} {D C Z K R : Nat → Nat}
/-- there is a field f of record r -/
def ar_F (rn : Nat) (C : Nat → Nat) (r f : Int32) : Prop := ∃ i j, i < rn ∧ j < C i ∧ r = nI i ∧ f = nI j
theorem xr_t {post : Int32 → Prop} {i : Nat} (hi : i < rn) (hr : rn ≤ 6) (h : post 1) : wpX_hasRecord post (x_draftSize, nI rn, x_rawCount, x_writingCount, x_scanState, x_scanSound, x_scanRecords, x_scanFields, x_scanSize, x_scanMostFields, x_scanLongest, x_scanUneven, x_draftCharacters, x_fieldCounts, x_fieldSizes, x_characters, x_rawCharacters, x_writing) (nI i) :=
  br_f (nI_pos (by omega)) (br_f (nI_ge hi (by omega)) h)
theorem xr_f {post : Int32 → Prop} {r : Int32} (hr : rn ≤ 6) (hn : ¬ ∃ i, i < rn ∧ r = nI i) (h : post 0) : wpX_hasRecord post (x_draftSize, nI rn, x_rawCount, x_writingCount, x_scanState, x_scanSound, x_scanRecords, x_scanFields, x_scanSize, x_scanMostFields, x_scanLongest, x_scanUneven, x_draftCharacters, x_fieldCounts, x_fieldSizes, x_characters, x_rawCharacters, x_writing) r := by
  unfold wpX_hasRecord
  dsimp only
  rcases pk_ix r (n := rn) (by omega) with z | z | ⟨j, hj, rfl⟩
  · exact br_t z h
  · exact br_f (ar_ge (by omega) z).1 (br_t z h)
  · exact absurd ⟨j, hj, rfl⟩ hn
theorem xf_t {post : Int32 → Prop} {i j : Nat} (hi : i < rn) (hr : rn ≤ 6) (ht : cd_tb rn C Z K x_fieldCounts x_fieldSizes x_characters) (hj : j < C i) (h : post 1) : wpX_hasField post (x_draftSize, nI rn, x_rawCount, x_writingCount, x_scanState, x_scanSound, x_scanRecords, x_scanFields, x_scanSize, x_scanMostFields, x_scanLongest, x_scanUneven, x_draftCharacters, x_fieldCounts, x_fieldSizes, x_characters, x_rawCharacters, x_writing) (nI i) (nI j) := by
  obtain ⟨t1, t2, t3, t4⟩ := ht i hi
  unfold wpX_hasField
  dsimp only
  refine xr_t hi hr (br_f (by decide) (br_f (nI_pos (by omega)) ⟨pk_in i 6 (by omega), ?_⟩))
  rw [nI_clamp (by omega), t3]
  exact br_f (nI_ge hj (by omega)) h
theorem xf_f {post : Int32 → Prop} {r f : Int32} (hr : rn ≤ 6) (ht : cd_tb rn C Z K x_fieldCounts x_fieldSizes x_characters) (hn : ¬ ar_F rn C r f) (h : post 0) : wpX_hasField post (x_draftSize, nI rn, x_rawCount, x_writingCount, x_scanState, x_scanSound, x_scanRecords, x_scanFields, x_scanSize, x_scanMostFields, x_scanLongest, x_scanUneven, x_draftCharacters, x_fieldCounts, x_fieldSizes, x_characters, x_rawCharacters, x_writing) r f := by
  unfold wpX_hasField
  dsimp only
  by_cases e : ∃ i, i < rn ∧ r = nI i
  · obtain ⟨i, hi, rfl⟩ := e
    obtain ⟨t1, t2, t3, t4⟩ := ht i hi
    refine xr_t hi hr (br_f (by decide) ?_)
    rw [nI_clamp (by omega), t3]
    rcases pk_ix f (n := C i) (by omega) with z | z | ⟨j, hj, rfl⟩
    · exact br_t z h
    · exact br_f (ar_ge (by omega) z).1 ⟨pk_in i 6 (by omega), br_t z h⟩
    · exact absurd ⟨i, j, hi, hj, rfl, rfl⟩ hn
  · exact xr_f hr e (br_t rfl h)
theorem yf_t {post : Int32 → Prop} {i j : Nat} (hi : i < rn) (hr : rn ≤ 6) (ht : cd_tb rn C Z K y_counts y_sizes y_chars) (hj : j < C i) (h : post 1) : wpY_isField post (nI rn, y_drafted, y_length, y_readRecords, y_readFields, y_readSize, y_readFirst, y_readOver, y_readEven, y_pos, y_end, y_dialect, y_out, y_chars, y_sizes, y_counts, y_draft, y_raw, y_readChars, y_readSizes, y_readCounts) (nI i) (nI j) := by
  obtain ⟨t1, t2, t3, t4⟩ := ht i hi
  unfold wpY_isField
  dsimp only
  refine br_f (nI_pos (by omega)) (br_f (nI_ge hi (by omega)) (br_f (nI_pos (by omega)) ⟨pk_in i 6 (by omega), ?_⟩))
  rw [nI_clamp (by omega), t3]
  exact br_f (nI_ge hj (by omega)) h
theorem yf_f {post : Int32 → Prop} {r f : Int32} (hr : rn ≤ 6) (ht : cd_tb rn C Z K y_counts y_sizes y_chars) (hn : ¬ ar_F rn C r f) (h : post 0) : wpY_isField post (nI rn, y_drafted, y_length, y_readRecords, y_readFields, y_readSize, y_readFirst, y_readOver, y_readEven, y_pos, y_end, y_dialect, y_out, y_chars, y_sizes, y_counts, y_draft, y_raw, y_readChars, y_readSizes, y_readCounts) r f := by
  unfold wpY_isField
  dsimp only
  rcases pk_ix r (n := rn) (by omega) with z | z | ⟨i, hi, rfl⟩
  · exact br_t z h
  · exact br_f (ar_ge (by omega) z).1 (br_t z h)
  · obtain ⟨t1, t2, t3, t4⟩ := ht i hi
    refine br_f (nI_pos (by omega)) (br_f (nI_ge hi (by omega)) ?_)
    rw [nI_clamp (by omega), t3]
    rcases pk_ix f (n := C i) (by omega) with z | z | ⟨j, hj, rfl⟩
    · exact br_t z h
    · exact br_f (ar_ge (by omega) z).1 ⟨pk_in i 6 (by omega), br_t z h⟩
    · exact absurd ⟨i, j, hi, hj, rfl, rfl⟩ hn
theorem i_vc_fields {k : Nat} {u : SX} {v : SY} (I : i_Rel k u v) (hk : k + 4 ≤ 2048) (v1 : Int32) : wpX_fields (fun r => wpY_fields (fun r' => r' = r ∧ i_Rel (k + 4) u v) v v1) u v1 := by
  have I' := I
  obtain ⟨dn, rn, ln, D, C, Z, K, R, hX, hY⟩ := I
  obtain ⟨x_draftSize, x_recordCount, x_rawCount, x_writingCount, x_scanState, x_scanSound, x_scanRecords, x_scanFields, x_scanSize, x_scanMostFields, x_scanLongest, x_scanUneven, x_draftCharacters, x_fieldCounts, x_fieldSizes, x_characters, x_rawCharacters, x_writing⟩ := u
  obtain ⟨y_records, y_drafted, y_length, y_readRecords, y_readFields, y_readSize, y_readFirst, y_readOver, y_readEven, y_pos, y_end, y_dialect, y_out, y_chars, y_sizes, y_counts, y_draft, y_raw, y_readChars, y_readSizes, y_readCounts⟩ := v
  obtain ⟨a1, ⟨rfl, a2⟩, a3, a4⟩ := hX
  obtain ⟨b1, ⟨rfl, b2⟩, b3, b4⟩ := hY
  unfold wpX_fields wpY_fields
  dsimp only
  rcases pk_ix v1 (n := rn) (by omega) with z | z | ⟨i, hi, rfl⟩
  · exact xr_f a2 (fun ⟨j, hj, e⟩ => nI_pos (n := j) (by omega) (e ▸ z)) (br_t rfl (br_t z ⟨rfl, I'⟩))
  · have g := ar_ge (by omega) z
    exact xr_f a2 (fun ⟨j, hj, e⟩ => g.2 (e ▸ nI_lt hj (by omega))) (br_t rfl (br_f g.1 (br_t z ⟨rfl, I'⟩)))
  · refine xr_t hi a2 (br_f (by decide) ⟨pk_in i 6 (by omega), br_f (nI_pos (by omega)) (br_f (nI_ge hi (by omega)) ⟨pk_in i 6 (by omega), ?_⟩)⟩)
    rw [nI_clamp (by omega), (a3 i hi).2.2.1, (b3 i hi).2.2.1]
    exact ⟨rfl, I'⟩
theorem ar_5 (i j : Nat) : nI i * 5 + nI j = nI (5 * i + j) := by rw [cl_m5, nI_add, Nat.mul_comm]
theorem ar_5' (i j : Nat) : 5 * nI i + nI j = nI (5 * i + j) := by rw [cl_x5, nI_add]
theorem ar_6 (i j : Nat) : nI i * 6 + nI j = nI (6 * i + j) := by rw [cl_m6, nI_add, Nat.mul_comm]
theorem ar_6' (i j : Nat) : 6 * nI i + nI j = nI (6 * i + j) := by rw [cl_x6, nI_add]
theorem i_vc_size {k : Nat} {u : SX} {v : SY} (I : i_Rel k u v) (hk : k + 4 ≤ 2048) (v1 : Int32) (v2 : Int32) : wpX_size (fun r => wpY_size (fun r' => r' = r ∧ i_Rel (k + 4) u v) v v1 v2) u v1 v2 := by
  have I' := I
  obtain ⟨dn, rn, ln, D, C, Z, K, R, hX, hY⟩ := I
  obtain ⟨x_draftSize, x_recordCount, x_rawCount, x_writingCount, x_scanState, x_scanSound, x_scanRecords, x_scanFields, x_scanSize, x_scanMostFields, x_scanLongest, x_scanUneven, x_draftCharacters, x_fieldCounts, x_fieldSizes, x_characters, x_rawCharacters, x_writing⟩ := u
  obtain ⟨y_records, y_drafted, y_length, y_readRecords, y_readFields, y_readSize, y_readFirst, y_readOver, y_readEven, y_pos, y_end, y_dialect, y_out, y_chars, y_sizes, y_counts, y_draft, y_raw, y_readChars, y_readSizes, y_readCounts⟩ := v
  obtain ⟨a1, ⟨rfl, a2⟩, a3, a4⟩ := hX
  obtain ⟨b1, ⟨rfl, b2⟩, b3, b4⟩ := hY
  unfold wpX_size wpY_size
  dsimp only
  by_cases e : ar_F rn C v1 v2
  · obtain ⟨i, j, hi, hj, rfl, rfl⟩ := e
    have c5 := (a3 i hi).2.1
    rw [ar_5, ar_5', nI_clamp (by omega)]
    refine xf_t hi a2 a3 hj (br_f (by decide) ⟨pk_in (5 * i + j) 30 (by omega), yf_t hi b2 b3 hj (br_f (by decide) ⟨pk_in (5 * i + j) 30 (by omega), ?_⟩)⟩)
    rw [((a3 i hi).2.2.2 j hj).2.1, ((b3 i hi).2.2.2 j hj).2.1]
    exact ⟨rfl, I'⟩
  · exact xf_f a2 a3 e (br_t rfl (yf_f b2 b3 e (br_t rfl ⟨rfl, I'⟩)))
theorem i_vc_at {k : Nat} {u : SX} {v : SY} (I : i_Rel k u v) (hk : k + 4 ≤ 2048) (v1 : Int32) (v2 : Int32) (v3 : Int32) : wpX_at (fun r => wpY_at (fun r' => r' = r ∧ i_Rel (k + 4) u v) v v1 v2 v3) u v1 v2 v3 := by
  have I' := I
  obtain ⟨dn, rn, ln, D, C, Z, K, R, hX, hY⟩ := I
  obtain ⟨x_draftSize, x_recordCount, x_rawCount, x_writingCount, x_scanState, x_scanSound, x_scanRecords, x_scanFields, x_scanSize, x_scanMostFields, x_scanLongest, x_scanUneven, x_draftCharacters, x_fieldCounts, x_fieldSizes, x_characters, x_rawCharacters, x_writing⟩ := u
  obtain ⟨y_records, y_drafted, y_length, y_readRecords, y_readFields, y_readSize, y_readFirst, y_readOver, y_readEven, y_pos, y_end, y_dialect, y_out, y_chars, y_sizes, y_counts, y_draft, y_raw, y_readChars, y_readSizes, y_readCounts⟩ := v
  obtain ⟨a1, ⟨rfl, a2⟩, a3, a4⟩ := hX
  obtain ⟨b1, ⟨rfl, b2⟩, b3, b4⟩ := hY
  unfold wpX_at wpY_at
  dsimp only
  by_cases e : ar_F rn C v1 v2
  · obtain ⟨i, j, hi, hj, rfl, rfl⟩ := e
    have c5 := (a3 i hi).2.1
    obtain ⟨z1, z2, z3⟩ := (a3 i hi).2.2.2 j hj
    obtain ⟨w1, w2, w3⟩ := (b3 i hi).2.2.2 j hj
    refine xf_t hi a2 a3 hj (br_f (by decide) (nm_r (ar_5 i j) ?_))
    rw [ar_5', nI_clamp (by omega), z2]
    rcases pk_ix v3 (n := Z (5 * i + j)) (by omega) with z | z | ⟨l, hl, rfl⟩
    · exact br_t z (yf_t hi b2 b3 hj (br_f (by decide) (br_t z ⟨rfl, I'⟩)))
    · have g := ar_ge (by omega) z
      refine br_f g.1 ⟨pk_in (5 * i + j) 30 (by omega), br_f g.2 (yf_t hi b2 b3 hj (br_f (by decide) (br_f g.1 ⟨pk_in (5 * i + j) 30 (by omega), ?_⟩)))⟩
      rw [w2]
      exact br_t z ⟨rfl, I'⟩
    · have hp : ¬ nI l < 0 := nI_pos (by omega)
      rw [ar_6, ar_6', nI_clamp (by omega)]
      refine br_f hp ⟨pk_in (5 * i + j) 30 (by omega), br_t (nI_lt hl (by omega)) ⟨pk_in (6 * (5 * i + j) + l) 180 (by omega), yf_t hi b2 b3 hj (br_f (by decide) (br_f hp ⟨pk_in (5 * i + j) 30 (by omega), ?_⟩))⟩⟩
      rw [w2, (z3 l hl).2, (w3 l hl).2]
      exact br_f (nI_ge hl (by omega)) ⟨pk_in (6 * (5 * i + j) + l) 180 (by omega), rfl, I'⟩
  · exact xf_f a2 a3 e (br_t rfl (yf_f b2 b3 e (br_t rfl ⟨rfl, I'⟩)))
theorem xp_loop {post : SX → Prop} {k : Nat} (hk : k < 30) (hd : dn ≤ 6) (hD : ∀ i, i < dn → D i ≤ 9 ∧ x_draftCharacters i = nI (D i))
    (H : ∀ ch : Nat → Int32, cd_pa x_characters ch k dn D → post (0, x_recordCount, x_rawCount, x_writingCount, x_scanState, x_scanSound, x_scanRecords, x_scanFields, x_scanSize, x_scanMostFields, x_scanLongest, x_scanUneven, x_draftCharacters, x_fieldCounts, upd x_fieldSizes k (nI dn), ch, x_rawCharacters, x_writing)) :
    ∀ (e i n : Nat) (ch : Nat → Int32), i + e = dn → e < n → cd_pa x_characters ch k i D →
      wX_placeDraft_9 post (nI k) (nI dn) x_recordCount x_rawCount x_writingCount x_scanState x_scanSound x_scanRecords x_scanFields x_scanSize x_scanMostFields x_scanLongest x_scanUneven n (nI i) x_draftCharacters x_fieldCounts x_fieldSizes ch x_rawCharacters x_writing := by
  intro e
  induction e with
  | zero =>
    intro i n ch hi hn hc
    obtain ⟨n, rfl⟩ : ∃ m, n = m + 1 := ⟨n - 1, by omega⟩
    have ei : i = dn := by omega
    subst ei
    rw [wX_placeDraft_9]
    exact pk_le i i (fun _ => ⟨pk_in k 30 hk, nm_r (e' := upd x_fieldSizes k (nI i)) (by rw [nI_clamp (by omega)]) (H ch hc)⟩) (fun z => absurd z (by omega))
  | succ e ih =>
    intro i n ch hi hn hc
    obtain ⟨n, rfl⟩ : ∃ m, n = m + 1 := ⟨n - 1, by omega⟩
    rw [wX_placeDraft_9]
    refine pk_le dn i (fun z => absurd z (by omega)) (fun _ => ⟨pk_in i 6 (by omega), pk_in (6 * k + i) 180 (by omega) (ar_6 k i), nm_r (e' := upd ch (6 * k + i) (nI (D i))) (by rw [ar_6, nI_clamp (by omega), nI_clamp (by omega), (hD i (by omega)).2]) (nm_r (nI_1 i) ?_)⟩)
    refine ih (i + 1) n _ (by omega) (by omega) ⟨fun l hl => ?_, fun l hl => ?_⟩
    · by_cases el : l = i
      · subst el
        exact pk_us
      · rw [pk_un (by omega)]
        exact hc.1 l (by omega)
    · rw [pk_un (by omega)]
      exact hc.2 l (by omega)
theorem xp_place {post : SX → Prop} {r f : Nat} (hk : 5 * r + f < 30) (hd : cd_tx 6 9 dn D x_draftSize x_draftCharacters)
    (H : ∀ ch : Nat → Int32, cd_pa x_characters ch (5 * r + f) dn D → post (0, x_recordCount, x_rawCount, x_writingCount, x_scanState, x_scanSound, x_scanRecords, x_scanFields, x_scanSize, x_scanMostFields, x_scanLongest, x_scanUneven, x_draftCharacters, x_fieldCounts, upd x_fieldSizes (5 * r + f) (nI dn), ch, x_rawCharacters, x_writing)) :
    wpX_placeDraft post (x_draftSize, x_recordCount, x_rawCount, x_writingCount, x_scanState, x_scanSound, x_scanRecords, x_scanFields, x_scanSize, x_scanMostFields, x_scanLongest, x_scanUneven, x_draftCharacters, x_fieldCounts, x_fieldSizes, x_characters, x_rawCharacters, x_writing) (nI r) (nI f) := by
  obtain ⟨d1, rfl, d3⟩ := hd
  exact nm_r (ar_5 r f) ⟨dn + 1, xp_loop hk d1 d3 H dn 0 (dn + 1) x_characters (by omega) (by omega) ⟨fun i h => absurd h (Nat.not_lt_zero i), fun j _ => rfl⟩⟩
theorem yp_loop {post : SY → Prop} {k : Nat} (hk : k < 30) (hd : dn ≤ 6) (hD : ∀ i, i < dn → D i ≤ 9 ∧ y_draft i = nI (D i))
    (H : ∀ ch : Nat → Int32, cd_pa y_chars ch k dn D → post (y_records, 0, y_length, y_readRecords, y_readFields, y_readSize, y_readFirst, y_readOver, y_readEven, y_pos, y_end, y_dialect, y_out, ch, upd y_sizes k (nI dn), y_counts, y_draft, y_raw, y_readChars, y_readSizes, y_readCounts)) :
    ∀ (e i n : Nat) (ch : Nat → Int32), i + e = dn → e < n → cd_pa y_chars ch k i D →
      wY_putDraft_2 post (nI k) y_records (nI dn) y_length y_readRecords y_readFields y_readSize y_readFirst y_readOver y_readEven y_pos y_end y_dialect y_out n (nI i) ch y_sizes y_counts y_draft y_raw y_readChars y_readSizes y_readCounts := by
  intro e
  induction e with
  | zero =>
    intro i n ch hi hn hc
    obtain ⟨n, rfl⟩ : ∃ m, n = m + 1 := ⟨n - 1, by omega⟩
    have ei : i = dn := by omega
    subst ei
    rw [wY_putDraft_2]
    exact pk_le i i (fun _ => ⟨pk_in k 30 hk, nm_r (e' := upd y_sizes k (nI i)) (by rw [nI_clamp (by omega)]) (H ch hc)⟩) (fun z => absurd z (by omega))
  | succ e ih =>
    intro i n ch hi hn hc
    obtain ⟨n, rfl⟩ : ∃ m, n = m + 1 := ⟨n - 1, by omega⟩
    rw [wY_putDraft_2]
    refine pk_le dn i (fun z => absurd z (by omega)) (fun _ => ⟨pk_in i 6 (by omega), pk_in (6 * k + i) 180 (by omega) (ar_6' k i), nm_r (e' := upd ch (6 * k + i) (nI (D i))) (by rw [ar_6', nI_clamp (by omega), nI_clamp (by omega), (hD i (by omega)).2]) (nm_r (nI_1 i) ?_)⟩)
    refine ih (i + 1) n _ (by omega) (by omega) ⟨fun l hl => ?_, fun l hl => ?_⟩
    · by_cases el : l = i
      · subst el
        exact pk_us
      · rw [pk_un (by omega)]
        exact hc.1 l (by omega)
    · rw [pk_un (by omega)]
      exact hc.2 l (by omega)
theorem yp_place {post : SY → Prop} {k : Nat} (hk : k < 30) (hd : cd_tx 6 9 dn D y_drafted y_draft)
    (H : ∀ ch : Nat → Int32, cd_pa y_chars ch k dn D → post (y_records, 0, y_length, y_readRecords, y_readFields, y_readSize, y_readFirst, y_readOver, y_readEven, y_pos, y_end, y_dialect, y_out, ch, upd y_sizes k (nI dn), y_counts, y_draft, y_raw, y_readChars, y_readSizes, y_readCounts)) :
    wpY_putDraft post (y_records, y_drafted, y_length, y_readRecords, y_readFields, y_readSize, y_readFirst, y_readOver, y_readEven, y_pos, y_end, y_dialect, y_out, y_chars, y_sizes, y_counts, y_draft, y_raw, y_readChars, y_readSizes, y_readCounts) (nI k) := by
  obtain ⟨d1, rfl, d3⟩ := hd
  exact ⟨dn + 1, yp_loop hk d1 d3 H dn 0 (dn + 1) y_chars (by omega) (by omega) ⟨fun i h => absurd h (Nat.not_lt_zero i), fun j _ => rfl⟩⟩
theorem xo_R {post : SX → Prop} (hr : rn < 6) (H : post (x_draftSize, nI (rn + 1), x_rawCount, x_writingCount, x_scanState, x_scanSound, x_scanRecords, x_scanFields, x_scanSize, x_scanMostFields, x_scanLongest, x_scanUneven, x_draftCharacters, upd x_fieldCounts rn (nI 1), upd x_fieldSizes (5 * rn) (nI 0), x_characters, x_rawCharacters, x_writing)) :
    wpX_openRecord post (x_draftSize, nI rn, x_rawCount, x_writingCount, x_scanState, x_scanSound, x_scanRecords, x_scanFields, x_scanSize, x_scanMostFields, x_scanLongest, x_scanUneven, x_draftCharacters, x_fieldCounts, x_fieldSizes, x_characters, x_rawCharacters, x_writing) := by
  unfold wpX_openRecord
  dsimp only
  refine pk_le 6 rn (fun z => absurd z (by omega)) (fun _ => ⟨pk_in rn 6 hr, nm_r (e' := upd x_fieldCounts rn (nI 1)) (by rw [nI_clamp (by omega)]; rfl) ⟨pk_in (rn * 5) 30 (by omega) (cl_m5 rn), nm_r (e' := upd x_fieldSizes (5 * rn) (nI 0)) ?_ (nm_r (nI_1 rn) H)⟩⟩)
  rw [cl_m5, nI_clamp (by omega), Nat.mul_comm]
  rfl
theorem xo_F {post : SX → Prop} {m : Nat} (hm : m < 6) (hc : x_fieldCounts m = nI (C m)) (h5 : C m < 5) (H : post (x_draftSize, nI (m + 1), x_rawCount, x_writingCount, x_scanState, x_scanSound, x_scanRecords, x_scanFields, x_scanSize, x_scanMostFields, x_scanLongest, x_scanUneven, x_draftCharacters, upd x_fieldCounts m (nI (C m + 1)), upd x_fieldSizes (5 * m + C m) (nI 0), x_characters, x_rawCharacters, x_writing)) :
    wpX_openField post (x_draftSize, nI (m + 1), x_rawCount, x_writingCount, x_scanState, x_scanSound, x_scanRecords, x_scanFields, x_scanSize, x_scanMostFields, x_scanLongest, x_scanUneven, x_draftCharacters, x_fieldCounts, x_fieldSizes, x_characters, x_rawCharacters, x_writing) := by
  unfold wpX_openField
  dsimp only
  have em : (nI m).toNatClampNeg = m := nI_clamp (by omega)
  refine nm_r (nI_pred m) (br_f (nI_pos (by omega)) ⟨pk_in m 6 hm, ?_⟩)
  rw [em, hc]
  refine pk_le 5 (C m) (fun z => absurd z (by omega)) (fun _ => ⟨pk_in m 6 hm, pk_in (5 * m + C m) 30 (by omega) (ar_5 m (C m)), nm_r (e' := upd x_fieldSizes (5 * m + C m) (nI 0)) ?_ ⟨pk_in m 6 hm, pk_in m 6 hm, nm_r (e' := upd x_fieldCounts m (nI (C m + 1))) (by rw [nI_1]) H⟩⟩)
  rw [ar_5, nI_clamp (by omega)]
  rfl
theorem i_vc_addRow {k : Nat} {u : SX} {v : SY} (I : i_Rel k u v) (hk : k + 4 ≤ 2048) : wpX_addRow (fun r u' => wpY_addRow (fun r' v' => r' = r ∧ i_Rel (k + 4) u' v') v) u := by
  have I' := I
  obtain ⟨dn, rn, ln, D, C, Z, K, R, hX, hY⟩ := I
  obtain ⟨x_draftSize, x_recordCount, x_rawCount, x_writingCount, x_scanState, x_scanSound, x_scanRecords, x_scanFields, x_scanSize, x_scanMostFields, x_scanLongest, x_scanUneven, x_draftCharacters, x_fieldCounts, x_fieldSizes, x_characters, x_rawCharacters, x_writing⟩ := u
  obtain ⟨y_records, y_drafted, y_length, y_readRecords, y_readFields, y_readSize, y_readFirst, y_readOver, y_readEven, y_pos, y_end, y_dialect, y_out, y_chars, y_sizes, y_counts, y_draft, y_raw, y_readChars, y_readSizes, y_readCounts⟩ := v
  obtain ⟨a1, ⟨rfl, a2⟩, a3, a4⟩ := hX
  obtain ⟨b1, ⟨rfl, b2⟩, b3, b4⟩ := hY
  unfold wpX_addRow wpY_addRow
  dsimp only
  refine pk_lt rn 6 (fun h6 => ?_) (fun h6 => pk_eq rn 6 (fun _ => ⟨rfl, I'⟩) (fun e => absurd (by omega) e))
  refine xo_R h6 ?_
  dsimp only
  rw [nI_pred rn]
  refine xp_place (r := rn) (f := 0) (by omega) a1 (fun ch hch => ?_)
  dsimp only
  refine pk_eq rn 6 (fun e => absurd e (by omega)) (fun _ => ?_)
  rw [cl_x5]
  refine yp_place (k := 5 * rn) (by omega) b1 (fun ch' hch' => ?_)
  dsimp only
  refine ⟨pk_in rn 6 h6, nm_r (e' := upd y_counts rn (nI 1)) (by rw [nI_clamp (by omega)]; rfl) (nm_r (nI_1 rn) ?_)⟩
  refine ⟨rfl, 0, rn + 1, ln, D, cd_up C rn 1, cd_up Z (5 * rn) dn, cd_pk K (5 * rn) dn D, R, ⟨cd_tx0, ⟨rfl, h6⟩, ?_, a4⟩, ⟨cd_tx0, ⟨rfl, h6⟩, ?_, b4⟩⟩
  · have hch2 : cd_pa x_characters ch (5 * rn) dn D := hch
    have t := cd_tbP (cd_tbR a3) a1.1 (fun i hi => (a1.2.2 i hi).1) hch2
    rw [cd_uu] at t
    exact t
  · exact cd_tbN (cd_tbP b3 b1.1 (fun i hi => (b1.2.2 i hi).1) hch') (cd_fdP0 b1.1 (fun i hi => (b1.2.2 i hi).1) hch')
theorem i_vc_field {k : Nat} {u : SX} {v : SY} (I : i_Rel k u v) (hk : k + 4 ≤ 2048) : wpX_field (fun r u' => wpY_field (fun r' v' => r' = r ∧ i_Rel (k + 4) u' v') v) u := by
  have I' := I
  obtain ⟨dn, rn, ln, D, C, Z, K, R, hX, hY⟩ := I
  obtain ⟨x_draftSize, x_recordCount, x_rawCount, x_writingCount, x_scanState, x_scanSound, x_scanRecords, x_scanFields, x_scanSize, x_scanMostFields, x_scanLongest, x_scanUneven, x_draftCharacters, x_fieldCounts, x_fieldSizes, x_characters, x_rawCharacters, x_writing⟩ := u
  obtain ⟨y_records, y_drafted, y_length, y_readRecords, y_readFields, y_readSize, y_readFirst, y_readOver, y_readEven, y_pos, y_end, y_dialect, y_out, y_chars, y_sizes, y_counts, y_draft, y_raw, y_readChars, y_readSizes, y_readCounts⟩ := v
  obtain ⟨a1, ⟨rfl, a2⟩, a3, a4⟩ := hX
  obtain ⟨b1, ⟨rfl, b2⟩, b3, b4⟩ := hY
  unfold wpX_field wpY_field
  dsimp only
  refine pk_eq rn 0 (fun e => pk_eq rn 0 (fun _ => ⟨rfl, I'⟩) (fun z => absurd e z)) (fun e => ?_)
  obtain ⟨m, rfl⟩ : ∃ m, rn = m + 1 := ⟨rn - 1, by omega⟩
  have em : (nI m).toNatClampNeg = m := nI_clamp (by omega)
  obtain ⟨t1, t2, t3, t4⟩ := a3 m (by omega)
  obtain ⟨s1, s2, s3, s4⟩ := b3 m (by omega)
  refine nm_r (nI_pred m) ⟨pk_in m 6 (by omega), ?_⟩
  rw [em, t3]
  refine pk_lt (C m) 5 (fun h5 => ?_) (fun h5 => ?_)
  · refine xo_F (by omega) t3 h5 ?_
    dsimp only
    refine ⟨pk_in m 6 (by omega), ?_⟩
    rw [pk_us, nI_pred (C m)]
    refine xp_place (r := m) (f := C m) (by omega) a1 (fun ch hch => ?_)
    dsimp only
    refine ⟨pk_in m 6 (by omega), ?_⟩
    rw [pk_us]
    refine pk_eq (m + 1) 0 (fun z => absurd z e) (fun _ => nm_r (nI_pred m) ⟨pk_in m 6 (by omega), ?_⟩)
    rw [em, s3, ar_5']
    refine pk_eq (C m) 5 (fun z => absurd z (by omega)) (fun _ => ⟨pk_in m 6 (by omega), ?_⟩)
    refine yp_place (k := 5 * m + C m) (by omega) b1 (fun ch' hch' => ?_)
    dsimp only
    refine ⟨pk_in m 6 (by omega), pk_in m 6 (by omega), nm_r (e' := upd y_counts m (nI (C m + 1))) (by rw [s3, nI_1]) ⟨pk_in m 6 (by omega), ?_⟩⟩
    rw [pk_us]
    refine ⟨rfl, 0, m + 1, ln, D, cd_up C m (C m + 1), cd_up Z (5 * m + C m) dn, cd_pk K (5 * m + C m) dn D, R, ⟨cd_tx0, ⟨rfl, a2⟩, ?_, a4⟩, ⟨cd_tx0, ⟨rfl, b2⟩, ?_, b4⟩⟩
    · have t := cd_tbP (cd_tbF a3 h5) a1.1 (fun i hi => (a1.2.2 i hi).1) hch
      rw [cd_uu] at t
      exact t
    · exact cd_tbG (cd_tbP b3 b1.1 (fun i hi => (b1.2.2 i hi).1) hch') h5 (cd_fdP0 b1.1 (fun i hi => (b1.2.2 i hi).1) hch')
  · refine pk_eq (m + 1) 0 (fun z => absurd z e) (fun _ => nm_r (nI_pred m) ⟨pk_in m 6 (by omega), ?_⟩)
    rw [em, s3]
    exact pk_eq (C m) 5 (fun _ => ⟨rfl, I'⟩) (fun z => absurd (by omega) z)
theorem i_vc_put {k : Nat} {u : SX} {v : SY} (I : i_Rel k u v) (hk : k + 4 ≤ 2048) (v1 : Int32) (v2 : Int32) : wpX_put (fun r u' => wpY_put (fun r' v' => r' = r ∧ i_Rel (k + 4) u' v') v v1 v2) u v1 v2 := by
  have I' := I
  obtain ⟨dn, rn, ln, D, C, Z, K, R, hX, hY⟩ := I
  obtain ⟨x_draftSize, x_recordCount, x_rawCount, x_writingCount, x_scanState, x_scanSound, x_scanRecords, x_scanFields, x_scanSize, x_scanMostFields, x_scanLongest, x_scanUneven, x_draftCharacters, x_fieldCounts, x_fieldSizes, x_characters, x_rawCharacters, x_writing⟩ := u
  obtain ⟨y_records, y_drafted, y_length, y_readRecords, y_readFields, y_readSize, y_readFirst, y_readOver, y_readEven, y_pos, y_end, y_dialect, y_out, y_chars, y_sizes, y_counts, y_draft, y_raw, y_readChars, y_readSizes, y_readCounts⟩ := v
  obtain ⟨a1, ⟨rfl, a2⟩, a3, a4⟩ := hX
  obtain ⟨b1, ⟨rfl, b2⟩, b3, b4⟩ := hY
  unfold wpX_put wpY_put
  dsimp only
  by_cases e : ar_F rn C v1 v2
  · obtain ⟨i, j, hi, hj, rfl, rfl⟩ := e
    have c5 := (a3 i hi).2.1
    refine xf_t hi a2 a3 hj (br_f (by decide) ?_)
    refine xp_place (r := i) (f := j) (by omega) a1 (fun ch hch => ?_)
    dsimp only
    rw [ar_5, nI_clamp (by omega), pk_us]
    refine ⟨pk_in (5 * i + j) 30 (by omega), yf_t hi b2 b3 hj (br_f (by decide) ?_)⟩
    rw [ar_5']
    refine yp_place (k := 5 * i + j) (by omega) b1 (fun ch' hch' => ?_)
    dsimp only
    rw [nI_clamp (by omega), pk_us]
    refine ⟨pk_in (5 * i + j) 30 (by omega), rfl, 0, rn, ln, D, C, cd_up Z (5 * i + j) dn, cd_pk K (5 * i + j) dn D, R, ⟨cd_tx0, ⟨rfl, a2⟩, ?_, a4⟩, ⟨cd_tx0, ⟨rfl, b2⟩, ?_, b4⟩⟩
    · exact cd_tbP a3 a1.1 (fun i hi => (a1.2.2 i hi).1) hch
    · exact cd_tbP b3 b1.1 (fun i hi => (b1.2.2 i hi).1) hch'
  · exact xf_f a2 a3 e (br_t rfl (yf_f b2 b3 e (br_t rfl ⟨rfl, I'⟩)))
end
end
section
/-! the component's scan against the pure picture -/
theorem xs_p {post : Int32 → Prop} {a b : Nat} (h : post (nI a)) (e : a = b) : post (nI b) := e ▸ h
theorem xs_es {post : Int32 → Prop} {d : Nat} (hd : d < 8) (f : cd_es d = false → post 0) (g : cd_es d = true → post 1) : wpX_hasEscape post (nI d) := by
  rcases cd_a4 d hd with ⟨h, e⟩ | ⟨h, e⟩
  · exact br_t h (f e)
  · exact br_f h (g e)
theorem xs_cr {post : Int32 → Prop} {d : Nat} (hd : d < 8) (f : cd_cr d = true → post 1) (g : cd_cr d = false → post 0) : wpX_endsWithReturn post (nI d) := by
  rcases cd_a2 d hd with ⟨h, e⟩ | ⟨h, e⟩
  · exact br_t h (f e)
  · exact br_f h (g e)
theorem xs_sp {post : Int32 → Prop} {d : Nat} (hd : d < 8) (h : post (nI (cd_sp d))) : wpX_separatorOf post (nI d) := by
  rcases cd_a1 d hd with ⟨a, _, e⟩ | ⟨a, _, e⟩
  · exact br_t a (xs_p (b := 5) h e)
  · exact br_f a (xs_p (b := 6) h e)
theorem cd_so8 {d s : Nat} (h : cd_ok s) : cd_stp d s 8 = (if cd_cr d = true then 6 else 7) := by
  rcases cd_spr d with e | e <;> rcases h with rfl | rfl | rfl | rfl <;> simp [cd_stp, e]
theorem cd_so9 {d s : Nat} (h : cd_ok s) : cd_stp d s 9 = (if cd_cr d = true then 7 else 0) := by
  rcases cd_spr d with e | e <;> rcases h with rfl | rfl | rfl | rfl <;> simp [cd_stp, e]
theorem cd_so10 {d s : Nat} (h : cd_ok s) : cd_stp d s 10 = 7 := by
  rcases cd_spr d with e | e <;> rcases h with rfl | rfl | rfl | rfl <;> simp [cd_stp, e]
theorem cd_so5 {d c : Nat} (h7 : c ≠ 7) (hs : c ≠ cd_sp d) (h8 : c ≠ 8) (h9 : c ≠ 9) : cd_stp d 5 c = 7 := by
  simp [cd_stp, h7, hs, h8, h9]
theorem cd_so2 {d s c : Nat} (h : s = 0 ∨ s = 1 ∨ s = 2) (h7 : c ≠ 7) (hs : c ≠ cd_sp d) (h8 : c ≠ 8) (h9 : c ≠ 9) (h10 : c ≠ 10) : cd_stp d s c = 2 := by
  rcases h with rfl | rfl | rfl <;> simp [cd_stp, h7, hs, h8, h9, h10]
theorem xs_71 {post : Int32 → Prop} {d s c : Nat} (hd : d < 8) (hs : cd_ok s) (hc : c ≤ 10) (h : post (nI (cd_stp d s c))) : wX_step_71 post (nI d) (nI s) (nI c) := by
  have hs8 : s < 8 := by rcases hs with e | e | e | e <;> omega
  refine pk_eq c 7 (fun e7 => ?_) (fun n7 => ?_)
  · subst e7
    refine pk_eq s 2 (fun e2 => ?_) (fun n2 => pk_eq s 5 (fun e5 => ?_) (fun n5 => ?_))
    · subst e2
      exact xs_p (b := 7) h cd_s2q
    · subst e5
      exact xs_es hd (fun e => br_t rfl (xs_p (b := 3) h (cd_s5qf e))) (fun e => br_f (by decide) (xs_p (b := 7) h (cd_s5qt e)))
    · exact xs_p (b := 3) h (cd_s01q (by rcases hs with e | e | e | e <;> omega))
  · refine xs_sp hd ?_
    have hsp := cd_spr d
    refine pk_eq c (cd_sp d) (fun es => ?_) (fun ns => ?_)
    · subst es
      exact xs_p (b := 1) h (cd_sos hs)
    · refine pk_eq c 8 (fun e8 => ?_) (fun n8 => pk_eq c 9 (fun e9 => ?_) (fun n9 => pk_eq c 10 (fun e10 => ?_) (fun n10 => pk_eq s 5 (fun e5 => ?_) (fun n5 => ?_))))
      · subst e8
        rw [cd_so8 hs] at h
        exact xs_cr hd (fun e => br_f (by decide) (xs_p (b := 6) h (if_pos e))) (fun e => br_t rfl (xs_p (b := 7) h (if_neg (by rw [e]; decide))))
      · subst e9
        rw [cd_so9 hs] at h
        exact xs_cr hd (fun e => br_f (by decide) (xs_p (b := 7) h (if_pos e))) (fun e => br_t rfl (xs_p (b := 0) h (if_neg (by rw [e]; decide))))
      · subst e10
        exact xs_p (b := 7) h (cd_so10 hs)
      · subst e5
        exact xs_p (b := 7) h (cd_so5 n7 ns n8 n9)
      · exact xs_p (b := 2) h (cd_so2 (by rcases hs with e | e | e | e <;> omega) n7 ns n8 n9 n10)
theorem xs_step {post : Int32 → Prop} {d s c : Nat} (hd : d < 8) (hs : s < 8) (hc : c ≤ 10) (h : post (nI (cd_stp d s c))) : wpX_step post (nI d) (nI s) (nI c) := by
  refine pk_lt s 3 (fun h3 => xs_71 hd (by unfold cd_ok; omega) hc h) (fun h3 => pk_lt 7 s (fun z => absurd z (by omega)) (fun _ => pk_eq s 3 (fun e => ?_) (fun n3 => pk_eq s 4 (fun e => ?_) (fun n4 => pk_eq s 5 (fun e => xs_71 hd (by unfold cd_ok; omega) hc h) (fun n5 => pk_eq s 6 (fun e => ?_) (fun n6 => pk_eq s 7 (fun e => ?_) (fun n7 => trivial)))))))
  · subst e
    refine pk_eq c 7 (fun e7 => ?_) (fun n7 => pk_eq c 10 (fun e10 => ?_) (fun n10 => ?_))
    · subst e7
      exact xs_p (b := 5) h cd_s3q
    · subst e10
      exact xs_es hd (fun e => br_t rfl (xs_p (b := 7) h (cd_s3ef e))) (fun e => br_f (by decide) (xs_p (b := 4) h (cd_s3et e)))
    · exact xs_p (b := 3) h (cd_s3o n7 n10)
  · subst e
    refine pk_eq c 7 (fun e7 => ?_) (fun n7 => ?_)
    · subst e7
      exact xs_p (b := 3) h cd_s4q
    · exact xs_p (b := 7) h (cd_s4o n7)
  · subst e
    refine pk_eq c 9 (fun e9 => ?_) (fun n9 => ?_)
    · subst e9
      exact xs_p (b := 0) h cd_s6n
    · exact xs_p (b := 7) h (cd_s6o n9)
  · subst e
    exact xs_p (b := 7) h cd_s7
theorem xs_b {post : Int32 → Prop} {a b : Bool} (h : post (cd_b a)) (e : a = b) : post (cd_b b) := e ▸ h
theorem xs_ct {post : Int32 → Prop} {s s' : Nat} (hs : s < 8) (hs' : s' < 8) (h : post (cd_b (cd_ct s s'))) : wpX_isContent post (nI s) (nI s') := by
  have h1 : (s = 0 ∨ s = 1) → wX_isContent_14 post (nI s') 1 := by
    intro z
    refine pk_eq s' 2 (fun e => ?_) (fun n2 => pk_eq s' 3 (fun e => br_f (by decide) ?_) (fun n3 => ?_))
    · subst e
      exact xs_b (b := true) h (cd_ct2 s)
    · subst e
      exact xs_b (b := false) h (cd_ct03 z)
    · exact xs_b (b := false) h (by simp [cd_ct, n2, n3])
  refine pk_eq s 0 (fun e => h1 (Or.inl e)) (fun n0 => pk_eq s 1 (fun e => h1 (Or.inr e)) (fun n1 => ?_))
  refine pk_eq s' 2 (fun e => ?_) (fun n2 => pk_eq s' 3 (fun e => br_t rfl ?_) (fun n3 => ?_))
  · subst e
    exact xs_b (b := true) h (cd_ct2 s)
  · subst e
    exact xs_b (b := true) h (cd_ct3 n0 n1)
  · exact xs_b (b := false) h (by simp [cd_ct, n2, n3])
section
variable {x_draftSize x_recordCount x_rawCount x_writingCount x_scanState x_scanSound x_scanRecords x_scanFields x_scanSize x_scanMostFields x_scanLongest x_scanUneven : Int32} {x_draftCharacters x_fieldCounts x_fieldSizes x_characters x_rawCharacters x_writing : Nat → Int32}
variable {ln d : Nat} {R : Nat → Nat}
theorem xc_rec {post : SX → Prop} {r f m : Nat} {u : Bool} (hr : r < 2 ^ 31) (hf : f < 2 ^ 31) (hm : m < 2 ^ 31)
    (H : post (x_draftSize, x_recordCount, x_rawCount, x_writingCount, x_scanState, x_scanSound, nI r, nI f, x_scanSize, nI (cd_mx m f), x_scanLongest, cd_b (u || (decide (1 < r) && !decide (f = m))), x_draftCharacters, x_fieldCounts, x_fieldSizes, x_characters, x_rawCharacters, x_writing)) :
    wpX_countRecord post (x_draftSize, x_recordCount, x_rawCount, x_writingCount, x_scanState, x_scanSound, nI r, nI f, x_scanSize, nI m, x_scanLongest, cd_b u, x_draftCharacters, x_fieldCounts, x_fieldSizes, x_characters, x_rawCharacters, x_writing) := by
  have h24 : ∀ w : Bool, (u || (decide (1 < r) && !decide (f = m))) = w → wX_countRecord_24 post x_draftSize x_recordCount x_rawCount x_writingCount x_scanState x_scanSound (nI r) (nI f) x_scanSize (nI m) x_scanLongest (cd_b w) x_draftCharacters x_fieldCounts x_fieldSizes x_characters x_rawCharacters x_writing := by
    intro w e
    rw [e] at H
    refine pk_le f m (fun h => ?_) (fun h => ?_)
    · have em : cd_mx m f = m := if_neg (by omega)
      rw [em] at H
      exact H
    · have em : cd_mx m f = f := if_pos h
      rw [em] at H
      exact H
  refine pk_le r 1 (fun h => h24 u ?_) (fun h => pk_eq f m (fun e => h24 u ?_) (fun e => h24 true ?_))
  · rw [decide_eq_false (by omega), Bool.false_and, Bool.or_false]
  · rw [decide_eq_true e, Bool.not_true, Bool.and_false, Bool.or_false]
  · rw [decide_eq_true h, decide_eq_false e, Bool.not_false, Bool.and_true, Bool.or_true]
theorem xc_104 {post : SX → Prop} {s' r f m : Nat} {u : Bool} (hs : s' < 8) (hr : r < 2 ^ 31) (hf : f < 2 ^ 31) (hm : m < 2 ^ 31)
    (H : post (x_draftSize, x_recordCount, x_rawCount, x_writingCount, x_scanState, x_scanSound, nI r, nI f, x_scanSize, nI (if s' = 0 then cd_mx m f else m), x_scanLongest, cd_b (u || (decide (s' = 0) && (decide (1 < r) && !decide (f = m)))), x_draftCharacters, x_fieldCounts, x_fieldSizes, x_characters, x_rawCharacters, x_writing)) :
    wX_countStep_104 post (nI s') x_draftSize x_recordCount x_rawCount x_writingCount x_scanState x_scanSound (nI r) (nI f) x_scanSize (nI m) x_scanLongest (cd_b u) x_draftCharacters x_fieldCounts x_fieldSizes x_characters x_rawCharacters x_writing := by
  refine pk_eq s' 0 (fun e => xc_rec hr hf hm ?_) (fun e => ?_)
  · rw [if_pos e, decide_eq_true e, Bool.true_and] at H
    exact H
  · rw [if_neg e, decide_eq_false e, Bool.false_and, Bool.or_false] at H
    exact H
theorem xc_60 {post : SX → Prop} {s s' r f z l m : Nat} {u : Bool} (hs : s < 8) (hs' : s' < 8) (hr : r < 2 ^ 31) (hf : f < 2 ^ 31) (hm : m < 2 ^ 31) (hz : z < 2 ^ 30) (hl : l < 2 ^ 31)
    (H : post (x_draftSize, x_recordCount, x_rawCount, x_writingCount, x_scanState, x_scanSound, nI r, nI f, nI (if cd_ct s s' = true then z + 1 else z), nI (if s' = 0 then cd_mx m f else m), nI (if cd_ct s s' = true then cd_mx l (z + 1) else l), cd_b (u || (decide (s' = 0) && (decide (1 < r) && !decide (f = m)))), x_draftCharacters, x_fieldCounts, x_fieldSizes, x_characters, x_rawCharacters, x_writing)) :
    wX_countStep_60 post (nI s) (nI s') x_draftSize x_recordCount x_rawCount x_writingCount x_scanState x_scanSound (nI r) (nI f) (nI z) (nI m) (nI l) (cd_b u) x_draftCharacters x_fieldCounts x_fieldSizes x_characters x_rawCharacters x_writing := by
  refine xs_ct hs hs' ?_
  cases hc : cd_ct s s' with
  | false =>
    rw [hc] at H
    exact br_t rfl (xc_104 hs' hr hf hm H)
  | true =>
    rw [hc] at H
    refine br_f (by decide) (nm_r (nI_1 z) (pk_le (z + 1) l (fun h => ?_) (fun h => ?_)))
    · have em : cd_mx l (z + 1) = l := if_neg (by omega)
      rw [em] at H
      exact xc_104 hs' hr hf hm H
    · have em : cd_mx l (z + 1) = z + 1 := if_pos h
      rw [em] at H
      exact xc_104 hs' hr hf hm H
theorem xc_40 {post : SX → Prop} {s s' r f z l m : Nat} {u : Bool} (hs : s < 8) (hs' : s' < 8) (hr : r < 2 ^ 31) (hf : f < 2 ^ 30) (hm : m < 2 ^ 31) (hz : z < 2 ^ 30) (hl : l < 2 ^ 31)
    (H : ∀ f' z', f' = (if s' = 1 then f + 1 else f) → z' = (if s' = 1 then 0 else z) → post (x_draftSize, x_recordCount, x_rawCount, x_writingCount, x_scanState, x_scanSound, nI r, nI f', nI (if cd_ct s s' = true then z' + 1 else z'), nI (if s' = 0 then cd_mx m f' else m), nI (if cd_ct s s' = true then cd_mx l (z' + 1) else l), cd_b (u || (decide (s' = 0) && (decide (1 < r) && !decide (f' = m)))), x_draftCharacters, x_fieldCounts, x_fieldSizes, x_characters, x_rawCharacters, x_writing)) :
    wX_countStep_40 post (nI s) (nI s') x_draftSize x_recordCount x_rawCount x_writingCount x_scanState x_scanSound (nI r) (nI f) (nI z) (nI m) (nI l) (cd_b u) x_draftCharacters x_fieldCounts x_fieldSizes x_characters x_rawCharacters x_writing := by
  refine pk_eq s' 1 (fun e => nm_r (nI_1 f) ?_) (fun e => ?_)
  · exact xc_60 (z := 0) hs hs' hr (by omega) hm (by omega) hl (H (f + 1) 0 (if_pos e).symm (if_pos e).symm)
  · exact xc_60 hs hs' hr (by omega) hm hz hl (H f z (if_neg e).symm (if_neg e).symm)
theorem xc_step {post : SX → Prop} {s s' r f z l m o : Nat} {u : Bool} (hs : s < 8) (hs' : s' < 8) (hr : r < 2 ^ 30) (hf : f < 2 ^ 30) (hm : m < 2 ^ 31) (hz : z < 2 ^ 30) (hl : l < 2 ^ 31)
    (H : ∀ r' f' z' o', r' = (if s = 0 then r + 1 else r) → f' = (if s' = 1 then (if s = 0 then 1 else f) + 1 else (if s = 0 then 1 else f)) → z' = (if s' = 1 then 0 else (if s = 0 then 0 else z)) → o' = (if s' = 7 then o else o + 1) →
      post (x_draftSize, x_recordCount, x_rawCount, x_writingCount, x_scanState, nI o', nI r', nI f', nI (if cd_ct s s' = true then z' + 1 else z'), nI (if s' = 0 then cd_mx m f' else m), nI (if cd_ct s s' = true then cd_mx l (z' + 1) else l), cd_b (u || (decide (s' = 0) && (decide (1 < r') && !decide (f' = m)))), x_draftCharacters, x_fieldCounts, x_fieldSizes, x_characters, x_rawCharacters, x_writing)) :
    wpX_countStep post (x_draftSize, x_recordCount, x_rawCount, x_writingCount, x_scanState, nI o, nI r, nI f, nI z, nI m, nI l, cd_b u, x_draftCharacters, x_fieldCounts, x_fieldSizes, x_characters, x_rawCharacters, x_writing) (nI s) (nI s') := by
  have h16 : ∀ o', o' = (if s' = 7 then o else o + 1) → wX_countStep_16 post (nI s) (nI s') x_draftSize x_recordCount x_rawCount x_writingCount x_scanState (nI o') (nI r) (nI f) (nI z) (nI m) (nI l) (cd_b u) x_draftCharacters x_fieldCounts x_fieldSizes x_characters x_rawCharacters x_writing := by
    intro o' eo
    refine pk_eq s 0 (fun e => nm_r (nI_1 r) ?_) (fun e => ?_)
    · refine xc_40 (f := 1) (z := 0) hs hs' (by omega) (by omega) hm (by omega) hl (fun f' z' ef ez => H (r + 1) f' z' o' (if_pos e).symm ?_ ?_ eo)
      · rw [if_pos e]
        exact ef
      · rw [if_pos e]
        exact ez
    · refine xc_40 hs hs' (by omega) hf hm hz hl (fun f' z' ef ez => H r f' z' o' (if_neg e).symm ?_ ?_ eo)
      · rw [if_neg e]
        exact ef
      · rw [if_neg e]
        exact ez
  exact pk_eq s' 7 (fun e => h16 o (if_pos e).symm) (fun e => nm_r (nI_1 o) (h16 (o + 1) (if_neg e).symm))
theorem cd_tsv (s s' c : Nat) (t : cd_T) : (cd_ts s s' c (cd_ob s t)).1 = (if s = 0 then t.1 + 1 else t.1) ∧ cd_f (cd_ts s s' c (cd_ob s t)) = (if s' = 1 then (if s = 0 then 1 else cd_f t) + 1 else (if s = 0 then 1 else cd_f t)) ∧
    cd_z (cd_ts s s' c (cd_ob s t)) = (if cd_ct s s' = true then (if s' = 1 then 0 else (if s = 0 then 0 else cd_z t)) + 1 else (if s' = 1 then 0 else (if s = 0 then 0 else cd_z t))) := by
  have e0 : (cd_ob s t).1 = (if s = 0 then t.1 + 1 else t.1) ∧ cd_f (cd_ob s t) = (if s = 0 then 1 else cd_f t) ∧ cd_z (cd_ob s t) = (if s = 0 then 0 else cd_z t) := by
    unfold cd_ob
    by_cases h : s = 0
    · rw [if_pos h, if_pos h, if_pos h, if_pos h]
      exact ⟨rfl, cd_oRf t, cd_oRz t⟩
    · rw [if_neg h, if_neg h, if_neg h, if_neg h]
      exact ⟨rfl, rfl, rfl⟩
  rw [← e0.1, ← e0.2.1, ← e0.2.2]
  unfold cd_ts
  by_cases h1 : s' = 1
  · have hc : cd_ct s s' = false := by rw [h1]; exact cd_ct1 s
    rw [if_pos h1, if_pos h1, if_pos h1, hc, if_neg (by decide)]
    exact ⟨rfl, cd_oFf _, cd_oFz _⟩
  · rw [if_neg h1, if_neg h1, if_neg h1]
    cases hc : cd_ct s s' with
    | true =>
      rw [if_pos rfl, if_pos rfl]
      exact ⟨rfl, cd_oAf _ _, cd_oAz _ _⟩
    | false =>
      rw [if_neg (by decide), if_neg (by decide)]
      exact ⟨rfl, rfl, rfl⟩
theorem xs_loop {post : SX → Prop} (hd : d < 8) (hl : ln ≤ 96) (hR : ∀ i, i < ln → R i ≤ 10 ∧ x_rawCharacters i = nI (R i))
    (H : ∀ j, j ≤ ln → (j = ln ∨ cd_S d R j = 7) → post (x_draftSize, x_recordCount, nI ln, x_writingCount, nI (cd_S d R j), nI (cd_so d R j), nI (cd_t d R j).1, nI (cd_f (cd_t d R j)), nI (cd_z (cd_t d R j)), nI (cd_e d R j).2.2.1, nI (cd_lg d R j), cd_b (cd_e d R j).2.2.2, x_draftCharacters, x_fieldCounts, x_fieldSizes, x_characters, x_rawCharacters, x_writing)) :
    ∀ (e i n : Nat), i + e = ln → e < n → wX_scan_42 post (nI d) n (nI i) x_draftSize x_recordCount (nI ln) x_writingCount (nI (cd_S d R i)) (nI (cd_so d R i)) (nI (cd_t d R i).1) (nI (cd_f (cd_t d R i))) (nI (cd_z (cd_t d R i))) (nI (cd_mc d R i)) (nI (cd_lg d R i)) (cd_b (cd_uv d R i)) x_draftCharacters x_fieldCounts x_fieldSizes x_characters x_rawCharacters x_writing := by
  have h94 : ∀ j, j ≤ ln → (j = ln ∨ cd_S d R j = 7) → wX_scan_94 post x_draftSize x_recordCount (nI ln) x_writingCount (nI (cd_S d R j)) (nI (cd_so d R j)) (nI (cd_t d R j).1) (nI (cd_f (cd_t d R j))) (nI (cd_z (cd_t d R j))) (nI (cd_mc d R j)) (nI (cd_lg d R j)) (cd_b (cd_uv d R j)) x_draftCharacters x_fieldCounts x_fieldSizes x_characters x_rawCharacters x_writing := by
    intro j hj hx
    have h := H j hj hx
    have b1 := cd_tb1 d R j
    have b2 := cd_mcb d R j
    have b3 := cd_Sl d R j
    refine pk_eq (cd_S d R j) 0 (fun e => ?_) (fun e => ?_)
    · rw [cd_e0 e] at h
      exact h
    · rw [cd_en e] at h
      have e1 : (cd_cw (cd_v d R j)).2.2.1 = cd_mx (cd_mc d R j) (cd_f (cd_t d R j)) := by
        show cd_mx (cd_mc d R j) (cd_f (cd_t' d R j)) = _
        rw [cd_t'n e]
      have e2 : (cd_cw (cd_v d R j)).2.2.2 = (cd_uv d R j || (decide (1 < (cd_t d R j).1) && !decide (cd_f (cd_t d R j) = cd_mc d R j))) := by
        show (cd_uv d R j || (decide (1 < (cd_t' d R j).1) && !decide (cd_f (cd_t' d R j) = cd_mc d R j))) = _
        rw [cd_t'n e]
      rw [e1, e2] at h
      exact xc_rec (by omega) (by omega) (by omega) h
  intro e
  induction e with
  | zero =>
    intro i n hi hn
    obtain ⟨n, rfl⟩ : ∃ m, n = m + 1 := ⟨n - 1, by omega⟩
    rw [wX_scan_42]
    exact pk_le ln i (fun _ => h94 i (by omega) (Or.inl (by omega))) (fun z => absurd z (by omega))
  | succ e ih =>
    intro i n hi hn
    obtain ⟨n, rfl⟩ : ∃ m, n = m + 1 := ⟨n - 1, by omega⟩
    have b1 := cd_tb1 d R i
    have b2 := cd_mcb d R i
    have b3 := cd_Sl d R i
    have b4 := cd_lgb d R i
    rw [wX_scan_42]
    refine pk_le ln i (fun z => absurd z (by omega)) (fun _ => pk_eq (cd_S d R i) 7 (fun e7 => h94 i (by omega) (Or.inr e7)) (fun n7 => ⟨pk_in i 96 (by omega), ?_⟩))
    rw [nI_clamp (by omega), (hR i (by omega)).2]
    refine xs_step hd b3 (hR i (by omega)).1 ?_
    rw [← cd_Ss]
    refine xc_step b3 (cd_Sl d R (i + 1)) (by omega) (by omega) (by omega) (by omega) (by omega) (fun r' f' z' o' er ef ez eo => ?_)
    dsimp only
    refine nm_r (nI_1 i) ?_
    obtain ⟨v1, v2, v3⟩ := cd_tsv (cd_S d R i) (cd_S d R (i + 1)) (R i) (cd_t d R i)
    rw [← er] at v1
    rw [← ef] at v2
    rw [← ez] at v3
    have w := ih (i + 1) n (by omega) (by omega)
    have t1 : (cd_t d R (i + 1)).1 = r' := v1
    have t2 : cd_f (cd_t d R (i + 1)) = f' := v2
    have t3 : cd_z (cd_t d R (i + 1)) = (if cd_ct (cd_S d R i) (cd_S d R (i + 1)) = true then z' + 1 else z') := v3
    have t4 : cd_so d R (i + 1) = o' := eo.symm
    have t5 : cd_lg d R (i + 1) = (if cd_ct (cd_S d R i) (cd_S d R (i + 1)) = true then cd_mx (cd_lg d R i) (z' + 1) else cd_lg d R i) := by
      show (if cd_ct (cd_S d R i) (cd_S d R (i + 1)) = true then cd_mx (cd_lg d R i) (cd_z (cd_t d R (i + 1))) else cd_lg d R i) = _
      rw [t3]
      cases hc : cd_ct (cd_S d R i) (cd_S d R (i + 1)) with
      | true => rfl
      | false => rfl
    have t6 : cd_mc d R (i + 1) = (if cd_S d R (i + 1) = 0 then cd_mx (cd_mc d R i) f' else cd_mc d R i) := by
      rw [← t2]
      rfl
    have t7 : cd_uv d R (i + 1) = (cd_uv d R i || (decide (cd_S d R (i + 1) = 0) && (decide (1 < r') && !decide (f' = cd_mc d R i)))) := by
      rw [← t1, ← t2]
      rfl
    rw [t1, t2, t3, t4, t5, t6, t7] at w
    exact w
theorem xs_scan {post : SX → Prop} (hd : d < 8) (hr : cd_tx 96 10 ln R x_rawCount x_rawCharacters)
    (H : ∀ j, j ≤ ln → (j = ln ∨ cd_S d R j = 7) → post (x_draftSize, x_recordCount, nI ln, x_writingCount, nI (cd_S d R j), nI (cd_so d R j), nI (cd_t d R j).1, nI (cd_f (cd_t d R j)), nI (cd_z (cd_t d R j)), nI (cd_e d R j).2.2.1, nI (cd_lg d R j), cd_b (cd_e d R j).2.2.2, x_draftCharacters, x_fieldCounts, x_fieldSizes, x_characters, x_rawCharacters, x_writing)) :
    wpX_scan post (x_draftSize, x_recordCount, x_rawCount, x_writingCount, x_scanState, x_scanSound, x_scanRecords, x_scanFields, x_scanSize, x_scanMostFields, x_scanLongest, x_scanUneven, x_draftCharacters, x_fieldCounts, x_fieldSizes, x_characters, x_rawCharacters, x_writing) (nI d) := by
  obtain ⟨h1, rfl, h3⟩ := hr
  exact ⟨ln + 1, xs_loop hd h1 h3 H ln 0 (ln + 1) (by omega) (by omega)⟩
theorem xs_reads {post : Int32 → Prop} {s : Nat} (hs : s < 8) (f : cd_ok s → post 1) (g : ¬ cd_ok s → post 0) : wpX_scanReads post (x_draftSize, x_recordCount, x_rawCount, x_writingCount, nI s, x_scanSound, x_scanRecords, x_scanFields, x_scanSize, x_scanMostFields, x_scanLongest, x_scanUneven, x_draftCharacters, x_fieldCounts, x_fieldSizes, x_characters, x_rawCharacters, x_writing) :=
  pk_eq s 0 (fun e => f (by unfold cd_ok; omega)) (fun n0 => pk_eq s 1 (fun e => f (by unfold cd_ok; omega)) (fun n1 => pk_eq s 2 (fun e => f (by unfold cd_ok; omega)) (fun n2 => pk_eq s 5 (fun e => f (by unfold cd_ok; omega)) (fun n5 => g (by unfold cd_ok; omega)))))
end
end
section
/-! the component's fillTable -/
section
variable {x_draftSize x_recordCount x_rawCount x_writingCount x_scanState x_scanSound x_scanRecords x_scanFields x_scanSize x_scanMostFields x_scanLongest x_scanUneven : Int32} {x_draftCharacters x_fieldCounts x_fieldSizes x_characters x_rawCharacters x_writing : Nat → Int32}
variable {ln d : Nat} {R : Nat → Nat}
theorem xo_A {post : SX → Prop} {m g z c : Nat} (hm : m < 6) (hg : g < 5) (hz : z < 6) (h1 : x_fieldCounts m = nI (g + 1)) (h2 : x_fieldSizes (5 * m + g) = nI z)
    (H : post (x_draftSize, nI (m + 1), x_rawCount, x_writingCount, x_scanState, x_scanSound, x_scanRecords, x_scanFields, x_scanSize, x_scanMostFields, x_scanLongest, x_scanUneven, x_draftCharacters, x_fieldCounts, upd x_fieldSizes (5 * m + g) (nI (z + 1)), upd x_characters (6 * (5 * m + g) + z) (nI c), x_rawCharacters, x_writing)) :
    wpX_appendToLastField post (x_draftSize, nI (m + 1), x_rawCount, x_writingCount, x_scanState, x_scanSound, x_scanRecords, x_scanFields, x_scanSize, x_scanMostFields, x_scanLongest, x_scanUneven, x_draftCharacters, x_fieldCounts, x_fieldSizes, x_characters, x_rawCharacters, x_writing) (nI c) := by
  unfold wpX_appendToLastField
  dsimp only
  have em : (nI m).toNatClampNeg = m := nI_clamp (by omega)
  have ek : (nI (5 * m + g)).toNatClampNeg = 5 * m + g := nI_clamp (by omega)
  refine nm_r (nI_pred m) (br_f (nI_pos (by omega)) ⟨pk_in m 6 hm, ?_⟩)
  rw [em, h1]
  refine pk_le 1 (g + 1) (fun _ => ⟨pk_in m 6 hm, nm_r (e' := nI (5 * m + g)) (by rw [ar_5, ← Nat.add_assoc, nI_pred]) ⟨pk_in (5 * m + g) 30 (by omega), ?_⟩⟩) (fun z => absurd z (by omega))
  rw [ek, h2]
  refine pk_le 6 z (fun z => absurd z (by omega)) (fun _ => ⟨pk_in (5 * m + g) 30 (by omega), pk_in (6 * (5 * m + g) + z) 180 (by omega) (ar_6 _ _), nm_r (e' := upd x_characters (6 * (5 * m + g) + z) (nI c)) (by rw [ar_6, nI_clamp (by omega)]) ⟨pk_in (5 * m + g) 30 (by omega), pk_in (5 * m + g) 30 (by omega), nm_r (e' := upd x_fieldSizes (5 * m + g) (nI (z + 1))) (by rw [nI_1]) H⟩⟩)
theorem xt_52 {post : SX → Prop} {J : Int32 → Int32 → Int32 → Int32 → Int32 → Int32 → Int32 → Int32 → Int32 → Int32 → Int32 → Int32 → Int32 → Int32 → (Nat → Int32) → (Nat → Int32) → (Nat → Int32) → (Nat → Int32) → (Nat → Int32) → (Nat → Int32) → Prop}
    {x1 : Int32} {s s' c i m g : Nat} {t : cd_T} (h1 : t.1 = m + 1) (hg : t.2.1 m = g + 1) (hm : m < 6) (hs : s < 8) (hs' : s' < 8)
    (ht : cd_tb t.1 t.2.1 t.2.2.1 t.2.2.2 x_fieldCounts x_fieldSizes x_characters) (hA : cd_ct s s' = true → cd_z t < 6 ∧ c ≤ 9)
    (H : ∀ cn sz ch : Nat → Int32, cd_tb (if cd_ct s s' = true then cd_oA c t else t).1 (if cd_ct s s' = true then cd_oA c t else t).2.1 (if cd_ct s s' = true then cd_oA c t else t).2.2.1 (if cd_ct s s' = true then cd_oA c t else t).2.2.2 cn sz ch →
      J (nI s') (nI (i + 1)) x_draftSize (nI (m + 1)) x_rawCount x_writingCount x_scanState x_scanSound x_scanRecords x_scanFields x_scanSize x_scanMostFields x_scanLongest x_scanUneven x_draftCharacters cn sz ch x_rawCharacters x_writing) :
    wX_fillTable_52 post J x1 (nI s) (nI i) (nI c) (nI s') x_draftSize (nI (m + 1)) x_rawCount x_writingCount x_scanState x_scanSound x_scanRecords x_scanFields x_scanSize x_scanMostFields x_scanLongest x_scanUneven x_draftCharacters x_fieldCounts x_fieldSizes x_characters x_rawCharacters x_writing := by
  refine xs_ct hs hs' ?_
  cases hc : cd_ct s s' with
  | false =>
    rw [hc] at H
    exact br_t rfl (nm_r (nI_1 i) (H _ _ _ ht))
  | true =>
    rw [hc] at H
    obtain ⟨z6, c9⟩ := hA hc
    obtain ⟨e1, e2, e3⟩ := cy_pl h1 hg
    obtain ⟨o1, o2, o3, o4⟩ := cy_oA (w := (t, 0, 0, false)) (c := c) h1 hg
    obtain ⟨q1, q2, q3, q4⟩ := ht m (by omega)
    obtain ⟨p1, p2, p3⟩ := q4 g (by omega)
    rw [hg] at q3
    rw [e3] at z6
    refine br_f (by decide) (xo_A hm (by omega) z6 q3 p2 ?_)
    dsimp only
    refine nm_r (nI_1 i) (H _ _ _ ?_)
    have k := cd_tbA ht z6 c9
    rw [if_pos rfl]
    have o1' : (cd_oA c t).1 = t.1 := rfl
    have o2' : (cd_oA c t).2.1 = t.2.1 := rfl
    rw [o1', o2', o3, o4]
    exact k
theorem xt_42 {post : SX → Prop} {J : Int32 → Int32 → Int32 → Int32 → Int32 → Int32 → Int32 → Int32 → Int32 → Int32 → Int32 → Int32 → Int32 → Int32 → (Nat → Int32) → (Nat → Int32) → (Nat → Int32) → (Nat → Int32) → (Nat → Int32) → (Nat → Int32) → Prop}
    {x1 : Int32} {s s' c i m g : Nat} {t : cd_T} (h1 : t.1 = m + 1) (hg : t.2.1 m = g + 1) (hm : m < 6) (hs : s < 8) (hs' : s' < 8)
    (ht : cd_tb t.1 t.2.1 t.2.2.1 t.2.2.2 x_fieldCounts x_fieldSizes x_characters) (hF : s' = 1 → g + 1 < 5) (hA : cd_ct s s' = true → cd_z t < 6 ∧ c ≤ 9)
    (H : ∀ cn sz ch : Nat → Int32, cd_tb (cd_ts s s' c t).1 (cd_ts s s' c t).2.1 (cd_ts s s' c t).2.2.1 (cd_ts s s' c t).2.2.2 cn sz ch →
      J (nI s') (nI (i + 1)) x_draftSize (nI (m + 1)) x_rawCount x_writingCount x_scanState x_scanSound x_scanRecords x_scanFields x_scanSize x_scanMostFields x_scanLongest x_scanUneven x_draftCharacters cn sz ch x_rawCharacters x_writing) :
    wX_fillTable_42 post J x1 (nI s) (nI i) (nI c) (nI s') x_draftSize (nI (m + 1)) x_rawCount x_writingCount x_scanState x_scanSound x_scanRecords x_scanFields x_scanSize x_scanMostFields x_scanLongest x_scanUneven x_draftCharacters x_fieldCounts x_fieldSizes x_characters x_rawCharacters x_writing := by
  refine pk_eq s' 1 (fun e => ?_) (fun e => ?_)
  · obtain ⟨q1, q2, q3, q4⟩ := ht m (by omega)
    refine xo_F (C := t.2.1) hm q3 (by rw [hg]; exact hF e) ?_
    dsimp only
    have hc : cd_ct s s' = false := by rw [e]; exact cd_ct1 s
    have et : cd_ts s s' c t = cd_oF t := if_pos e
    obtain ⟨rn, C, Z, K⟩ := t
    have h1' : rn = m + 1 := h1
    subst h1'
    have hg' : C m = g + 1 := hg
    have f1 : (cd_oF (m + 1, C, Z, K)).1 = m + 1 := rfl
    refine xt_52 (t := cd_oF (m + 1, C, Z, K)) (m := m) (g := g + 1) f1 ?_ hm hs hs' ?_ (fun z => absurd z (by rw [hc]; decide)) (fun cn sz ch k => ?_)
    · show cd_up C (m + 1 - 1) (cd_f (m + 1, C, Z, K) + 1) m = g + 1 + 1
      have e2 : cd_f (m + 1, C, Z, K) = g + 1 := hg'
      rw [Nat.add_sub_cancel, cd_us, e2]
    · have hF' := hF e
      exact cd_tbF ht (by show C m < 5; rw [hg']; exact hF')
    · rw [hc, if_neg (by decide)] at k
      rw [et] at H
      exact H cn sz ch k
  · have et : cd_ts s s' c t = (if cd_ct s s' = true then cd_oA c t else t) := if_neg e
    rw [et] at H
    exact xt_52 h1 hg hm hs hs' ht hA H
theorem xt_loop {post : SX → Prop} (hd : d < 8) (hl : ln ≤ 96) (hR : ∀ i, i < ln → R i ≤ 10 ∧ x_rawCharacters i = nI (R i)) (hL : cd_lim (cd_e d R ln))
    (H : ∀ cn sz ch : Nat → Int32, cd_tb (cd_t d R ln).1 (cd_t d R ln).2.1 (cd_t d R ln).2.2.1 (cd_t d R ln).2.2.2 cn sz ch → post (x_draftSize, nI (cd_t d R ln).1, nI ln, x_writingCount, x_scanState, x_scanSound, x_scanRecords, x_scanFields, x_scanSize, x_scanMostFields, x_scanLongest, x_scanUneven, x_draftCharacters, cn, sz, ch, x_rawCharacters, x_writing)) :
    ∀ (e i n : Nat) (cn sz ch : Nat → Int32), i + e = ln → e < n → cd_tb (cd_t d R i).1 (cd_t d R i).2.1 (cd_t d R i).2.2.1 (cd_t d R i).2.2.2 cn sz ch →
      wX_fillTable_9 post (nI d) n (nI (cd_S d R i)) (nI i) x_draftSize (nI (cd_t d R i).1) (nI ln) x_writingCount x_scanState x_scanSound x_scanRecords x_scanFields x_scanSize x_scanMostFields x_scanLongest x_scanUneven x_draftCharacters cn sz ch x_rawCharacters x_writing := by
  intro e
  induction e with
  | zero =>
    intro i n cn sz ch hi hn ht
    obtain ⟨n, rfl⟩ : ∃ m, n = m + 1 := ⟨n - 1, by omega⟩
    have ei : i = ln := by omega
    subst ei
    rw [wX_fillTable_9]
    exact pk_le i i (fun _ => H cn sz ch ht) (fun z => absurd z (by omega))
  | succ e ih =>
    intro i n cn sz ch hi hn ht
    obtain ⟨n, rfl⟩ : ∃ m, n = m + 1 := ⟨n - 1, by omega⟩
    have hLi := cd_limi (d := d) (R := R) (i := i + 1) (n := ln) (by omega) hL
    obtain ⟨l1, l2, l3⟩ := cd_limx hLi
    have l6 : (cd_t d R (i + 1)).1 ≤ 6 := by
      have := hLi.1
      rw [(cd_e1 d R (i + 1)).1] at this
      exact this
    have b3 := cd_Sl d R i
    rw [wX_fillTable_9]
    refine pk_le ln i (fun z => absurd z (by omega)) (fun _ => ⟨pk_in i 96 (by omega), nm_r (e' := nI (R i)) (by rw [nI_clamp (by omega), (hR i (by omega)).2]) ?_⟩)
    refine xs_step hd b3 (hR i (by omega)).1 ?_
    rw [← cd_Ss]
    have hp := cd_t'p d R i
    obtain ⟨m, hm⟩ : ∃ m, (cd_t' d R i).1 = m + 1 := ⟨(cd_t' d R i).1 - 1, by omega⟩
    have hf0 : cd_f (cd_t' d R i) = (cd_t' d R i).2.1 m := by
      unfold cd_f
      rw [hm, Nat.add_sub_cancel]
    obtain ⟨g, hg⟩ : ∃ g, (cd_t' d R i).2.1 m = g + 1 := ⟨(cd_t' d R i).2.1 m - 1, by omega⟩
    have e1 : (cd_t d R (i + 1)).1 = m + 1 := by
      rw [cd_ts1, ← hm]
      unfold cd_ts
      split
      · rfl
      · split
        · rfl
        · rfl
    have key : ∀ cn sz : Nat → Int32, cd_tb (cd_t' d R i).1 (cd_t' d R i).2.1 (cd_t' d R i).2.2.1 (cd_t' d R i).2.2.2 cn sz ch →
        wX_fillTable_42 post (wX_fillTable_9 post (nI d) n) (nI d) (nI (cd_S d R i)) (nI i) (nI (R i)) (nI (cd_S d R (i + 1))) x_draftSize (nI (m + 1)) (nI ln) x_writingCount x_scanState x_scanSound x_scanRecords x_scanFields x_scanSize x_scanMostFields x_scanLongest x_scanUneven x_draftCharacters cn sz ch x_rawCharacters x_writing := by
      intro cn sz ht'
      refine xt_42 hm hg (by omega) b3 (cd_Sl d R (i + 1)) ht' (fun z => by have := l2 z; omega) (fun z => ⟨l3 z, ?_⟩) (fun cn' sz' ch' k => ?_)
      · rw [cd_Ss] at z
        exact cd_c9 z (hR i (by omega)).1
      · rw [← cd_ts1] at k
        have w := ih (i + 1) n cn' sz' ch' (by omega) (by omega) k
        rw [e1] at w
        exact w
    refine pk_eq (cd_S d R i) 0 (fun e0 => ?_) (fun e0 => ?_)
    · refine xo_R (l1 e0) ?_
      dsimp only
      have em : (cd_t d R i).1 + 1 = m + 1 := by
        rw [← hm, cd_t'0 e0]
        rfl
      rw [em]
      refine key _ _ ?_
      rw [cd_t'0 e0]
      exact cd_tbR ht
    · have em : (cd_t d R i).1 = m + 1 := by rw [← hm, cd_t'n e0]
      rw [em]
      refine key _ _ ?_
      rw [cd_t'n e0]
      exact ht
theorem xt_fill {post : SX → Prop} (hd : d < 8) (hr : cd_tx 96 10 ln R x_rawCount x_rawCharacters) (hL : cd_lim (cd_e d R ln))
    (H : ∀ cn sz ch : Nat → Int32, cd_tb (cd_t d R ln).1 (cd_t d R ln).2.1 (cd_t d R ln).2.2.1 (cd_t d R ln).2.2.2 cn sz ch → post (x_draftSize, nI (cd_t d R ln).1, nI ln, x_writingCount, x_scanState, x_scanSound, x_scanRecords, x_scanFields, x_scanSize, x_scanMostFields, x_scanLongest, x_scanUneven, x_draftCharacters, cn, sz, ch, x_rawCharacters, x_writing)) :
    wpX_fillTable post (x_draftSize, x_recordCount, x_rawCount, x_writingCount, x_scanState, x_scanSound, x_scanRecords, x_scanFields, x_scanSize, x_scanMostFields, x_scanLongest, x_scanUneven, x_draftCharacters, x_fieldCounts, x_fieldSizes, x_characters, x_rawCharacters, x_writing) (nI d) := by
  obtain ⟨h1, rfl, h3⟩ := hr
  exact ⟨ln + 1, xt_loop hd h1 h3 hL H ln 0 (ln + 1) _ _ _ (by omega) (by omega) cd_tb0⟩
end
end
section
/-! the reference's reading: fields -/
/-- behind a field: what the next character leads to -/
def cy_A (d : Nat) (R : Nat → Nat) (n q : Nat) : Prop :=
  q ≤ n ∧ cd_ok (cd_S d R q) ∧ (q < n → cd_S d R (q + 1) = cd_nx d (R q)) ∧ (cd_S d R q = 0 → q < n)
section
variable {y_records y_drafted y_length y_readRecords y_readFields y_readSize y_readFirst y_readOver y_readEven y_pos y_end y_dialect y_out : Int32} {y_chars y_sizes y_counts y_draft y_raw y_readChars y_readSizes y_readCounts : Nat → Int32}
variable {n d : Nat} {R : Nat → Nat}
theorem yr_sp {post : Int32 → Prop} (hd : d < 8) (h : post (nI (cd_sp d))) : wpY_separator post (y_records, y_drafted, y_length, y_readRecords, y_readFields, y_readSize, y_readFirst, y_readOver, y_readEven, y_pos, y_end, nI d, y_out, y_chars, y_sizes, y_counts, y_draft, y_raw, y_readChars, y_readSizes, y_readCounts) := by
  rcases cd_a1 d hd with ⟨_, a, e⟩ | ⟨_, a, e⟩
  · exact br_f a (xs_p (b := 5) h e)
  · exact br_t a (xs_p (b := 6) h e)
theorem yr_pl {post : Int32 → Prop} {c : Nat} (hd : d < 8) (hc : c ≤ 10) (f : c ≠ cd_sp d → c < 7 → post 1) (g : (c = cd_sp d ∨ 7 ≤ c) → post 0) : wpY_isPlain post (y_records, y_drafted, y_length, y_readRecords, y_readFields, y_readSize, y_readFirst, y_readOver, y_readEven, y_pos, y_end, nI d, y_out, y_chars, y_sizes, y_counts, y_draft, y_raw, y_readChars, y_readSizes, y_readCounts) (nI c) := by
  have hsp := cd_spr d
  unfold wpY_isPlain
  dsimp only
  refine yr_sp hd ?_
  exact pk_eq c (cd_sp d) (fun e => g (Or.inl e)) (fun e => pk_le 7 c (fun h => g (Or.inr h)) (fun h => f e h))
theorem yr_take {post : SY → Prop} {w : cd_W} {m g c : Nat} (hm : m < 1000) (hg : g < 1000) (hz : cd_z w.1 < 1000) (hI : cy_I w m g y_readOver y_readCounts y_readSizes y_readChars)
    (H : ∀ (ov : Int32) (rK : Nat → Int32), cy_I (cd_oA c w.1, cd_mx w.2.1 (cd_z w.1 + 1), w.2.2.1, w.2.2.2) m g ov y_readCounts y_readSizes rK →
      post (y_records, y_drafted, y_length, nI m, nI g, nI (cd_z w.1 + 1), y_readFirst, ov, y_readEven, y_pos, y_end, y_dialect, y_out, y_chars, y_sizes, y_counts, y_draft, y_raw, rK, y_readSizes, y_readCounts)) :
    wpY_take post (y_records, y_drafted, y_length, nI m, nI g, nI (cd_z w.1), y_readFirst, y_readOver, y_readEven, y_pos, y_end, y_dialect, y_out, y_chars, y_sizes, y_counts, y_draft, y_raw, y_readChars, y_readSizes, y_readCounts) (nI c) := by
  have h54 : (6 ≤ m ∨ 5 ≤ g ∨ 6 ≤ cd_z w.1) → wY_take_54 post y_records y_drafted y_length (nI m) (nI g) (nI (cd_z w.1)) y_readFirst y_readOver y_readEven y_pos y_end y_dialect y_out y_chars y_sizes y_counts y_draft y_raw y_readChars y_readSizes y_readCounts :=
    fun z => nm_r (nI_1 _) (H 1 _ (cy_Io hI z))
  refine pk_le 6 m (fun z => h54 (Or.inl z)) (fun h6 => pk_le 5 g (fun z => h54 (Or.inr (Or.inl z))) (fun h5 => pk_le 6 (cd_z w.1) (fun z => h54 (Or.inr (Or.inr z))) (fun hz6 => ?_)))
  refine ⟨pk_in (6 * (5 * m + g) + cd_z w.1) 180 (by omega) (by rw [ar_5', ar_6']), nm_r (e' := upd y_readChars (6 * (5 * m + g) + cd_z w.1) (nI c)) (by rw [ar_5', ar_6', nI_clamp (by omega)]) (nm_r (nI_1 _) ?_)⟩
  exact H _ _ (cy_Ii hI h6 h5 hz6)
/-- the bounds of what is counted at q -/
theorem cy_vb {m g : Nat} {ov : Int32} {rC rS rK : Nat → Int32} {q : Nat} (hI : cy_I (cd_v d R q) m g ov rC rS rK) (hq : q ≤ 98) : m < 1000 ∧ g < 1000 ∧ cd_z (cd_v d R q).1 < 1000 := by
  have b := cd_tb1 d R q
  have e2 := (cy_pl hI.1 hI.2.1).2.1
  have e1 : (cd_t' d R q).1 = m + 1 := hI.1
  have e3 : cd_f (cd_t' d R q) = g + 1 := e2
  have e4 : cd_z (cd_v d R q).1 = cd_z (cd_t' d R q) := rfl
  omega
/-- one character read, from q to p -/
theorem cy_vz {q p c : Nat} (h : cd_v d R p = (cd_oA c (cd_v d R q).1, cd_mx (cd_v d R q).2.1 (cd_z (cd_v d R q).1 + 1), (cd_v d R q).2.2.1, (cd_v d R q).2.2.2)) : cd_z (cd_v d R p).1 = cd_z (cd_v d R q).1 + 1 ∧ (cd_v d R p).2.2 = (cd_v d R q).2.2 := by
  rw [h]
  exact ⟨cd_oAz _ _, rfl⟩
theorem yr_plain {post : Int32 → SY → Prop} {m g q0 : Nat} {w2 : Nat × Bool} (hd : d < 8) (hn : n ≤ 98) (hR : ∀ i, i < n → R i ≤ 10 ∧ y_raw i = nI (R i))
    (H : ∀ (q : Nat) (ov : Int32) (rK : Nat → Int32), q0 ≤ q → cy_A d R n q → cy_I (cd_v d R q) m g ov y_readCounts y_readSizes rK → (cd_v d R q).2.2 = w2 →
      wY_readField_103 post 1 y_records y_drafted y_length (nI m) (nI g) (nI (cd_z (cd_v d R q).1)) y_readFirst ov y_readEven (nI q) (nI n) (nI d) y_out y_chars y_sizes y_counts y_draft y_raw rK y_readSizes y_readCounts) :
    ∀ (e q f : Nat) (ov : Int32) (rK : Nat → Int32), q + e = n → e < f → q0 ≤ q → (cd_S d R q = 0 ∨ cd_S d R q = 1 ∨ cd_S d R q = 2) → (cd_S d R q ≠ 2 → q < n → R q ≠ 7) → (cd_S d R q = 0 → q < n) →
      cy_I (cd_v d R q) m g ov y_readCounts y_readSizes rK → (cd_v d R q).2.2 = w2 →
      wY_readField_50 post 1 f y_records y_drafted y_length (nI m) (nI g) (nI (cd_z (cd_v d R q).1)) y_readFirst ov y_readEven (nI q) (nI n) (nI d) y_out y_chars y_sizes y_counts y_draft y_raw rK y_readSizes y_readCounts := by
  intro e
  induction e with
  | zero =>
    intro q f ov rK hq hf h0 hs h7 hz hI hw
    obtain ⟨f, rfl⟩ : ∃ m, f = m + 1 := ⟨f - 1, by omega⟩
    rw [wY_readField_50]
    exact pk_le n q (fun _ => H q ov rK h0 ⟨by omega, by unfold cd_ok; omega, fun z => absurd z (by omega), hz⟩ hI hw) (fun z => absurd z (by omega))
  | succ e ih =>
    intro q f ov rK hq hf h0 hs h7 hz hI hw
    obtain ⟨f, rfl⟩ : ∃ m, f = m + 1 := ⟨f - 1, by omega⟩
    obtain ⟨r10, rq⟩ := hR q (by omega)
    obtain ⟨b1, b2, b3⟩ := cy_vb hI (by omega)
    have ec : y_raw (nI q).toNatClampNeg = nI (R q) := by rw [nI_clamp (by omega), rq]
    rw [wY_readField_50]
    refine pk_le n q (fun z => absurd z (by omega)) (fun _ => ⟨pk_in q 98 (by omega), ?_⟩)
    rw [ec]
    refine yr_pl hd r10 (fun c1 c2 => br_f (by decide) ⟨pk_in q 98 (by omega), ?_⟩) (fun hc => br_t rfl ?_)
    · have s2 : cd_S d R (q + 1) = 2 := by rw [cd_Ss]; exact cd_sop hs c1 c2
      have ev := cd_vc (d := d) (R := R) (q := q) (by rw [s2]; exact cd_ct2 _)
      obtain ⟨z1, z2⟩ := cy_vz (d := d) (R := R) (q := q) (p := q + 1) ev
      refine yr_take (w := cd_v d R q) b1 b2 b3 hI (fun ov' rK' hI' => ?_)
      dsimp only
      refine nm_r (nI_1 q) ?_
      have hI2 : cy_I (cd_v d R (q + 1)) m g ov' y_readCounts y_readSizes rK' := by rw [ev]; exact hI'
      have w := ih (q + 1) f ov' rK' (by omega) (by omega) (by omega) (Or.inr (Or.inr s2)) (fun z => absurd s2 z) (fun z => by omega) hI2 (z2.trans hw)
      rw [z1] at w
      exact w
    · refine H q ov rK h0 ⟨by omega, by unfold cd_ok; omega, fun hlt => ?_, hz⟩ hI hw
      rw [cd_Ss]
      by_cases s2 : cd_S d R q = 2
      · rw [s2]
        exact cd_nx2 hc r10
      · exact cd_nx01 (by omega) hc (h7 s2 hlt) r10
/-- the quoted part, from behind its first quote -/
theorem yr_quoted {post : Int32 → SY → Prop} {m g q0 : Nat} {w2 : Nat × Bool} (hd : d < 8) (hn : n ≤ 98) (hR : ∀ i, i < n → R i ≤ 10 ∧ y_raw i = nI (R i))
    (H : ∀ (q : Nat) (ov : Int32) (rK : Nat → Int32), q0 ≤ q → cy_A d R n q → cy_I (cd_v d R q) m g ov y_readCounts y_readSizes rK → (cd_v d R q).2.2 = w2 →
      post 1 (y_records, y_drafted, y_length, nI m, nI g, nI (cd_z (cd_v d R q).1), y_readFirst, ov, y_readEven, nI q, nI n, nI d, y_out, y_chars, y_sizes, y_counts, y_draft, y_raw, rK, y_readSizes, y_readCounts))
    (H0 : ¬ cd_ok (cd_S d R n) → ∀ (q rs ov : Int32) (rK : Nat → Int32), post 0 (y_records, y_drafted, y_length, nI m, nI g, rs, y_readFirst, ov, y_readEven, q, nI n, nI d, y_out, y_chars, y_sizes, y_counts, y_draft, y_raw, rK, y_readSizes, y_readCounts)) :
    ∀ (e q f : Nat) (ov : Int32) (rK : Nat → Int32), n ≤ q + e → q ≤ n → e < f → q0 ≤ q → cd_S d R q = 3 →
      cy_I (cd_v d R q) m g ov y_readCounts y_readSizes rK → (cd_v d R q).2.2 = w2 →
      wY_readQuoted_0 post f y_records y_drafted y_length (nI m) (nI g) (nI (cd_z (cd_v d R q).1)) y_readFirst ov y_readEven (nI q) (nI n) (nI d) y_out y_chars y_sizes y_counts y_draft y_raw rK y_readSizes y_readCounts := by
  intro e
  induction e with
  | zero =>
    intro q f ov rK hq hqn hf h0 hs hI hw
    obtain ⟨f, rfl⟩ : ∃ m, f = m + 1 := ⟨f - 1, by omega⟩
    have eq : q = n := by omega
    rw [wY_readQuoted_0]
    refine pk_le n q (fun _ => H0 (fun z => ?_) _ _ _ _) (fun z => absurd z (by omega))
    rw [← eq, hs] at z
    exact absurd z (by decide)
  | succ e ih =>
    intro q f ov rK hq hqn hf h0 hs hI hw
    obtain ⟨f, rfl⟩ : ∃ m, f = m + 1 := ⟨f - 1, by omega⟩
    rw [wY_readQuoted_0]
    refine pk_le n q (fun z => H0 (fun z => ?_) _ _ _ _) (fun hlt => ⟨pk_in q 98 (by omega), ?_⟩)
    · have eq : q = n := by omega
      rw [← eq, hs] at z
      exact absurd z (by decide)
    obtain ⟨r10, rq⟩ := hR q hlt
    obtain ⟨b1, b2, b3⟩ := cy_vb hI (by omega)
    refine nm_r (e' := nI (R q)) (by rw [nI_clamp (by omega), rq]) ?_
    rw [nI_1 q]
    -- the end of the quoted part, or one more character
    have h99 : (R q = 7 → q + 1 < n → cd_es d = true ∨ R (q + 1) ≠ 7) → (R q = 10 → cd_es d = true → q + 1 < n → R (q + 1) ≠ 7) →
        wY_readQuoted_99 post (wY_readQuoted_0 post f) (nI (R q)) y_records y_drafted y_length (nI m) (nI g) (nI (cd_z (cd_v d R q).1)) y_readFirst ov y_readEven (nI q) (nI n) (nI d) y_out y_chars y_sizes y_counts y_draft y_raw rK y_readSizes y_readCounts := by
      intro g7 g10
      refine pk_eq (R q) 7 (fun c7 => nm_r (nI_1 q) ?_) (fun n7 => pk_eq (R q) 10 (fun c10 => H0 ?_ _ _ _ _) (fun n10 => ?_))
      · have s5 : cd_S d R (q + 1) = 5 := by rw [cd_Ss, hs, c7]; exact cd_s3q
        have ev : cd_v d R (q + 1) = cd_v d R q := cd_vn (by rw [s5]; decide) (by rw [s5]; decide) (by rw [s5]; exact cd_ct5 _)
        have hp := H (q + 1) ov rK (by omega) ⟨by omega, by rw [s5]; decide, fun z => by rw [cd_Ss, s5]; exact cd_nx5 (g7 c7 z), fun z => by rw [s5] at z; exact absurd z (by decide)⟩ (by rw [ev]; exact hI) (by rw [ev]; exact hw)
        rw [ev] at hp
        exact hp
      · intro hok
        cases he : cd_es d with
        | false =>
          have s7 : cd_S d R (q + 1) = 7 := by rw [cd_Ss, hs, c10]; exact cd_s3ef he
          rw [cd_S7 s7 hlt] at hok
          exact absurd hok (by decide)
        | true =>
          have s4 : cd_S d R (q + 1) = 4 := by rw [cd_Ss, hs, c10]; exact cd_s3et he
          by_cases hl2 : q + 1 < n
          · have s7 : cd_S d R (q + 1 + 1) = 7 := by rw [cd_Ss, s4]; exact cd_s4o (g10 c10 he hl2)
            rw [cd_S7 s7 hl2] at hok
            exact absurd hok (by decide)
          · have en : q + 1 = n := by omega
            rw [← en, s4] at hok
            exact absurd hok (by decide)
      · have s3 : cd_S d R (q + 1) = 3 := by rw [cd_Ss, hs]; exact cd_s3o n7 n10
        have ev := cd_vc (d := d) (R := R) (q := q) (by rw [s3, hs]; decide)
        obtain ⟨z1, z2⟩ := cy_vz (d := d) (R := R) (q := q) (p := q + 1) ev
        refine yr_take (w := cd_v d R q) b1 b2 b3 hI (fun ov' rK' hI' => ?_)
        dsimp only
        refine nm_r (nI_1 q) ?_
        have hI2 : cy_I (cd_v d R (q + 1)) m g ov' y_readCounts y_readSizes rK' := by rw [ev]; exact hI'
        have w := ih (q + 1) f ov' rK' (by omega) (by omega) (by omega) (by omega) s3 hI2 (z2.trans hw)
        rw [z1] at w
        exact w
    -- a quote with its sign before it
    have hpair : q + 1 < n → R (q + 1) = 7 → R q = cw_bq d →
        wpY_take (fun u => match u with | (y_records, y_drafted, y_length, y_readRecords, y_readFields, y_readSize, y_readFirst, y_readOver, y_readEven, y_pos, y_end, y_dialect, y_out, y_chars, y_sizes, y_counts, y_draft, y_raw, y_readChars, y_readSizes, y_readCounts) => (∀ p : Int32, p = y_pos + 2 → wY_readQuoted_0 post f y_records y_drafted y_length y_readRecords y_readFields y_readSize y_readFirst y_readOver y_readEven p y_end y_dialect y_out y_chars y_sizes y_counts y_draft y_raw y_readChars y_readSizes y_readCounts)) (y_records, y_drafted, y_length, nI m, nI g, nI (cd_z (cd_v d R q).1), y_readFirst, ov, y_readEven, nI q, nI n, nI d, y_out, y_chars, y_sizes, y_counts, y_draft, y_raw, rK, y_readSizes, y_readCounts) 7 := by
      intro hl2 c7 cq
      have s3 : cd_S d R (q + 1 + 1) = 3 ∧ cd_v d R (q + 1 + 1) = (cd_oA 7 (cd_v d R q).1, cd_mx (cd_v d R q).2.1 (cd_z (cd_v d R q).1 + 1), (cd_v d R q).2.2.1, (cd_v d R q).2.2.2) := by
        have s1 : (cd_S d R (q + 1) = 4 ∨ cd_S d R (q + 1) = 5) ∧ cd_S d R (q + 1 + 1) = 3 := by
          unfold cw_bq at cq
          cases he : cd_es d with
          | true =>
            rw [he] at cq
            have s4 : cd_S d R (q + 1) = 4 := by rw [cd_Ss, hs, show R q = 10 from cq]; exact cd_s3et he
            exact ⟨Or.inl s4, by rw [cd_Ss, s4, c7]; exact cd_s4q⟩
          | false =>
            rw [he] at cq
            have s5 : cd_S d R (q + 1) = 5 := by rw [cd_Ss, hs, show R q = 7 from cq]; exact cd_s3q
            exact ⟨Or.inr s5, by rw [cd_Ss, s5, c7]; exact cd_s5qf he⟩
        refine ⟨s1.2, ?_⟩
        have ev1 : cd_v d R (q + 1) = cd_v d R q := by
          refine cd_vn ?_ ?_ ?_
          · rcases s1.1 with z | z <;> rw [z] <;> decide
          · rcases s1.1 with z | z <;> rw [z] <;> decide
          · rcases s1.1 with z | z
            · rw [z]; exact cd_ct4 _
            · rw [z]; exact cd_ct5 _
        have ev2 := cd_vc (d := d) (R := R) (q := q + 1) (by
          rw [s1.2]
          refine cd_ct3 ?_ ?_
          · rcases s1.1 with z | z <;> rw [z] <;> decide
          · rcases s1.1 with z | z <;> rw [z] <;> decide)
        rw [ev2, c7, ← ev1]
        rfl
      obtain ⟨z1, z2⟩ := cy_vz (d := d) (R := R) (q := q) (p := q + 1 + 1) s3.2
      refine yr_take (w := cd_v d R q) (c := 7) b1 b2 b3 hI (fun ov' rK' hI' => ?_)
      dsimp only
      refine nm_r (cl_p2 q) ?_
      have hI2 : cy_I (cd_v d R (q + 1 + 1)) m g ov' y_readCounts y_readSizes rK' := by rw [s3.2]; exact hI'
      have w := ih (q + 1 + 1) f ov' rK' (by omega) (by omega) (by omega) (by omega) s3.1 hI2 (z2.trans hw)
      rw [z1] at w
      exact w
    have h55 : ∀ b : Bool, (b = true ↔ (q + 1 < n ∧ R (q + 1) = 7)) →
        wY_readQuoted_55 post (wY_readQuoted_0 post f) (nI (R q)) (cd_b b) y_records y_drafted y_length (nI m) (nI g) (nI (cd_z (cd_v d R q).1)) y_readFirst ov y_readEven (nI q) (nI n) (nI d) y_out y_chars y_sizes y_counts y_draft y_raw rK y_readSizes y_readCounts := by
      intro b hb
      have h73 : ∀ k : Nat, k < 100 → k = cw_bq d → wY_readQuoted_73 post (wY_readQuoted_0 post f) (nI (R q)) (cd_b b) (nI k) (nI (R q)) y_records y_drafted y_length (nI m) (nI g) (nI (cd_z (cd_v d R q).1)) y_readFirst ov y_readEven (nI q) (nI n) (nI d) y_out y_chars y_sizes y_counts y_draft y_raw rK y_readSizes y_readCounts := by
        intro k hk ek
        refine pk_eq (R q) k (fun ec => ?_) (fun nc => h99 ?_ ?_)
        · cases b with
          | true =>
            obtain ⟨hl2, c7⟩ := hb.mp rfl
            exact br_f (by decide) (hpair hl2 c7 (ec.trans ek))
          | false =>
            have hnb : ¬ (q + 1 < n ∧ R (q + 1) = 7) := fun z => absurd (hb.mpr z) (by decide)
            exact br_t rfl (h99 (fun _ z => Or.inr (fun z1 => hnb ⟨z, z1⟩)) (fun _ _ z z1 => hnb ⟨z, z1⟩))
        · intro c7 _
          cases he : cd_es d with
          | true => exact Or.inl rfl
          | false =>
            unfold cw_bq at ek
            rw [he] at ek
            exact absurd (c7.trans ek.symm) nc
        · intro c10 he _
          unfold cw_bq at ek
          rw [he] at ek
          exact absurd (c10.trans ek.symm) nc
      rcases cd_a4 d hd with ⟨a, he⟩ | ⟨a, he⟩
      · exact br_t a (h73 7 (by omega) (by unfold cw_bq; rw [he]; rfl))
      · exact br_f a (h73 10 (by omega) (by unfold cw_bq; rw [he]; rfl))
    refine pk_le n (q + 1) (fun z => h55 false ⟨fun x => absurd x (by decide), fun x => absurd x.1 (by omega)⟩) (fun hl2 => ⟨pk_in (q + 1) 98 (by omega), ?_⟩)
    obtain ⟨r10', rq'⟩ := hR (q + 1) hl2
    rw [nI_clamp (by omega), rq']
    exact pk_eq (R (q + 1)) 7 (fun c7 => h55 true ⟨fun _ => ⟨hl2, c7⟩, fun _ => rfl⟩) (fun n7 => h55 false ⟨fun x => absurd x (by decide), fun x => absurd x.2 n7⟩)
/-- the field's end -/
theorem yr_103f {post : Int32 → SY → Prop} {m g : Nat} (hm : m < 1000) (hg : g < 1000)
    (H : ∀ (ov : Int32) (rS : Nat → Int32), post 0 (y_records, y_drafted, y_length, nI m, nI (g + 1), y_readSize, y_readFirst, ov, y_readEven, y_pos, y_end, y_dialect, y_out, y_chars, y_sizes, y_counts, y_draft, y_raw, y_readChars, rS, y_readCounts)) :
    wY_readField_103 post 0 y_records y_drafted y_length (nI m) (nI g) y_readSize y_readFirst y_readOver y_readEven y_pos y_end y_dialect y_out y_chars y_sizes y_counts y_draft y_raw y_readChars y_readSizes y_readCounts := by
  have h157 : wY_readField_157 post 0 y_records y_drafted y_length (nI m) (nI g) y_readSize y_readFirst y_readOver y_readEven y_pos y_end y_dialect y_out y_chars y_sizes y_counts y_draft y_raw y_readChars y_readSizes y_readCounts := nm_r (nI_1 g) ⟨rfl, H _ _⟩
  refine pk_le 6 m (fun _ => h157) (fun h6 => pk_le 5 g (fun _ => h157) (fun h5 => br_c (fun _ => ?_) (fun _ => ?_)))
  · exact ⟨pk_in (5 * m + g) 30 (by omega) (ar_5' m g), nm_e (nm_r (nI_1 g) ⟨rfl, H _ _⟩)⟩
  · exact ⟨pk_in (5 * m + g) 30 (by omega) (ar_5' m g), nm_e (nm_r (nI_1 g) ⟨rfl, H _ _⟩)⟩
theorem yr_103t {post : Int32 → SY → Prop} {w : cd_W} {m g : Nat} (hm : m < 1000) (hg : g < 1000) (hz : cd_z w.1 < 1000) (hI : cy_I w m g y_readOver y_readCounts y_readSizes y_readChars)
    (H : ∀ (ov : Int32) (rS : Nat → Int32), cy_J w m g ov y_readCounts rS y_readChars → post 1 (y_records, y_drafted, y_length, nI m, nI (g + 1), nI (cd_z w.1), y_readFirst, ov, y_readEven, y_pos, y_end, y_dialect, y_out, y_chars, y_sizes, y_counts, y_draft, y_raw, y_readChars, rS, y_readCounts)) :
    wY_readField_103 post 1 y_records y_drafted y_length (nI m) (nI g) (nI (cd_z w.1)) y_readFirst y_readOver y_readEven y_pos y_end y_dialect y_out y_chars y_sizes y_counts y_draft y_raw y_readChars y_readSizes y_readCounts := by
  have h157 : (6 ≤ m ∨ 5 ≤ g) → wY_readField_157 post 1 y_records y_drafted y_length (nI m) (nI g) (nI (cd_z w.1)) y_readFirst y_readOver y_readEven y_pos y_end y_dialect y_out y_chars y_sizes y_counts y_draft y_raw y_readChars y_readSizes y_readCounts := fun z => nm_r (nI_1 g) ⟨rfl, H _ _ (cy_IJo hI z)⟩
  refine pk_le 6 m (fun z => h157 (Or.inl z)) (fun h6 => pk_le 5 g (fun z => h157 (Or.inr z)) (fun h5 => ?_))
  have hJ := cy_IJi hI h6 h5
  refine pk_le 7 (cd_z w.1) (fun z => ?_) (fun z => ?_)
  · rw [if_neg (by omega)] at hJ
    exact ⟨pk_in (5 * m + g) 30 (by omega) (ar_5' m g), nm_r (e' := upd y_readSizes (5 * m + g) (nI 6)) (by rw [ar_5', nI_clamp (by omega)]; rfl) (nm_r (nI_1 g) ⟨rfl, H _ _ hJ⟩)⟩
  · rw [if_pos z] at hJ
    exact ⟨pk_in (5 * m + g) 30 (by omega) (ar_5' m g), nm_r (e' := upd y_readSizes (5 * m + g) (nI (cd_z w.1))) (by rw [ar_5', nI_clamp (by omega)]) (nm_r (nI_1 g) ⟨rfl, H _ _ hJ⟩)⟩
theorem yr_field {post : Int32 → SY → Prop} {m g q : Nat} (hd : d < 8) (hn : n ≤ 98) (hR : ∀ i, i < n → R i ≤ 10 ∧ y_raw i = nI (R i)) (hq : q ≤ n) (hs : cd_S d R q = 0 ∨ cd_S d R q = 1) (h0 : cd_S d R q = 0 → q < n)
    (hI : cy_I (cd_v d R q) m g y_readOver y_readCounts y_readSizes y_readChars) (hz : cd_z (cd_v d R q).1 = 0)
    (H : ∀ (p : Nat) (rs ov : Int32) (rS rK : Nat → Int32), q ≤ p → cy_A d R n p → cy_J (cd_v d R p) m g ov y_readCounts rS rK → (cd_v d R p).2.2 = (cd_v d R q).2.2 →
      post 1 (y_records, y_drafted, y_length, nI m, nI (g + 1), rs, y_readFirst, ov, y_readEven, nI p, nI n, nI d, y_out, y_chars, y_sizes, y_counts, y_draft, y_raw, rK, rS, y_readCounts))
    (H0 : ¬ cd_ok (cd_S d R n) → ∀ (p rs ov : Int32) (rS rK : Nat → Int32), post 0 (y_records, y_drafted, y_length, nI m, nI (g + 1), rs, y_readFirst, ov, y_readEven, p, nI n, nI d, y_out, y_chars, y_sizes, y_counts, y_draft, y_raw, rK, rS, y_readCounts)) :
    wpY_readField post (y_records, y_drafted, y_length, nI m, nI g, y_readSize, y_readFirst, y_readOver, y_readEven, nI q, nI n, nI d, y_out, y_chars, y_sizes, y_counts, y_draft, y_raw, y_readChars, y_readSizes, y_readCounts) := by
  obtain ⟨b1, b2, b3⟩ := cy_vb hI (by omega)
  have hplain : (q < n → R q ≠ 7) → ∃ f, wY_readField_50 post 1 f y_records y_drafted y_length (nI m) (nI g) 0 y_readFirst y_readOver y_readEven (nI q) (nI n) (nI d) y_out y_chars y_sizes y_counts y_draft y_raw y_readChars y_readSizes y_readCounts := by
    intro h7
    have w := yr_plain (post := post) (m := m) (g := g) (q0 := q) (w2 := (cd_v d R q).2.2) hd hn hR (fun p ov rK hp hA hI' hw => by
      obtain ⟨c1, c2, c3⟩ := cy_vb hI' (by have := hA.1; omega)
      exact yr_103t c1 c2 c3 hI' (fun ov' rS hJ => H p _ ov' rS rK hp hA hJ hw)) (n - q) q (n - q + 1) y_readOver y_readChars (by omega) (by omega) (by omega) (by omega) (fun _ => h7) h0 hI rfl
    rw [hz] at w
    exact ⟨_, w⟩
  unfold wpY_readField
  dsimp only
  refine pk_le n q (fun z => hplain (fun x => absurd x (by omega))) (fun hlt => ⟨pk_in q 98 (by omega), ?_⟩)
  rw [nI_clamp (by omega), (hR q hlt).2]
  have r10 := (hR q hlt).1
  refine pk_eq (R q) 7 (fun c7 => nm_r (nI_1 q) ?_) (fun n7 => hplain (fun _ => n7))
  have s3 : cd_S d R (q + 1) = 3 := by rw [cd_Ss, c7]; exact cd_s01q hs
  have ev : cd_v d R (q + 1) = cd_v d R q := cd_vn (by rw [s3]; decide) (by rw [s3]; decide) (by rw [s3]; exact cd_ct03 hs)
  have w := yr_quoted (y_readSizes := y_readSizes) (post := fun r u => match u with | (y_records, y_drafted, y_length, y_readRecords, y_readFields, y_readSize, y_readFirst, y_readOver, y_readEven, y_pos, y_end, y_dialect, y_out, y_chars, y_sizes, y_counts, y_draft, y_raw, y_readChars, y_readSizes, y_readCounts) => wY_readField_103 post r y_records y_drafted y_length y_readRecords y_readFields y_readSize y_readFirst y_readOver y_readEven y_pos y_end y_dialect y_out y_chars y_sizes y_counts y_draft y_raw y_readChars y_readSizes y_readCounts) (m := m) (g := g) (q0 := q) (w2 := (cd_v d R q).2.2) hd hn hR (fun p ov rK hp hA hI' hw => by
      obtain ⟨c1, c2, c3⟩ := cy_vb hI' (by have := hA.1; omega)
      exact yr_103t c1 c2 c3 hI' (fun ov' rS hJ => H p _ ov' rS rK hp hA hJ hw)) (fun hno p rs ov rK => yr_103f b1 b2 (fun ov' rS => H0 hno p rs ov' rS rK)) (n - (q + 1)) (q + 1) (n - (q + 1) + 1) y_readOver y_readChars (by omega) (by omega) (by omega) (by omega) s3 (by rw [ev]; exact hI) (by rw [ev])
  rw [ev, hz] at w
  exact ⟨_, w⟩
end
end
section
/-! the reference's reading: records, and the whole text -/
theorem cd_nxt {d c : Nat} (h : cd_cr d = true) (hs : c ≠ cd_sp d) : cd_nx d c = (if c = 8 then 6 else 7) := by
  unfold cd_nx
  rw [if_neg hs]
  by_cases c8 : c = 8
  · rw [if_pos c8, if_pos c8, if_pos h]
  · rw [if_neg c8, if_neg c8]
    by_cases c9 : c = 9
    · rw [if_pos c9, if_pos h]
    · rw [if_neg c9]
theorem cd_nxf {d c : Nat} (h : cd_cr d = false) (hs : c ≠ cd_sp d) : cd_nx d c = (if c = 9 then 0 else 7) := by
  have h' : ¬ cd_cr d = true := by rw [h]; decide
  unfold cd_nx
  rw [if_neg hs]
  by_cases c8 : c = 8
  · rw [if_pos c8, if_neg h', if_neg (by omega)]
  · rw [if_neg c8]
    by_cases c9 : c = 9
    · rw [if_pos c9, if_pos c9, if_neg h']
    · rw [if_neg c9, if_neg c9]
theorem cd_e00 (d : Nat) (R : Nat → Nat) : cd_e d R 0 = (cd_t d R 0, 0, 0, false) := rfl
section
variable {y_records y_drafted y_length y_readRecords y_readFields y_readSize y_readFirst y_readOver y_readEven y_pos y_end y_dialect y_out : Int32} {y_chars y_sizes y_counts y_draft y_raw y_readChars y_readSizes y_readCounts : Nat → Int32}
variable {n d : Nat} {R : Nat → Nat}
theorem yr_end {post : Int32 → SY → Prop} {m g q f : Nat} (hd : d < 8) (hn : n ≤ 98) (hR : ∀ i, i < n → R i ≤ 10 ∧ y_raw i = nI (R i)) (hA : cy_A d R n q) (hns : q < n → R q ≠ cd_sp d) (hm : m < 1000) (hg : g < 1000)
    (hJ : cy_J (cd_v d R q) m g y_readOver y_readCounts y_readSizes y_readChars) (hE : cy_E m (cd_v d R q).2.2.1 (cd_v d R q).2.2.2 y_readEven y_readFirst)
    (H : ∀ (p : Nat) (ev fi : Int32) (rC : Nat → Int32), q ≤ p → (q < p ∨ p = n) → p ≤ n → (cd_S d R p = 0 ∨ (p = n ∧ cd_ok (cd_S d R n))) → cy_B (cd_e d R p) (m + 1) y_readOver rC y_readSizes y_readChars → cy_E (m + 1) (cd_e d R p).2.2.1 (cd_e d R p).2.2.2 ev fi →
      post 1 (y_records, y_drafted, y_length, nI (m + 1), nI (g + 1), y_readSize, fi, y_readOver, ev, nI p, nI n, nI d, y_out, y_chars, y_sizes, y_counts, y_draft, y_raw, y_readChars, y_readSizes, rC))
    (H0 : ¬ cd_ok (cd_S d R n) → ∀ (p ev fi : Int32) (rC : Nat → Int32), post 0 (y_records, y_drafted, y_length, nI (m + 1), nI (g + 1), y_readSize, fi, y_readOver, ev, p, nI n, nI d, y_out, y_chars, y_sizes, y_counts, y_draft, y_raw, y_readChars, y_readSizes, rC)) :
    wY_readRecord_7 post (f + 1) 0 y_records y_drafted y_length (nI m) (nI (g + 1)) y_readSize y_readFirst y_readOver y_readEven (nI q) (nI n) (nI d) y_out y_chars y_sizes y_counts y_draft y_raw y_readChars y_readSizes y_readCounts := by
  obtain ⟨hqn, hok, hnx, h0⟩ := hA
  have h155 : ∀ (ev fi : Int32) (rC : Nat → Int32), cy_B (cd_cw (cd_v d R q)) (m + 1) y_readOver rC y_readSizes y_readChars → cy_E (m + 1) (cd_cw (cd_v d R q)).2.2.1 (cd_cw (cd_v d R q)).2.2.2 ev fi →
      wY_readRecord_155 post y_records y_drafted y_length (nI m) (nI (g + 1)) y_readSize fi y_readOver ev (nI q) (nI n) (nI d) y_out y_chars y_sizes y_counts y_draft y_raw y_readChars y_readSizes rC := by
    intro ev fi rC hB hE'
    refine nm_r (nI_1 m) (pk_eq q n (fun e => ?_) (fun ne => ?_))
    · have s0 : cd_S d R q ≠ 0 := fun z => absurd (h0 z) (by omega)
      exact H q ev fi rC (Nat.le_refl q) (Or.inr e) hqn (Or.inr ⟨e, by rw [← e]; exact hok⟩) (by rw [cd_en s0]; exact hB) (by rw [cd_en s0]; exact hE')
    · have hlt : q < n := by omega
      obtain ⟨r10, rq⟩ := hR q hlt
      have hx := hnx hlt
      have hdead : cd_S d R (q + 1) = 7 → ¬ cd_ok (cd_S d R n) := by
        intro s7 z
        rw [cd_S7 s7 hlt] at z
        exact absurd z (by decide)
      rcases cd_a2 d hd with ⟨a, hc⟩ | ⟨a, hc⟩
      · rw [cd_nxt hc (hns hlt)] at hx
        have h244 : ¬ cd_ok (cd_S d R n) → wY_readRecord_267 post 1 0 y_records y_drafted y_length (nI (m + 1)) (nI (g + 1)) y_readSize fi y_readOver ev (nI q) (nI n) (nI d) y_out y_chars y_sizes y_counts y_draft y_raw y_readChars y_readSizes rC :=
          fun z => br_f (by decide) (nm_e ⟨rfl, H0 z _ _ _ _⟩)
        refine br_t a (br_f (by decide) ⟨pk_in q 98 (by omega), ?_⟩)
        rw [nI_clamp (by omega), rq]
        refine pk_eq (R q) 8 (fun c8 => ?_) (fun n8 => h244 (hdead ?_))
        · rw [if_pos c8] at hx
          rw [nI_1 q]
          refine pk_le n (q + 1) (fun z => h244 (fun x => ?_)) (fun hl2 => ⟨pk_in (q + 1) 98 (by omega), ?_⟩)
          · have en : q + 1 = n := by omega
            rw [← en, hx] at x
            exact absurd x (by decide)
          · obtain ⟨r10', rq'⟩ := hR (q + 1) hl2
            rw [nI_clamp (by omega), rq']
            refine pk_eq (R (q + 1)) 9 (fun c9 => ?_) (fun n9 => h244 (fun x => ?_))
            · have s0 : cd_S d R (q + 1 + 1) = 0 := by rw [cd_Ss, hx, c9]; exact cd_s6n
              have ev1 : cd_v d R (q + 1) = cd_v d R q := cd_vn (by rw [hx]; decide) (by rw [hx]; decide) (by rw [hx]; exact cd_ct6 _)
              have ee : cd_e d R (q + 1 + 1) = cd_cw (cd_v d R q) := by rw [cd_ve s0, ev1]
              refine br_f (by decide) (nm_r (cl_p2 q) ⟨rfl, ?_⟩)
              exact H (q + 1 + 1) ev fi rC (by omega) (Or.inl (by omega)) (by omega) (Or.inl s0) (by rw [ee]; exact hB) (by rw [ee]; exact hE')
            · have s7 : cd_S d R (q + 1 + 1) = 7 := by rw [cd_Ss, hx]; exact cd_s6o n9
              rw [cd_S7 s7 hl2] at x
              exact absurd x (by decide)
        · rw [if_neg n8] at hx
          exact hx
      · rw [cd_nxf hc (hns hlt)] at hx
        refine br_f a (br_t rfl ⟨pk_in q 98 (by omega), ?_⟩)
        rw [nI_clamp (by omega), rq]
        refine pk_eq (R q) 9 (fun c9 => br_t rfl (nm_r (nI_1 q) ⟨rfl, ?_⟩)) (fun n9 => br_t rfl (nm_e ⟨rfl, H0 (hdead ?_) _ _ _ _⟩))
        · rw [if_pos c9] at hx
          have ee : cd_e d R (q + 1) = cd_cw (cd_v d R q) := cd_ve hx
          exact H (q + 1) ev fi rC (by omega) (Or.inl (by omega)) (by omega) (Or.inl hx) (by rw [ee]; exact hB) (by rw [ee]; exact hE')
        · rw [if_neg n9] at hx
          exact hx
  have h130 : ∀ (ev fi : Int32), cy_E (m + 1) (cd_cw (cd_v d R q)).2.2.1 (cd_cw (cd_v d R q)).2.2.2 ev fi →
      wY_readRecord_130 post fi y_records y_drafted y_length (nI m) (nI (g + 1)) y_readSize y_readFirst y_readOver ev (nI q) (nI n) (nI d) y_out y_chars y_sizes y_counts y_draft y_raw y_readChars y_readSizes y_readCounts := by
    intro ev fi hE'
    exact pk_le 6 m (fun z => h155 ev fi _ (cy_JBo hJ z) hE') (fun z => ⟨pk_in m 6 z, nm_r (e' := upd y_readCounts m (nI (g + 1))) (by rw [nI_clamp (by omega)]) (h155 ev fi _ (cy_JBi hJ) hE')⟩)
  have e1 : (cd_v d R q).1.1 = m + 1 := hJ.1
  have e2 := (cy_pl hJ.1 hJ.2.1).2.1
  have k1 : (cd_cw (cd_v d R q)).2.2.1 = cd_mx (cd_v d R q).2.2.1 (g + 1) := by
    show cd_mx (cd_v d R q).2.2.1 (cd_f (cd_v d R q).1) = _
    rw [e2]
  have k2 : (cd_cw (cd_v d R q)).2.2.2 = ((cd_v d R q).2.2.2 || (decide (1 < m + 1) && !decide (g + 1 = (cd_v d R q).2.2.1))) := by
    show ((cd_v d R q).2.2.2 || (decide (1 < (cd_v d R q).1.1) && !decide (cd_f (cd_v d R q).1 = (cd_v d R q).2.2.1))) = _
    rw [e1, e2]
  have bm : (cd_v d R q).2.2.1 < 2 ^ 31 := by
    have := cd_mcb d R q
    show cd_mc d R q < 2 ^ 31
    omega
  have h108 : ∀ b : Bool, ((b = true ∧ ¬ y_readEven = 0 ∧ (m = 0 ∨ nI (g + 1) = y_readFirst)) ∨ (b = false ∧ (y_readEven = 0 ∨ (m ≠ 0 ∧ ¬ nI (g + 1) = y_readFirst)))) →
      wY_readRecord_108 post (cd_b b) y_records y_drafted y_length (nI m) (nI (g + 1)) y_readSize y_readFirst y_readOver y_readEven (nI q) (nI n) (nI d) y_out y_chars y_sizes y_counts y_draft y_raw y_readChars y_readSizes y_readCounts := by
    intro b hb
    have hb' : (cd_b b = 1 ∧ ¬ y_readEven = 0 ∧ (m = 0 ∨ nI (g + 1) = y_readFirst)) ∨ (cd_b b = 0 ∧ (y_readEven = 0 ∨ (m ≠ 0 ∧ ¬ nI (g + 1) = y_readFirst))) := by
      rcases hb with ⟨rfl, z⟩ | ⟨rfl, z⟩
      · exact Or.inl ⟨rfl, z⟩
      · exact Or.inr ⟨rfl, z⟩
    refine ⟨by cases b <;> rfl, by cases b <;> rfl, pk_eq m 0 (fun z => h130 _ _ ?_) (fun z => h130 _ _ ?_)⟩
    · rw [k1, k2]
      exact cy_Es hE bm (by omega) hb' (Or.inl ⟨z, rfl⟩)
    · rw [k1, k2]
      exact cy_Es hE bm (by omega) hb' (Or.inr ⟨z, rfl⟩)
  rw [wY_readRecord_7]
  refine br_t rfl (br_c (fun z => h108 false (Or.inr ⟨rfl, Or.inl z⟩)) (fun z => pk_eq m 0 (fun m0 => h108 true (Or.inl ⟨rfl, z, Or.inl m0⟩)) (fun m0 => br_c (fun zf => h108 true (Or.inl ⟨rfl, z, Or.inr zf⟩)) (fun zf => h108 false (Or.inr ⟨rfl, Or.inr ⟨m0, zf⟩⟩)))))
theorem yr_rloop {post : Int32 → SY → Prop} {m q0 : Nat} (hd : d < 8) (hn : n ≤ 98) (hR : ∀ i, i < n → R i ≤ 10 ∧ y_raw i = nI (R i)) (hq0 : q0 < n)
    (H : ∀ (p : Nat) (rf rs ov ev fi : Int32) (rC rS rK : Nat → Int32), q0 < p → p ≤ n → (cd_S d R p = 0 ∨ (p = n ∧ cd_ok (cd_S d R n))) → cy_B (cd_e d R p) (m + 1) ov rC rS rK → cy_E (m + 1) (cd_e d R p).2.2.1 (cd_e d R p).2.2.2 ev fi →
      post 1 (y_records, y_drafted, y_length, nI (m + 1), rf, rs, fi, ov, ev, nI p, nI n, nI d, y_out, y_chars, y_sizes, y_counts, y_draft, y_raw, rK, rS, rC))
    (H0 : ¬ cd_ok (cd_S d R n) → ∀ (rr rf rs ov ev fi p : Int32) (rC rS rK : Nat → Int32), post 0 (y_records, y_drafted, y_length, rr, rf, rs, fi, ov, ev, p, nI n, nI d, y_out, y_chars, y_sizes, y_counts, y_draft, y_raw, rK, rS, rC)) :
    ∀ (f q g : Nat) (rs ov : Int32) (rS rK : Nat → Int32), n - q + 1 < f → q ≤ n → q0 ≤ q → (cd_S d R q = 0 ∨ cd_S d R q = 1) → (cd_S d R q = 0 → q < n) →
      cy_I (cd_v d R q) m g ov y_readCounts rS rK → cd_z (cd_v d R q).1 = 0 → cy_E m (cd_v d R q).2.2.1 (cd_v d R q).2.2.2 y_readEven y_readFirst →
      wY_readRecord_7 post f 1 y_records y_drafted y_length (nI m) (nI g) rs y_readFirst ov y_readEven (nI q) (nI n) (nI d) y_out y_chars y_sizes y_counts y_draft y_raw rK rS y_readCounts := by
  intro f
  induction f with
  | zero =>
    intro q g rs ov rS rK hf
    exact absurd hf (Nat.not_lt_zero _)
  | succ f ih =>
    intro q g rs ov rS rK hf hqn h0q hs h0 hI hz hE
    obtain ⟨f', rfl⟩ : ∃ k, f = k + 1 := ⟨f - 1, by omega⟩
    obtain ⟨b1, b2, b3⟩ := cy_vb hI (by omega)
    rw [wY_readRecord_7]
    refine br_f (by decide) ?_
    refine yr_field hd hn hR hqn hs h0 hI hz (fun p rs' ov' rS' rK' hp hA hJ hw => ?_) (fun hno p rs' ov' rS' rK' => br_t rfl (H0 hno _ _ _ _ _ _ _ _ _ _))
    dsimp only
    have hpn := hA.1
    have hE' : cy_E m (cd_v d R p).2.2.1 (cd_v d R p).2.2.2 y_readEven y_readFirst := by rw [hw]; exact hE
    have hend : (p < n → R p ≠ cd_sp d) → wY_readRecord_7 post (f' + 1) 0 y_records y_drafted y_length (nI m) (nI (g + 1)) rs' y_readFirst ov' y_readEven (nI p) (nI n) (nI d) y_out y_chars y_sizes y_counts y_draft y_raw rK' rS' y_readCounts := by
      intro hns
      refine yr_end hd hn hR hA hns b1 b2 hJ hE' (fun p' ev fi rC h1 h2 h3 h4 h5 h6 => H p' _ _ _ ev fi rC rS' rK' ?_ h3 h4 h5 h6) (fun hno p' ev fi rC => H0 hno _ _ _ _ ev fi p' rC rS' rK')
      omega
    refine br_f (by decide) (pk_le n p (fun z => br_t rfl (hend (fun x => absurd x (by omega)))) (fun hlt => ⟨pk_in p 98 (by omega), yr_sp hd ?_⟩))
    obtain ⟨r10, rp⟩ := hR p hlt
    have hsp := cd_spr d
    rw [nI_clamp (by omega), rp]
    refine pk_eq (R p) (cd_sp d) (fun es => br_f (by decide) (nm_r (nI_1 p) ?_)) (fun ns => br_t rfl (hend (fun _ => ns)))
    have s1 : cd_S d R (p + 1) = 1 := by
      rw [hA.2.2.1 hlt]
      unfold cd_nx
      rw [if_pos es]
    have ev := cd_vf s1
    have ev' : cd_v d R (p + 1) = (cd_oF (cd_v d R p).1, (cd_v d R p).2.1, (cd_v d R p).2.2.1, (cd_v d R p).2.2.2) := ev
    refine ih (p + 1) (g + 1) rs' ov' rS' rK' (by omega) (by omega) (by omega) (Or.inr s1) (fun z => by omega) ?_ ?_ ?_
    · rw [ev']
      exact cy_JI hJ
    · rw [ev']
      exact cd_oFz _
    · rw [ev']
      exact hE'
theorem yr_loop {post : Int32 → SY → Prop} (hd : d < 8) (hn : n ≤ 98) (hR : ∀ i, i < n → R i ≤ 10 ∧ y_raw i = nI (R i))
    (H : cd_ok (cd_S d R n) → ∀ (rf rs ov ev fi p : Int32) (rC rS rK : Nat → Int32), cy_B (cd_e d R n) (cd_e d R n).1.1 ov rC rS rK → cy_E (cd_e d R n).1.1 (cd_e d R n).2.2.1 (cd_e d R n).2.2.2 ev fi →
      post 1 (y_records, y_drafted, y_length, nI (cd_e d R n).1.1, rf, rs, fi, ov, ev, p, nI n, nI d, y_out, y_chars, y_sizes, y_counts, y_draft, y_raw, rK, rS, rC))
    (H0 : ¬ cd_ok (cd_S d R n) → ∀ (rr rf rs ov ev fi p : Int32) (rC rS rK : Nat → Int32), post 0 (y_records, y_drafted, y_length, rr, rf, rs, fi, ov, ev, p, nI n, nI d, y_out, y_chars, y_sizes, y_counts, y_draft, y_raw, rK, rS, rC)) :
    ∀ (f p m : Nat) (rf rs ov ev fi : Int32) (rC rS rK : Nat → Int32), n - p < f → p ≤ n → (cd_S d R p = 0 ∨ (p = n ∧ cd_ok (cd_S d R n))) → cy_B (cd_e d R p) m ov rC rS rK → cy_E m (cd_e d R p).2.2.1 (cd_e d R p).2.2.2 ev fi →
      wY_reads_35 post f y_records y_drafted y_length (nI m) rf rs fi ov ev (nI p) (nI n) (nI d) y_out y_chars y_sizes y_counts y_draft y_raw rK rS rC := by
  intro f
  induction f with
  | zero =>
    intro p m rf rs ov ev fi rC rS rK hf
    exact absurd hf (Nat.not_lt_zero _)
  | succ f ih =>
    intro p m rf rs ov ev fi rC rS rK hf hpn hs hB hE
    rw [wY_reads_35]
    refine pk_le n p (fun z => ?_) (fun hlt => ?_)
    · have ep : p = n := by omega
      subst ep
      have em : (cd_e d R p).1.1 = m := hB.1
      have hok : cd_ok (cd_S d R p) := by
        rcases hs with z | z
        · exact Or.inl z
        · exact z.2
      have w := H hok rf rs ov ev fi (nI p) rC rS rK (by rw [em]; exact hB) (by rw [em]; exact hE)
      rw [em] at w
      exact w
    · have s0 : cd_S d R p = 0 := by
        rcases hs with z | z
        · exact z
        · exact absurd z.1 (by omega)
      have ev0 := cd_v0 s0
      refine ⟨n - p + 2, ?_⟩
      refine yr_rloop (q0 := p) hd hn hR hlt (fun p' rf' rs' ov' ev' fi' rC' rS' rK' h1 h2 h3 h4 h5 => br_f (by decide) (ih p' (m + 1) rf' rs' ov' ev' fi' rC' rS' rK' (by omega) h2 h3 h4 h5)) (fun hno rr' rf' rs' ov' ev' fi' p' rC' rS' rK' => br_t rfl (H0 hno rr' rf' rs' ov' ev' fi' p' rC' rS' rK')) (n - p + 2) p 0 rs ov rS rK (by omega) hpn (Nat.le_refl p) (Or.inl s0) (fun _ => hlt) ?_ ?_ ?_
      · rw [ev0]
        exact cy_BI hB
      · rw [ev0]
        exact cd_oRz _
      · rw [ev0]
        exact hE
/-- reads -/
theorem yr_reads {post : Int32 → SY → Prop} (hd : d < 8) (hn : n ≤ 98) (hR : ∀ i, i < n → R i ≤ 10 ∧ y_raw i = nI (R i))
    (H : cd_ok (cd_S d R n) → ∀ (rf rs ov ev fi p : Int32) (rC rS rK : Nat → Int32), cy_B (cd_e d R n) (cd_e d R n).1.1 ov rC rS rK → cy_E (cd_e d R n).1.1 (cd_e d R n).2.2.1 (cd_e d R n).2.2.2 ev fi →
      post 1 (y_records, y_drafted, y_length, nI (cd_e d R n).1.1, rf, rs, fi, ov, ev, p, nI n, nI d, y_out, y_chars, y_sizes, y_counts, y_draft, y_raw, rK, rS, rC))
    (H0 : ¬ cd_ok (cd_S d R n) → ∀ (rr rf rs ov ev fi p : Int32) (rC rS rK : Nat → Int32), post 0 (y_records, y_drafted, y_length, rr, rf, rs, fi, ov, ev, p, nI n, nI d, y_out, y_chars, y_sizes, y_counts, y_draft, y_raw, rK, rS, rC)) :
    wpY_reads post (y_records, y_drafted, y_length, y_readRecords, y_readFields, y_readSize, y_readFirst, y_readOver, y_readEven, y_pos, y_end, y_dialect, y_out, y_chars, y_sizes, y_counts, y_draft, y_raw, y_readChars, y_readSizes, y_readCounts) (nI d) (nI n) :=
  ⟨n + 1, yr_loop hd hn hR H H0 (n + 1) 0 0 y_readFields y_readSize 0 1 0 y_readCounts y_readSizes y_readChars (by omega) (Nat.zero_le n) (Or.inl rfl) ⟨rfl, cy_R0, false, rfl, fun z => absurd z (by decide), fun z => by rcases z with z | z | z <;> exact absurd z (Nat.not_lt_zero _)⟩ ⟨rfl, fun _ z => absurd z (by decide), fun _ => rfl⟩⟩
end
end
section
/-! read, sound, even, guess -/
section
variable {x_draftSize x_recordCount x_rawCount x_writingCount x_scanState x_scanSound x_scanRecords x_scanFields x_scanSize x_scanMostFields x_scanLongest x_scanUneven : Int32} {x_draftCharacters x_fieldCounts x_fieldSizes x_characters x_rawCharacters x_writing : Nat → Int32}
variable {y_records y_drafted y_length y_readRecords y_readFields y_readSize y_readFirst y_readOver y_readEven y_pos y_end y_dialect y_out : Int32} {y_chars y_sizes y_counts y_draft y_raw y_readChars y_readSizes y_readCounts : Nat → Int32}
variable {dn rn ln d : Nat} {D C Z K R : Nat → Nat}
theorem xd_t {post : Int32 → Prop} (hd : d < 8) (h : post 1) : wpX_isDialect post (nI d) :=
  br_f (nI_pos (by omega)) (br_f (nI_ge (b := 8) hd (by decide)) h)
theorem xd_f {post : Int32 → Prop} {x : Int32} (hx : x < 0 ∨ nI 8 ≤ x) (h : post 0) : wpX_isDialect post x := by
  rcases hx with z | z
  · exact br_t z h
  · exact br_f (ar_ge (by decide) z).1 (br_t z h)
theorem yd_t {post : Int32 → Prop} (hd : d < 8) (h : post 1) : wpY_isDialect post (y_records, y_drafted, y_length, y_readRecords, y_readFields, y_readSize, y_readFirst, y_readOver, y_readEven, y_pos, y_end, y_dialect, y_out, y_chars, y_sizes, y_counts, y_draft, y_raw, y_readChars, y_readSizes, y_readCounts) (nI d) :=
  br_f (nI_pos (by omega)) (br_f (fun z => by rw [cl_gt7 (by omega)] at z; omega) h)
theorem yd_f {post : Int32 → Prop} {x : Int32} (hx : x < 0 ∨ nI 8 ≤ x) (h : post 0) : wpY_isDialect post (y_records, y_drafted, y_length, y_readRecords, y_readFields, y_readSize, y_readFirst, y_readOver, y_readEven, y_pos, y_end, y_dialect, y_out, y_chars, y_sizes, y_counts, y_draft, y_raw, y_readChars, y_readSizes, y_readCounts) x := by
  rcases hx with z | z
  · exact br_t z h
  · exact br_f (ar_ge (by decide) z).1 (br_t (Int32.lt_of_lt_of_le (by decide) z) h)
theorem ar_d (x : Int32) : (x < 0 ∨ nI 8 ≤ x) ∨ ∃ d, d < 8 ∧ x = nI d := by
  rcases pk_ix x (n := 8) (by decide) with z | z | z
  · exact Or.inl (Or.inl z)
  · exact Or.inl (Or.inr z)
  · exact Or.inr z
theorem cd_okj {j : Nat} (hj : j ≤ ln) (hx : j = ln ∨ cd_S d R j = 7) (h : cd_ok (cd_S d R j)) : j = ln := by
  rcases hx with z | z
  · exact z
  · rw [z] at h
    exact absurd h (by decide)
theorem cd_nokj {j : Nat} (hj : j ≤ ln) (hx : j = ln ∨ cd_S d R j = 7) (h : ¬ cd_ok (cd_S d R j)) : ¬ cd_ok (cd_S d R ln) := by
  rcases hx with z | z
  · rw [← z]
    exact h
  · rw [cd_S7 z hj]
    decide
theorem cd_soj {j : Nat} (hj : j ≤ ln) (hx : j = ln ∨ cd_S d R j = 7) : cd_so d R j = cd_so d R ln := by
  rcases hx with z | z
  · rw [z]
  · exact (cd_sos7 z hj).symm
/-- reads, where only its answer counts -/
theorem yr_ok {post : Int32 → SY → Prop} {n : Nat} (hd : d < 8) (hn : n ≤ 98) (hR : ∀ i, i < n → R i ≤ 10 ∧ y_raw i = nI (R i))
    (H : ∀ (b : Bool) (rr rf rs fi ov ev p en di : Int32) (rK rS rC : Nat → Int32), (b = true ↔ cd_ok (cd_S d R n)) → post (cd_b b) (y_records, y_drafted, y_length, rr, rf, rs, fi, ov, ev, p, en, di, y_out, y_chars, y_sizes, y_counts, y_draft, y_raw, rK, rS, rC)) : wpY_reads post (y_records, y_drafted, y_length, y_readRecords, y_readFields, y_readSize, y_readFirst, y_readOver, y_readEven, y_pos, y_end, y_dialect, y_out, y_chars, y_sizes, y_counts, y_draft, y_raw, y_readChars, y_readSizes, y_readCounts) (nI d) (nI n) :=
  yr_reads hd hn hR (fun hok rf rs ov ev fi p rC rS rK _ _ => H true _ rf rs fi ov ev p _ _ rK rS rC ⟨fun _ => hok, fun _ => rfl⟩)
    (fun hno rr rf rs ov ev fi p rC rS rK => H false rr rf rs fi ov ev p _ _ rK rS rC ⟨fun z => absurd z (by decide), fun z => absurd z hno⟩)
theorem yb_back (a : Nat → Int32) (k : Nat) : upd (upd (upd (upd (upd a k 9) k 7) (k + 1) 7) k (a k)) (k + 1) (a (k + 1)) = a := by
  funext j
  by_cases h1 : j = k + 1
  · rw [h1, pk_us]
  · rw [pk_un h1]
    by_cases h0 : j = k
    · rw [h0, pk_us]
    · rw [pk_un h0, pk_un h1, pk_un h0, pk_un h0]
theorem yb_beg {post : Int32 → SY → Prop} {k : Nat} (hd : d < 8) (hk : k ≤ 96) (hR : ∀ i, i < k → R i ≤ 10 ∧ y_raw i = nI (R i))
    (H1 : cd_S d R k ≠ 7 → ∀ (rr rf rs fi ov ev p en di : Int32) (rK rS rC : Nat → Int32), post 1 (y_records, y_drafted, y_length, rr, rf, rs, fi, ov, ev, p, en, di, y_out, y_chars, y_sizes, y_counts, y_draft, y_raw, rK, rS, rC)) (H0 : cd_S d R k = 7 → ∀ (rr rf rs fi ov ev p en di : Int32) (rK rS rC : Nat → Int32), post 0 (y_records, y_drafted, y_length, rr, rf, rs, fi, ov, ev, p, en, di, y_out, y_chars, y_sizes, y_counts, y_draft, y_raw, rK, rS, rC)) : wpY_isBeginning post (y_records, y_drafted, y_length, y_readRecords, y_readFields, y_readSize, y_readFirst, y_readOver, y_readEven, y_pos, y_end, y_dialect, y_out, y_chars, y_sizes, y_counts, y_draft, y_raw, y_readChars, y_readSizes, y_readCounts) (nI d) (nI k) := by
  have hb := cd_beg (d := d) (cd_Sl d R k)
  have e1 : nI k + 1 = nI (k + 1) := nI_1 k
  have e2 : nI k + 2 = nI (k + 2) := cl_p2 k
  have c1 : (nI k).toNatClampNeg = k := nI_clamp (by omega)
  have c2 : (nI (k + 1)).toNatClampNeg = k + 1 := nI_clamp (by omega)
  have v1 : vp_in (nI k) 98 := pk_in k 98 (by omega)
  have v2 : vp_in (nI (k + 1)) 98 := pk_in (k + 1) 98 (by omega)
  have sA : cd_S d (cd_up R k 9) (k + 1) = cd_stp d (cd_S d R k) 9 := by
    rw [cd_Ss, cd_us]
    rw [cd_Sc (R := cd_up R k 9) (R' := R) (fun i hi => cd_un (by omega))]
  have sB : cd_S d (cd_up (cd_up R k 7) (k + 1) 7) (k + 1) = cd_stp d (cd_S d R k) 7 := by
    rw [cd_Ss, cd_un (by omega), cd_us]
    rw [cd_Sc (R := cd_up (cd_up R k 7) (k + 1) 7) (R' := R) (fun i hi => by rw [cd_un (by omega), cd_un (by omega)])]
  have sC : cd_S d (cd_up (cd_up R k 7) (k + 1) 7) (k + 2) = cd_stp d (cd_stp d (cd_S d R k) 7) 7 := by
    have e : cd_S d (cd_up (cd_up R k 7) (k + 1) 7) (k + 2) = cd_stp d (cd_S d (cd_up (cd_up R k 7) (k + 1) 7) (k + 1)) (cd_up (cd_up R k 7) (k + 1) 7 (k + 1)) := rfl
    rw [e, sB, cd_us]
  have hRA : ∀ i, i < k + 1 → cd_up R k 9 i ≤ 10 ∧ upd y_raw k 9 i = nI (cd_up R k 9 i) := by
    intro i hi
    by_cases e : i = k
    · rw [e, cd_us, pk_us]
      exact ⟨by omega, rfl⟩
    · rw [cd_un e, pk_un e]
      exact hR i (by omega)
  have hRB : ∀ i, i < k + 2 → cd_up (cd_up R k 7) (k + 1) 7 i ≤ 10 ∧ upd (upd (upd y_raw k 9) k 7) (k + 1) 7 i = nI (cd_up (cd_up R k 7) (k + 1) 7 i) := by
    intro i hi
    by_cases e : i = k + 1
    · rw [e, cd_us, pk_us]
      exact ⟨by omega, rfl⟩
    · rw [cd_un e, pk_un e]
      by_cases e0 : i = k
      · rw [e0, cd_us, pk_us]
        exact ⟨by omega, rfl⟩
      · rw [cd_un e0, pk_un e0, pk_un e0]
        exact hR i (by omega)
  -- the end: the raw text as it was
  have h91 : ∀ (bA bZ : Bool), (bA = true ↔ cd_ok (cd_stp d (cd_S d R k) 9)) → (bZ = true ↔ (cd_ok (cd_stp d (cd_S d R k) 7) ∨ cd_ok (cd_stp d (cd_stp d (cd_S d R k) 7) 7))) → ¬ cd_ok (cd_S d R k) →
      ∀ (rr rf rs fi ov ev p en di : Int32) (rK rS rC : Nat → Int32), wY_isBeginning_91 post (nI k) (y_raw k) (y_raw (k + 1)) (cd_b bA) (cd_b bZ) y_records y_drafted y_length rr rf rs fi ov ev p en di y_out y_chars y_sizes y_counts y_draft (upd (upd (upd y_raw k 9) k 7) (k + 1) 7) rK rS rC := by
    intro bA bZ hA hZ hno rr rf rs fi ov ev p en di rK rS rC
    refine ⟨v1, nm_r (e' := upd (upd (upd (upd y_raw k 9) k 7) (k + 1) 7) k (y_raw k)) (by rw [c1]) ?_⟩
    rw [e1]
    refine ⟨v2, nm_r (e' := y_raw) (by rw [c2]; exact yb_back y_raw k) ?_⟩
    cases bA with
    | true => exact br_f (by decide) (H1 (hb.mp (Or.inr (Or.inl (hA.mp rfl)))) rr rf rs fi ov ev p en di rK rS rC)
    | false =>
      refine br_t rfl ?_
      cases bZ with
      | true => exact br_f (by decide) (H1 (hb.mp (Or.inr (Or.inr (hZ.mp rfl)))) rr rf rs fi ov ev p en di rK rS rC)
      | false =>
        refine br_t rfl (H0 ?_ rr rf rs fi ov ev p en di rK rS rC)
        by_cases z : cd_S d R k = 7
        · exact z
        · rcases hb.mpr z with y | y | y
          · exact absurd y hno
          · exact absurd (hA.mpr y) (by decide)
          · exact absurd (hZ.mpr y) (by decide)
  unfold wpY_isBeginning
  dsimp only
  refine yr_ok hd (by omega) hR (fun b rr rf rs fi ov ev p en di rK rS rC hb0 => ?_)
  dsimp only
  cases b with
  | true => exact br_f (by decide) (H1 (hb.mp (Or.inl (hb0.mp rfl))) _ _ _ _ _ _ _ _ _ _ _ _)
  | false =>
    have hno : ¬ cd_ok (cd_S d R k) := fun z => absurd (hb0.mpr z) (by decide)
    refine br_t rfl ⟨v1, nm_r (e' := y_raw k) (by rw [c1]) ?_⟩
    rw [e1, e2]
    refine ⟨v2, nm_r (e' := y_raw (k + 1)) (by rw [c2]) ⟨v1, nm_r (e' := upd y_raw k 9) (by rw [c1]) ?_⟩⟩
    refine yr_ok hd (by omega) hRA (fun bA rr rf rs fi ov ev p en di rK rS rC hA => ?_)
    dsimp only
    rw [sA] at hA
    refine ⟨v1, nm_r (e' := upd (upd y_raw k 9) k 7) (by rw [c1]) ⟨v2, nm_r (e' := upd (upd (upd y_raw k 9) k 7) (k + 1) 7) (by rw [c2]) ?_⟩⟩
    refine yr_ok hd (by omega) (fun i hi => hRB i (by omega)) (fun bB rr rf rs fi ov ev p en di rK rS rC hB => ?_)
    dsimp only
    rw [sB] at hB
    cases bB with
    | true => exact br_f (by decide) (h91 bA true hA ⟨fun _ => Or.inl (hB.mp rfl), fun _ => rfl⟩ hno _ _ _ _ _ _ _ _ _ _ _ _)
    | false =>
      have nB : ¬ cd_ok (cd_stp d (cd_S d R k) 7) := fun z => absurd (hB.mpr z) (by decide)
      refine br_t rfl ?_
      refine yr_ok hd (by omega) hRB (fun bC rr rf rs fi ov ev p en di rK rS rC hC => ?_)
      dsimp only
      rw [sC] at hC
      cases bC with
      | true => exact br_f (by decide) (h91 bA true hA ⟨fun _ => Or.inr (hC.mp rfl), fun _ => rfl⟩ hno _ _ _ _ _ _ _ _ _ _ _ _)
      | false =>
        refine br_t rfl (h91 bA false hA ⟨fun z => absurd z (by decide), fun z => ?_⟩ hno _ _ _ _ _ _ _ _ _ _ _ _)
        rcases z with z | z
        · exact absurd z nB
        · exact absurd (hC.mpr z) (by decide)
theorem yb_loop {post : Int32 → SY → Prop} (hd : d < 8) (hl : ln ≤ 96) (hR : ∀ i, i < ln → R i ≤ 10 ∧ y_raw i = nI (R i))
    (H : ∀ (rr rf rs fi ov ev p en di : Int32) (rK rS rC : Nat → Int32), post (nI (cd_so d R ln)) (y_records, y_drafted, y_length, rr, rf, rs, fi, ov, ev, p, en, di, y_out, y_chars, y_sizes, y_counts, y_draft, y_raw, rK, rS, rC)) :
    ∀ (k f : Nat) (rr rf rs fi ov ev p en di : Int32) (rK rS rC : Nat → Int32), k ≤ ln → k < f → (∀ j, k < j → j ≤ ln → cd_S d R j = 7) → wY_sound_15 post (nI d) f (nI k) y_records y_drafted y_length rr rf rs fi ov ev p en di y_out y_chars y_sizes y_counts y_draft y_raw rK rS rC := by
  intro k
  induction k with
  | zero =>
    intro f rr rf rs fi ov ev p en di rK rS rC hk hf h7
    obtain ⟨f, rfl⟩ : ∃ m, f = m + 1 := ⟨f - 1, by omega⟩
    rw [wY_sound_15]
    have w := H rr rf rs fi ov ev p en di rK rS rC
    rw [cd_so_k (k := 0) hk (show cd_S d R 0 ≠ 7 from (by decide : (0 : Nat) ≠ 7)) h7] at w
    exact pk_le 0 0 (fun _ => w) (fun z => absurd z (by omega))
  | succ k ih =>
    intro f rr rf rs fi ov ev p en di rK rS rC hk hf h7
    obtain ⟨f, rfl⟩ : ∃ m, f = m + 1 := ⟨f - 1, by omega⟩
    rw [wY_sound_15]
    refine pk_le (k + 1) 0 (fun z => absurd z (by omega)) (fun _ => ?_)
    refine yb_beg hd (by omega) (fun i hi => hR i (by omega)) (fun hs rr rf rs fi ov ev p en di rK rS rC => br_f (by decide) ?_) (fun hs rr rf rs fi ov ev p en di rK rS rC => br_t rfl (nm_r (pk_m1 k) ?_))
    · have w := H rr rf rs fi ov ev p en di rK rS rC
      rw [cd_so_k (k := k + 1) hk hs h7] at w
      exact w
    · refine ih f rr rf rs fi ov ev p en di rK rS rC (by omega) (by omega) (fun j h1 h2 => ?_)
      by_cases e : j = k + 1
      · rw [e]
        exact hs
      · exact h7 j (by omega) h2
theorem i_vc_sound {k : Nat} {u : SX} {v : SY} (I : i_Rel k u v) (hk : k + 4 ≤ 2048) (v1 : Int32) : wpX_sound (fun r u' => wpY_sound (fun r' v' => r' = r ∧ i_Rel (k + 4) u' v') v v1) u v1 := by
  have I' := I
  obtain ⟨dn, rn, ln, D, C, Z, K, R, hX, hY⟩ := I
  obtain ⟨x_draftSize, x_recordCount, x_rawCount, x_writingCount, x_scanState, x_scanSound, x_scanRecords, x_scanFields, x_scanSize, x_scanMostFields, x_scanLongest, x_scanUneven, x_draftCharacters, x_fieldCounts, x_fieldSizes, x_characters, x_rawCharacters, x_writing⟩ := u
  obtain ⟨y_records, y_drafted, y_length, y_readRecords, y_readFields, y_readSize, y_readFirst, y_readOver, y_readEven, y_pos, y_end, y_dialect, y_out, y_chars, y_sizes, y_counts, y_draft, y_raw, y_readChars, y_readSizes, y_readCounts⟩ := v
  obtain ⟨a1, a2, a3, a4⟩ := hX
  obtain ⟨b1, b2, b3, b4⟩ := hY
  unfold wpX_sound wpY_sound
  dsimp only
  rcases ar_d v1 with hx | ⟨d, hd, rfl⟩
  · exact xd_f hx (br_t rfl (yd_f hx (br_t rfl ⟨rfl, I'⟩)))
  · refine xd_t hd (br_f (by decide) ?_)
    refine xs_scan hd a4 (fun j hj hx => ?_)
    dsimp only
    rw [cd_soj hj hx]
    obtain ⟨c1, rfl, c3⟩ := b4
    refine yd_t hd (br_f (by decide) ⟨ln + 1, ?_⟩)
    exact yb_loop hd c1 c3 (fun rr rf rs fi ov ev p en di rK rS rC => ⟨rfl, dn, rn, ln, D, C, Z, K, R, ⟨a1, a2, a3, a4.1, rfl, a4.2.2⟩, ⟨b1, b2, b3, c1, rfl, c3⟩⟩) ln (ln + 1) _ _ _ _ _ _ _ _ _ _ _ _ (Nat.le_refl ln) (by omega) (fun j h1 h2 => absurd h1 (by omega))
/-- even -/
def cd_ev (R : Nat → Nat) (ln : Nat) : Nat → Int32
  | 0 => 0
  | d + 1 => if cd_ok (cd_S d R ln) ∧ (cd_e d R ln).2.2.2 = false then cd_ev R ln d + ((1 : Int32) <<< (nI d &&& 31)) else cd_ev R ln d
theorem xe_loop {post : Int32 → SX → Prop} (hr : cd_tx 96 10 ln R x_rawCount x_rawCharacters)
    (H : ∀ (s1 s2 s3 s4 s5 s6 s7 s8 : Int32), post (cd_ev R ln 8) (x_draftSize, x_recordCount, x_rawCount, x_writingCount, s1, s2, s3, s4, s5, s6, s7, s8, x_draftCharacters, x_fieldCounts, x_fieldSizes, x_characters, x_rawCharacters, x_writing)) :
    ∀ (e d f : Nat) (s1 s2 s3 s4 s5 s6 s7 s8 : Int32), d + e = 8 → e < f → wX_even_4 post f (cd_ev R ln d) (nI d) x_draftSize x_recordCount x_rawCount x_writingCount s1 s2 s3 s4 s5 s6 s7 s8 x_draftCharacters x_fieldCounts x_fieldSizes x_characters x_rawCharacters x_writing := by
  intro e
  induction e with
  | zero =>
    intro d f s1 s2 s3 s4 s5 s6 s7 s8 hd hf
    obtain ⟨f, rfl⟩ : ∃ m, f = m + 1 := ⟨f - 1, by omega⟩
    have ed : d = 8 := by omega
    subst ed
    rw [wX_even_4]
    exact pk_le 8 8 (fun _ => H s1 s2 s3 s4 s5 s6 s7 s8) (fun z => absurd z (by omega))
  | succ e ih =>
    intro d f s1 s2 s3 s4 s5 s6 s7 s8 hd hf
    obtain ⟨f, rfl⟩ : ∃ m, f = m + 1 := ⟨f - 1, by omega⟩
    rw [wX_even_4]
    refine pk_le 8 d (fun z => absurd z (by omega)) (fun hd8 => ?_)
    have er : x_rawCount = nI ln := hr.2.1
    refine xs_scan hd8 hr (fun j hj hx => ?_)
    dsimp only
    have st : ∀ x : Int32, x = cd_ev R ln (d + 1) → ∀ (s1 s2 s3 s4 s5 s6 s7 s8 : Int32), wX_even_4 post f x (nI (d + 1)) x_draftSize x_recordCount (nI ln) x_writingCount s1 s2 s3 s4 s5 s6 s7 s8 x_draftCharacters x_fieldCounts x_fieldSizes x_characters x_rawCharacters x_writing := by
      intro x ex s1 s2 s3 s4 s5 s6 s7 s8
      rw [ex, ← er]
      exact ih (d + 1) f s1 s2 s3 s4 s5 s6 s7 s8 (by omega) (by omega)
    have edf : cd_ev R ln (d + 1) = if cd_ok (cd_S d R ln) ∧ (cd_e d R ln).2.2.2 = false then cd_ev R ln d + ((1 : Int32) <<< (nI d &&& 31)) else cd_ev R ln d := rfl
    refine xs_reads (cd_Sl d R j) (fun hok => br_f (by decide) ?_) (fun hno => br_t rfl (nm_r (nI_1 d) (st _ ?_ _ _ _ _ _ _ _ _)))
    · have ej := cd_okj hj hx hok
      subst ej
      cases hu : (cd_e d R j).2.2.2 with
      | false => exact br_t rfl (nm_e (nm_r (nI_1 d) (st _ (by rw [edf, if_pos ⟨hok, hu⟩]) _ _ _ _ _ _ _ _)))
      | true => exact br_f (by decide) (nm_r (nI_1 d) (st _ (by rw [edf, if_neg (fun z => by rw [hu] at z; exact absurd z.2 (by decide))]) _ _ _ _ _ _ _ _))
    · rw [edf, if_neg (fun z => cd_nokj hj hx hno z.1)]
theorem ye_loop {post : Int32 → SY → Prop} (hr : cd_tx 96 10 ln R y_length y_raw)
    (H : ∀ (rr rf rs fi ov ev p en di : Int32) (rK rS rC : Nat → Int32), post (cd_ev R ln 8) (y_records, y_drafted, y_length, rr, rf, rs, fi, ov, ev, p, en, di, y_out, y_chars, y_sizes, y_counts, y_draft, y_raw, rK, rS, rC)) :
    ∀ (e d f : Nat) (rr rf rs fi ov ev p en di : Int32) (rK rS rC : Nat → Int32), d + e = 8 → e < f → wY_even_4 post f (cd_ev R ln d) (nI d) y_records y_drafted y_length rr rf rs fi ov ev p en di y_out y_chars y_sizes y_counts y_draft y_raw rK rS rC := by
  intro e
  induction e with
  | zero =>
    intro d f rr rf rs fi ov ev p en di rK rS rC hd hf
    obtain ⟨f, rfl⟩ : ∃ m, f = m + 1 := ⟨f - 1, by omega⟩
    have ed : d = 8 := by omega
    subst ed
    rw [wY_even_4]
    exact pk_le 8 8 (fun _ => H rr rf rs fi ov ev p en di rK rS rC) (fun z => absurd z (by omega))
  | succ e ih =>
    intro d f rr rf rs fi ov ev p en di rK rS rC hd hf
    obtain ⟨f, rfl⟩ : ∃ m, f = m + 1 := ⟨f - 1, by omega⟩
    rw [wY_even_4]
    refine pk_le 8 d (fun z => absurd z (by omega)) (fun hd8 => ?_)
    obtain ⟨r1, rfl, r3⟩ := hr
    have edf : cd_ev R ln (d + 1) = if cd_ok (cd_S d R ln) ∧ (cd_e d R ln).2.2.2 = false then cd_ev R ln d + ((1 : Int32) <<< (nI d &&& 31)) else cd_ev R ln d := rfl
    have st : ∀ x : Int32, x = cd_ev R ln (d + 1) → ∀ (rr rf rs fi ov ev p en di : Int32) (rK rS rC : Nat → Int32), wY_even_4 post f x (nI (d + 1)) y_records y_drafted (nI ln) rr rf rs fi ov ev p en di y_out y_chars y_sizes y_counts y_draft y_raw rK rS rC := by
      intro x ex rr rf rs fi ov ev p en di rK rS rC
      rw [ex]
      exact ih (d + 1) f rr rf rs fi ov ev p en di rK rS rC (by omega) (by omega)
    refine yr_reads hd8 (by omega) r3 (fun hok rf rs ov ev fi p rC rS rK hB hE => br_f (by decide) ?_) (fun hno rr rf rs ov ev fi p rC rS rK => br_t rfl (nm_r (nI_1 d) (st _ ?_ _ _ _ _ _ _ _ _ _ _ _ _)))
    · have he := hE.1
      subst he
      cases hu : (cd_e d R ln).2.2.2 with
      | false => exact br_f (by decide) (nm_e (nm_r (nI_1 d) (st _ (by rw [edf, if_pos ⟨hok, hu⟩]) _ _ _ _ _ _ _ _ _ _ _ _)))
      | true => exact br_t rfl (nm_r (nI_1 d) (st _ (by rw [edf, if_neg (fun z => by rw [hu] at z; exact absurd z.2 (by decide))]) _ _ _ _ _ _ _ _ _ _ _ _))
    · rw [edf, if_neg (fun z => hno z.1)]
theorem i_vc_even {k : Nat} {u : SX} {v : SY} (I : i_Rel k u v) (hk : k + 4 ≤ 2048) : wpX_even (fun r u' => wpY_even (fun r' v' => r' = r ∧ i_Rel (k + 4) u' v') v) u := by
  obtain ⟨dn, rn, ln, D, C, Z, K, R, hX, hY⟩ := I
  obtain ⟨x_draftSize, x_recordCount, x_rawCount, x_writingCount, x_scanState, x_scanSound, x_scanRecords, x_scanFields, x_scanSize, x_scanMostFields, x_scanLongest, x_scanUneven, x_draftCharacters, x_fieldCounts, x_fieldSizes, x_characters, x_rawCharacters, x_writing⟩ := u
  obtain ⟨y_records, y_drafted, y_length, y_readRecords, y_readFields, y_readSize, y_readFirst, y_readOver, y_readEven, y_pos, y_end, y_dialect, y_out, y_chars, y_sizes, y_counts, y_draft, y_raw, y_readChars, y_readSizes, y_readCounts⟩ := v
  obtain ⟨a1, a2, a3, a4⟩ := hX
  obtain ⟨b1, b2, b3, b4⟩ := hY
  refine ⟨9, xe_loop a4 (fun s1 s2 s3 s4 s5 s6 s7 s8 => ⟨9, ye_loop b4 (fun rr rf rs fi ov ev p en di rK rS rC => ⟨rfl, dn, rn, ln, D, C, Z, K, R, ⟨a1, a2, a3, a4⟩, ⟨b1, b2, b3, b4⟩⟩) 8 0 9 _ _ _ _ _ _ _ _ _ _ _ _ (by omega) (by omega)⟩) 8 0 9 _ _ _ _ _ _ _ _ (by omega) (by omega)⟩
end
end
section
/-! guess, read -/
section
variable {x_draftSize x_recordCount x_rawCount x_writingCount x_scanState x_scanSound x_scanRecords x_scanFields x_scanSize x_scanMostFields x_scanLongest x_scanUneven : Int32} {x_draftCharacters x_fieldCounts x_fieldSizes x_characters x_rawCharacters x_writing : Nat → Int32}
variable {y_records y_drafted y_length y_readRecords y_readFields y_readSize y_readFirst y_readOver y_readEven y_pos y_end y_dialect y_out : Int32} {y_chars y_sizes y_counts y_draft y_raw y_readChars y_readSizes y_readCounts : Nat → Int32}
variable {dn rn ln d : Nat} {D C Z K R : Nat → Nat}
def cd_gs (R : Nat → Nat) (ln : Nat) : Nat → Int32 × Nat
  | 0 => (-4, 0)
  | d + 1 => if cd_ok (cd_S d R ln) ∧ (cd_e d R ln).2.2.2 = false ∧ (cd_gs R ln d).2 < (cd_e d R ln).2.2.1 then (nI d, (cd_e d R ln).2.2.1) else cd_gs R ln d
theorem cd_gs1 (d : Nat) : cd_gs R ln (d + 1) = if cd_ok (cd_S d R ln) ∧ (cd_e d R ln).2.2.2 = false ∧ (cd_gs R ln d).2 < (cd_e d R ln).2.2.1 then (nI d, (cd_e d R ln).2.2.1) else cd_gs R ln d := rfl
theorem cd_eb (d : Nat) (R : Nat → Nat) (n : Nat) : (cd_e d R n).2.2.1 ≤ n + 1 := by
  by_cases h : cd_S d R n = 0
  · rw [cd_e0 h]
    exact cd_mcb d R n
  · rw [cd_en h]
    show cd_mx (cd_mc d R n) (cd_f (cd_t' d R n)) ≤ n + 1
    rw [cd_mxe]
    exact ⟨cd_mcb d R n, (cd_tb1 d R n).2.2.2.2.1⟩
theorem cd_gsb (d : Nat) : (cd_gs R ln d).2 ≤ ln + 1 := by
  induction d with
  | zero => exact Nat.zero_le _
  | succ d ih =>
    rw [cd_gs1]
    split
    · exact cd_eb d R ln
    · exact ih
theorem cd_gs0 (d : Nat) : cd_gs R 0 d = (-4, 0) := by
  induction d with
  | zero => rfl
  | succ d ih =>
    rw [cd_gs1, if_neg (fun z => absurd z.2.2 (Nat.not_lt_zero _))]
    exact ih
theorem cd_e1p (d : Nat) (R : Nat → Nat) (n : Nat) (hn : 0 < n) : 1 ≤ (cd_e d R n).1.1 := by
  obtain ⟨m, rfl⟩ : ∃ m, n = m + 1 := ⟨n - 1, by omega⟩
  rw [(cd_e1 d R (m + 1)).1, cd_ts1]
  have h := (cd_t'p d R m).1
  unfold cd_ts
  split
  · exact h
  · split
    · exact h
    · exact h
theorem xg_loop {post : Int32 → SX → Prop} (hr : cd_tx 96 10 ln R x_rawCount x_rawCharacters)
    (H : ∀ (s1 s2 s3 s4 s5 s6 s7 s8 : Int32), post (cd_gs R ln 8).1 (x_draftSize, x_recordCount, x_rawCount, x_writingCount, s1, s2, s3, s4, s5, s6, s7, s8, x_draftCharacters, x_fieldCounts, x_fieldSizes, x_characters, x_rawCharacters, x_writing)) :
    ∀ (e d f : Nat) (s1 s2 s3 s4 s5 s6 s7 s8 : Int32), d + e = 8 → e < f → wX_guess_7 post f (cd_gs R ln d).1 (nI (cd_gs R ln d).2) (nI d) x_draftSize x_recordCount x_rawCount x_writingCount s1 s2 s3 s4 s5 s6 s7 s8 x_draftCharacters x_fieldCounts x_fieldSizes x_characters x_rawCharacters x_writing := by
  intro e
  induction e with
  | zero =>
    intro d f s1 s2 s3 s4 s5 s6 s7 s8 hd hf
    obtain ⟨f, rfl⟩ : ∃ m, f = m + 1 := ⟨f - 1, by omega⟩
    have ed : d = 8 := by omega
    subst ed
    rw [wX_guess_7]
    exact pk_le 8 8 (fun _ => H s1 s2 s3 s4 s5 s6 s7 s8) (fun z => absurd z (by omega))
  | succ e ih =>
    intro d f s1 s2 s3 s4 s5 s6 s7 s8 hd hf
    obtain ⟨f, rfl⟩ : ∃ m, f = m + 1 := ⟨f - 1, by omega⟩
    rw [wX_guess_7]
    refine pk_le 8 d (fun z => absurd z (by omega)) (fun hd8 => ?_)
    have er : x_rawCount = nI ln := hr.2.1
    have hl : ln ≤ 96 := hr.1
    have bg := cd_gsb (R := R) (ln := ln) d
    have be := cd_eb d R ln
    refine xs_scan hd8 hr (fun j hj hx => ?_)
    dsimp only
    have st : ∀ g : Int32 × Nat, g = cd_gs R ln (d + 1) → ∀ (s1 s2 s3 s4 s5 s6 s7 s8 : Int32), wX_guess_7 post f g.1 (nI g.2) (nI (d + 1)) x_draftSize x_recordCount (nI ln) x_writingCount s1 s2 s3 s4 s5 s6 s7 s8 x_draftCharacters x_fieldCounts x_fieldSizes x_characters x_rawCharacters x_writing := by
      intro g eg s1 s2 s3 s4 s5 s6 s7 s8
      rw [eg, ← er]
      exact ih (d + 1) f s1 s2 s3 s4 s5 s6 s7 s8 (by omega) (by omega)
    have st0 : ¬ (cd_ok (cd_S d R ln) ∧ (cd_e d R ln).2.2.2 = false ∧ (cd_gs R ln d).2 < (cd_e d R ln).2.2.1) → ∀ (s1 s2 s3 s4 s5 s6 s7 s8 : Int32), wX_guess_7 post f (cd_gs R ln d).1 (nI (cd_gs R ln d).2) (nI (d + 1)) x_draftSize x_recordCount (nI ln) x_writingCount s1 s2 s3 s4 s5 s6 s7 s8 x_draftCharacters x_fieldCounts x_fieldSizes x_characters x_rawCharacters x_writing := by
      intro z s1 s2 s3 s4 s5 s6 s7 s8
      exact st (cd_gs R ln d) (by rw [cd_gs1, if_neg z]) s1 s2 s3 s4 s5 s6 s7 s8
    refine xs_reads (cd_Sl d R j) (fun hok => br_f (by decide) ?_) (fun hno => br_t rfl (nm_r (nI_1 d) (st0 (fun z => cd_nokj hj hx hno z.1) _ _ _ _ _ _ _ _)))
    have ej := cd_okj hj hx hok
    subst ej
    cases hu : (cd_e d R j).2.2.2 with
    | true => exact br_f (by decide) (nm_r (nI_1 d) (st0 (fun z => by rw [hu] at z; exact absurd z.2.1 (by decide)) _ _ _ _ _ _ _ _))
    | false =>
      refine br_t rfl (pk_le (cd_e d R j).2.2.1 (cd_gs R j d).2 (fun z => nm_r (nI_1 d) (st0 (fun y => by omega) _ _ _ _ _ _ _ _)) (fun z => nm_r (nI_1 d) ?_))
      exact st (nI d, (cd_e d R j).2.2.1) (by rw [cd_gs1, if_pos ⟨hok, hu, z⟩]) _ _ _ _ _ _ _ _
theorem yg_loop {post : Int32 → SY → Prop} (hr : cd_tx 96 10 ln R y_length y_raw) (hp : 0 < ln)
    (H : ∀ (rr rf rs fi ov ev p en di : Int32) (rK rS rC : Nat → Int32), post (cd_gs R ln 8).1 (y_records, y_drafted, y_length, rr, rf, rs, fi, ov, ev, p, en, di, y_out, y_chars, y_sizes, y_counts, y_draft, y_raw, rK, rS, rC)) :
    ∀ (e d f : Nat) (rr rf rs fi ov ev p en di : Int32) (rK rS rC : Nat → Int32), d + e = 8 → e < f → wY_guess_7 post f (cd_gs R ln d).1 (nI (cd_gs R ln d).2) (nI d) y_records y_drafted y_length rr rf rs fi ov ev p en di y_out y_chars y_sizes y_counts y_draft y_raw rK rS rC := by
  intro e
  induction e with
  | zero =>
    intro d f rr rf rs fi ov ev p en di rK rS rC hd hf
    obtain ⟨f, rfl⟩ : ∃ m, f = m + 1 := ⟨f - 1, by omega⟩
    have ed : d = 8 := by omega
    subst ed
    rw [wY_guess_7]
    exact pk_le 8 8 (fun _ => H rr rf rs fi ov ev p en di rK rS rC) (fun z => absurd z (by omega))
  | succ e ih =>
    intro d f rr rf rs fi ov ev p en di rK rS rC hd hf
    obtain ⟨f, rfl⟩ : ∃ m, f = m + 1 := ⟨f - 1, by omega⟩
    rw [wY_guess_7]
    obtain ⟨r1, rfl, r3⟩ := hr
    have bg := cd_gsb (R := R) (ln := ln) d
    have be := cd_eb d R ln
    have e1 := cd_e1p d R ln hp
    refine pk_le 8 d (fun z => absurd z (by omega)) (fun hd8 => pk_le ln 0 (fun z => absurd z (by omega)) (fun _ => ?_))
    have st : ∀ g : Int32 × Nat, g = cd_gs R ln (d + 1) → ∀ (rr rf rs fi ov ev p en di : Int32) (rK rS rC : Nat → Int32), wY_guess_7 post f g.1 (nI g.2) (nI (d + 1)) y_records y_drafted (nI ln) rr rf rs fi ov ev p en di y_out y_chars y_sizes y_counts y_draft y_raw rK rS rC := by
      intro g eg rr rf rs fi ov ev p en di rK rS rC
      rw [eg]
      exact ih (d + 1) f rr rf rs fi ov ev p en di rK rS rC (by omega) (by omega)
    have st0 : ¬ (cd_ok (cd_S d R ln) ∧ (cd_e d R ln).2.2.2 = false ∧ (cd_gs R ln d).2 < (cd_e d R ln).2.2.1) → ∀ (rr rf rs fi ov ev p en di : Int32) (rK rS rC : Nat → Int32), wY_guess_7 post f (cd_gs R ln d).1 (nI (cd_gs R ln d).2) (nI (d + 1)) y_records y_drafted (nI ln) rr rf rs fi ov ev p en di y_out y_chars y_sizes y_counts y_draft y_raw rK rS rC := by
      intro z rr rf rs fi ov ev p en di rK rS rC
      exact st (cd_gs R ln d) (by rw [cd_gs1, if_neg z]) rr rf rs fi ov ev p en di rK rS rC
    refine yr_reads hd8 (by omega) r3 (fun hok rf rs ov ev fi p rC rS rK hB hE => br_f (by decide) ?_) (fun hno rr rf rs ov ev fi p rC rS rK => br_t rfl (nm_r (nI_1 d) (st0 (fun z => hno z.1) _ _ _ _ _ _ _ _ _ _ _ _)))
    obtain ⟨he, hfi, _⟩ := hE
    subst he
    cases hu : (cd_e d R ln).2.2.2 with
    | true => exact br_t rfl (nm_r (nI_1 d) (st0 (fun z => by rw [hu] at z; exact absurd z.2.1 (by decide)) _ _ _ _ _ _ _ _ _ _ _ _))
    | false =>
      have ef := hfi hu e1
      subst ef
      refine br_f (by decide) (pk_le (cd_e d R ln).2.2.1 (cd_gs R ln d).2 (fun z => nm_r (nI_1 d) (st0 (fun y => by omega) _ _ _ _ _ _ _ _ _ _ _ _)) (fun z => nm_r (nI_1 d) ?_))
      exact st (nI d, (cd_e d R ln).2.2.1) (by rw [cd_gs1, if_pos ⟨hok, hu, z⟩]) _ _ _ _ _ _ _ _ _ _ _ _
theorem i_vc_guess {k : Nat} {u : SX} {v : SY} (I : i_Rel k u v) (hk : k + 4 ≤ 2048) : wpX_guess (fun r u' => wpY_guess (fun r' v' => r' = r ∧ i_Rel (k + 4) u' v') v) u := by
  obtain ⟨dn, rn, ln, D, C, Z, K, R, hX, hY⟩ := I
  obtain ⟨x_draftSize, x_recordCount, x_rawCount, x_writingCount, x_scanState, x_scanSound, x_scanRecords, x_scanFields, x_scanSize, x_scanMostFields, x_scanLongest, x_scanUneven, x_draftCharacters, x_fieldCounts, x_fieldSizes, x_characters, x_rawCharacters, x_writing⟩ := u
  obtain ⟨y_records, y_drafted, y_length, y_readRecords, y_readFields, y_readSize, y_readFirst, y_readOver, y_readEven, y_pos, y_end, y_dialect, y_out, y_chars, y_sizes, y_counts, y_draft, y_raw, y_readChars, y_readSizes, y_readCounts⟩ := v
  obtain ⟨a1, a2, a3, a4⟩ := hX
  obtain ⟨b1, b2, b3, b4⟩ := hY
  refine ⟨9, xg_loop a4 (fun s1 s2 s3 s4 s5 s6 s7 s8 => ?_) 8 0 9 _ _ _ _ _ _ _ _ (by omega) (by omega)⟩
  by_cases h0 : ln = 0
  · subst h0
    rw [cd_gs0]
    refine ⟨1, ?_⟩
    rw [wY_guess_7]
    have e0 : y_length = nI 0 := b4.2.1
    refine pk_le 8 0 (fun z => absurd z (by omega)) (fun _ => pk_le 0 0 (fun _ => ?_) (fun z => absurd z (by omega)) e0)
    exact ⟨rfl, dn, rn, 0, D, C, Z, K, R, ⟨a1, a2, a3, a4⟩, ⟨b1, b2, b3, b4⟩⟩
  · exact ⟨9, yg_loop b4 (by omega) (fun rr rf rs fi ov ev p en di rK rS rC => ⟨rfl, dn, rn, ln, D, C, Z, K, R, ⟨a1, a2, a3, a4⟩, ⟨b1, b2, b3, b4⟩⟩) 8 0 9 _ _ _ _ _ _ _ _ _ _ _ _ (by omega) (by omega)⟩
/-- the reference takes over what it has read -/
theorem yc_108 {post : Int32 → SY → Prop} (H : ∀ ch : Nat → Int32, (∀ j, j < 180 → ch j = y_readChars j) → post y_records (y_records, y_drafted, y_length, y_readRecords, y_readFields, y_readSize, y_readFirst, y_readOver, y_readEven, y_pos, y_end, y_dialect, y_out, ch, y_sizes, y_counts, y_draft, y_raw, y_readChars, y_readSizes, y_readCounts)) :
    ∀ (e i f : Nat) (ch : Nat → Int32), i + e = 180 → e < f → (∀ j, j < i → ch j = y_readChars j) → wY_read_108 post y_records y_drafted y_length y_readRecords y_readFields y_readSize y_readFirst y_readOver y_readEven y_pos y_end y_dialect y_out f (nI i) ch y_sizes y_counts y_draft y_raw y_readChars y_readSizes y_readCounts := by
  intro e
  induction e with
  | zero =>
    intro i f ch hi hf hc
    obtain ⟨f, rfl⟩ : ∃ m, f = m + 1 := ⟨f - 1, by omega⟩
    rw [wY_read_108]
    exact pk_le 180 i (fun _ => H ch (fun j hj => hc j (by omega))) (fun z => absurd z (by omega))
  | succ e ih =>
    intro i f ch hi hf hc
    obtain ⟨f, rfl⟩ : ∃ m, f = m + 1 := ⟨f - 1, by omega⟩
    rw [wY_read_108]
    refine pk_le 180 i (fun z => absurd z (by omega)) (fun _ => ⟨pk_in i 180 (by omega), pk_in i 180 (by omega), nm_r (e' := upd ch i (y_readChars i)) (by rw [nI_clamp (by omega)]) (nm_r (nI_1 i) (ih (i + 1) f _ (by omega) (by omega) (fun j hj => ?_)))⟩)
    by_cases e : j = i
    · rw [e, pk_us]
    · rw [pk_un e]
      exact hc j (by omega)
theorem yc_82 {post : Int32 → SY → Prop} (H : ∀ sz ch : Nat → Int32, (∀ k, k < 30 → sz k = y_readSizes k) → (∀ j, j < 180 → ch j = y_readChars j) → post y_records (y_records, y_drafted, y_length, y_readRecords, y_readFields, y_readSize, y_readFirst, y_readOver, y_readEven, y_pos, y_end, y_dialect, y_out, ch, sz, y_counts, y_draft, y_raw, y_readChars, y_readSizes, y_readCounts)) :
    ∀ (e i f : Nat) (sz : Nat → Int32), i + e = 30 → e < f → (∀ j, j < i → sz j = y_readSizes j) → wY_read_82 post y_records y_drafted y_length y_readRecords y_readFields y_readSize y_readFirst y_readOver y_readEven y_pos y_end y_dialect y_out f (nI i) y_chars sz y_counts y_draft y_raw y_readChars y_readSizes y_readCounts := by
  intro e
  induction e with
  | zero =>
    intro i f sz hi hf hc
    obtain ⟨f, rfl⟩ : ∃ m, f = m + 1 := ⟨f - 1, by omega⟩
    rw [wY_read_82]
    exact pk_le 30 i (fun _ => ⟨181, yc_108 (fun ch hch => H sz ch (fun j hj => hc j (by omega)) hch) 180 0 181 y_chars (by omega) (by omega) (fun j hj => absurd hj (Nat.not_lt_zero j))⟩) (fun z => absurd z (by omega))
  | succ e ih =>
    intro i f sz hi hf hc
    obtain ⟨f, rfl⟩ : ∃ m, f = m + 1 := ⟨f - 1, by omega⟩
    rw [wY_read_82]
    refine pk_le 30 i (fun z => absurd z (by omega)) (fun _ => ⟨pk_in i 30 (by omega), pk_in i 30 (by omega), nm_r (e' := upd sz i (y_readSizes i)) (by rw [nI_clamp (by omega)]) (nm_r (nI_1 i) (ih (i + 1) f _ (by omega) (by omega) (fun j hj => ?_)))⟩)
    by_cases e : j = i
    · rw [e, pk_us]
    · rw [pk_un e]
      exact hc j (by omega)
theorem yc_54 {post : Int32 → SY → Prop} (hr : rn ≤ 6) (H : ∀ cn sz ch : Nat → Int32, (∀ r, r < rn → cn r = y_readCounts r) → (∀ k, k < 30 → sz k = y_readSizes k) → (∀ j, j < 180 → ch j = y_readChars j) → post (nI rn) (nI rn, y_drafted, y_length, y_readRecords, y_readFields, y_readSize, y_readFirst, y_readOver, y_readEven, y_pos, y_end, y_dialect, y_out, ch, sz, cn, y_draft, y_raw, y_readChars, y_readSizes, y_readCounts)) :
    ∀ (e i f : Nat) (cn : Nat → Int32), i + e = rn → e < f → (∀ j, j < i → cn j = y_readCounts j) → wY_read_54 post (nI rn) y_drafted y_length y_readRecords y_readFields y_readSize y_readFirst y_readOver y_readEven y_pos y_end y_dialect y_out f (nI i) y_chars y_sizes cn y_draft y_raw y_readChars y_readSizes y_readCounts := by
  intro e
  induction e with
  | zero =>
    intro i f cn hi hf hc
    obtain ⟨f, rfl⟩ : ∃ m, f = m + 1 := ⟨f - 1, by omega⟩
    rw [wY_read_54]
    exact pk_le rn i (fun _ => ⟨31, yc_82 (fun sz ch hsz hch => H cn sz ch (fun j hj => hc j (by omega)) hsz hch) 30 0 31 y_sizes (by omega) (by omega) (fun j hj => absurd hj (Nat.not_lt_zero j))⟩) (fun z => absurd z (by omega))
  | succ e ih =>
    intro i f cn hi hf hc
    obtain ⟨f, rfl⟩ : ∃ m, f = m + 1 := ⟨f - 1, by omega⟩
    rw [wY_read_54]
    refine pk_le rn i (fun z => absurd z (by omega)) (fun _ => ⟨pk_in i 6 (by omega), pk_in i 6 (by omega), nm_r (e' := upd cn i (y_readCounts i)) (by rw [nI_clamp (by omega)]) (nm_r (nI_1 i) (ih (i + 1) f _ (by omega) (by omega) (fun j hj => ?_)))⟩)
    by_cases e : j = i
    · rw [e, pk_us]
    · rw [pk_un e]
      exact hc j (by omega)
theorem yc_readN {post : Int32 → SY → Prop} (hd : d < 8) (hr : cd_tx 96 10 ln R y_length y_raw) (hno : ¬ cd_ok (cd_S d R ln)) (H : ∀ (rr rf rs fi ov ev p en di : Int32) (rK rS rC : Nat → Int32), post (-5) (y_records, y_drafted, y_length, rr, rf, rs, fi, ov, ev, p, en, di, y_out, y_chars, y_sizes, y_counts, y_draft, y_raw, rK, rS, rC)) : wpY_read post (y_records, y_drafted, y_length, y_readRecords, y_readFields, y_readSize, y_readFirst, y_readOver, y_readEven, y_pos, y_end, y_dialect, y_out, y_chars, y_sizes, y_counts, y_draft, y_raw, y_readChars, y_readSizes, y_readCounts) (nI d) := by
  obtain ⟨r1, rfl, r3⟩ := hr
  unfold wpY_read
  dsimp only
  refine yd_t hd (br_f (by decide) ?_)
  exact yr_reads hd (by omega) r3 (fun hok => absurd hok hno) (fun _ rr rf rs ov ev fi p rC rS rK => br_t rfl (H _ _ _ _ _ _ _ _ _ _ _ _))
theorem yc_readF {post : Int32 → SY → Prop} (hd : d < 8) (hr : cd_tx 96 10 ln R y_length y_raw) (hok : cd_ok (cd_S d R ln)) (hl : ¬ cd_lim (cd_e d R ln)) (H : ∀ (rr rf rs fi ov ev p en di : Int32) (rK rS rC : Nat → Int32), post (-2) (y_records, y_drafted, y_length, rr, rf, rs, fi, ov, ev, p, en, di, y_out, y_chars, y_sizes, y_counts, y_draft, y_raw, rK, rS, rC)) : wpY_read post (y_records, y_drafted, y_length, y_readRecords, y_readFields, y_readSize, y_readFirst, y_readOver, y_readEven, y_pos, y_end, y_dialect, y_out, y_chars, y_sizes, y_counts, y_draft, y_raw, y_readChars, y_readSizes, y_readCounts) (nI d) := by
  obtain ⟨r1, rfl, r3⟩ := hr
  unfold wpY_read
  dsimp only
  refine yd_t hd (br_f (by decide) ?_)
  refine yr_reads hd (by omega) r3 (fun _ rf rs ov ev fi p rC rS rK hB hE => br_f (by decide) ?_) (fun hno => absurd hok hno)
  obtain ⟨h1, h2, b, rfl, h4⟩ := hB
  have hb : b = true := h4.mpr (by unfold cd_lim at hl; omega)
  subst hb
  exact br_f (show ¬ cd_b true = 0 by decide) (H _ _ _ _ _ _ _ _ _ _ _ _)
theorem yc_readT {post : Int32 → SY → Prop} {cn' sz' ch' : Nat → Int32} (hd : d < 8) (hr : cd_tx 96 10 ln R y_length y_raw) (hok : cd_ok (cd_S d R ln)) (hl : cd_lim (cd_e d R ln))
    (hx : cd_tb (cd_t d R ln).1 (cd_t d R ln).2.1 (cd_t d R ln).2.2.1 (cd_t d R ln).2.2.2 cn' sz' ch')
    (H : ∀ (cn sz ch : Nat → Int32) (rr rf rs fi ov ev p en di : Int32) (rK rS rC : Nat → Int32), cd_tb (cd_t d R ln).1 (cd_t d R ln).2.1 (cd_t d R ln).2.2.1 (cd_t d R ln).2.2.2 cn sz ch → post (nI (cd_t d R ln).1) (nI (cd_t d R ln).1, y_drafted, y_length, rr, rf, rs, fi, ov, ev, p, en, di, y_out, ch, sz, cn, y_draft, y_raw, rK, rS, rC)) : wpY_read post (y_records, y_drafted, y_length, y_readRecords, y_readFields, y_readSize, y_readFirst, y_readOver, y_readEven, y_pos, y_end, y_dialect, y_out, y_chars, y_sizes, y_counts, y_draft, y_raw, y_readChars, y_readSizes, y_readCounts) (nI d) := by
  obtain ⟨r1, rfl, r3⟩ := hr
  unfold wpY_read
  dsimp only
  refine yd_t hd (br_f (by decide) ?_)
  refine yr_reads hd (by omega) r3 (fun _ rf rs ov ev fi p rC rS rK hB hE => br_f (by decide) ?_) (fun hno => absurd hok hno)
  have et := (cd_e1 d R ln).1
  obtain ⟨h1, h2, b, rfl, h4⟩ := hB
  have hb : b = false := by
    cases b with
    | false => rfl
    | true =>
      have := h4.mp rfl
      unfold cd_lim at hl
      omega
  subst hb
  have l6 : (cd_t d R ln).1 ≤ 6 := by
    have := hl.1
    rw [et] at this
    exact this
  rw [et] at h2 ⊢
  refine br_t rfl (pk_le (cd_t d R ln).1 6 (fun _ => ⟨7, ?_⟩) (fun z => absurd z (by omega)))
  exact yc_54 l6 (fun cn sz ch k1 k2 k3 => H cn sz ch _ _ _ _ _ _ _ _ _ _ _ _ (cy_tb h2 l6 hx k1 k2 k3)) (cd_t d R ln).1 0 7 y_counts (by omega) (by omega) (fun j hj => absurd hj (Nat.not_lt_zero j))
theorem i_vc_read {k : Nat} {u : SX} {v : SY} (I : i_Rel k u v) (hk : k + 4 ≤ 2048) (v1 : Int32) : wpX_read (fun r u' => wpY_read (fun r' v' => r' = r ∧ i_Rel (k + 4) u' v') v v1) u v1 := by
  have I' := I
  obtain ⟨dn, rn, ln, D, C, Z, K, R, hX, hY⟩ := I
  obtain ⟨x_draftSize, x_recordCount, x_rawCount, x_writingCount, x_scanState, x_scanSound, x_scanRecords, x_scanFields, x_scanSize, x_scanMostFields, x_scanLongest, x_scanUneven, x_draftCharacters, x_fieldCounts, x_fieldSizes, x_characters, x_rawCharacters, x_writing⟩ := u
  obtain ⟨y_records, y_drafted, y_length, y_readRecords, y_readFields, y_readSize, y_readFirst, y_readOver, y_readEven, y_pos, y_end, y_dialect, y_out, y_chars, y_sizes, y_counts, y_draft, y_raw, y_readChars, y_readSizes, y_readCounts⟩ := v
  obtain ⟨a1, a2, a3, a4⟩ := hX
  obtain ⟨b1, b2, b3, b4⟩ := hY
  unfold wpX_read
  dsimp only
  rcases ar_d v1 with hx | ⟨d, hd, rfl⟩
  · exact xd_f hx (br_t rfl (by unfold wpY_read; dsimp only; exact yd_f hx (br_t rfl ⟨rfl, I'⟩)))
  · refine xd_t hd (br_f (by decide) ?_)
    refine xs_scan hd a4 (fun j hj hx => ?_)
    dsimp only
    have er : x_rawCount = nI ln := a4.2.1
    have a4' : cd_tx 96 10 ln R (nI ln) x_rawCharacters := by rw [← er]; exact a4
    have hl96 : ln ≤ 96 := a4.1
    refine xs_reads (cd_Sl d R j) (fun hok => br_f (by decide) ?_) (fun hno => br_t rfl ?_)
    · have ej := cd_okj hj hx hok
      subst ej
      have q1 := cd_tb1 d R j
      have q2 := cd_eb d R j
      have q3 := cd_lgb d R j
      have q4 := cd_e1 d R j
      have hF : ¬ cd_lim (cd_e d R j) → ∀ s1 s2 s3 s4 s5 s6 s7 s8 : Int32, wpY_read (fun r' v' => r' = -2 ∧ i_Rel (k + 4) (x_draftSize, x_recordCount, nI j, x_writingCount, s1, s2, s3, s4, s5, s6, s7, s8, x_draftCharacters, x_fieldCounts, x_fieldSizes, x_characters, x_rawCharacters, x_writing) v') (y_records, y_drafted, y_length, y_readRecords, y_readFields, y_readSize, y_readFirst, y_readOver, y_readEven, y_pos, y_end, y_dialect, y_out, y_chars, y_sizes, y_counts, y_draft, y_raw, y_readChars, y_readSizes, y_readCounts) (nI d) := by
        intro hl s1 s2 s3 s4 s5 s6 s7 s8
        exact yc_readF hd b4 hok hl (fun rr rf rs fi ov ev p en di rK rS rC => ⟨rfl, dn, rn, j, D, C, Z, K, R, ⟨a1, a2, a3, a4'⟩, ⟨b1, b2, b3, b4⟩⟩)
      refine pk_lt 6 (cd_t d R j).1 (fun z => hF (fun y => ?_) _ _ _ _ _ _ _ _) (fun z1 => pk_lt 5 (cd_e d R j).2.2.1 (fun z => hF (fun y => ?_) _ _ _ _ _ _ _ _) (fun z2 => pk_le (cd_lg d R j) 6 (fun z3 => ?_) (fun z => hF (fun y => ?_) _ _ _ _ _ _ _ _)))
      · have := y.1
        rw [q4.1] at this
        omega
      · have := y.2.1
        omega
      · have hlim : cd_lim (cd_e d R j) := by
          refine ⟨?_, by omega, ?_⟩
          · rw [q4.1]
            omega
          · rw [q4.2]
            exact z3
        refine xt_fill hd a4' hlim (fun cn sz ch ht => ?_)
        dsimp only
        exact yc_readT hd b4 hok hlim ht (fun cn2 sz2 ch2 rr rf rs fi ov ev p en di rK rS rC ht2 => ⟨rfl, dn, (cd_t d R j).1, j, D, (cd_t d R j).2.1, (cd_t d R j).2.2.1, (cd_t d R j).2.2.2, R, ⟨a1, ⟨rfl, by omega⟩, ht, a4'⟩, ⟨b1, ⟨rfl, by omega⟩, ht2, b4⟩⟩)
      · have := y.2.2
        rw [q4.2] at this
        omega
    · exact yc_readN hd b4 (cd_nokj hj hx hno) (fun rr rf rs fi ov ev p en di rK rS rC => ⟨rfl, dn, rn, ln, D, C, Z, K, R, ⟨a1, a2, a3, a4'⟩, ⟨b1, b2, b3, b4⟩⟩)
end
end
section
/-! writing: the component -/
theorem cw_nqm {s b i n : Nat} {K : Nat → Nat} (hi : i ≤ n) (h : cw_nq s K b i = true) : cw_nq s K b n = true := by
  induction n with
  | zero =>
    have e : i = 0 := by omega
    rw [e] at h
    exact h
  | succ n ih =>
    by_cases e : i = n + 1
    · rw [← e]
      exact h
    · show (cw_nq s K b n || _) = true
      rw [ih (by omega), Bool.true_or]
theorem cw_nqt {s b i : Nat} {K : Nat → Nat} (h : K (b + i) = s ∨ 7 ≤ K (b + i)) : cw_nq s K b (i + 1) = true := by
  show (cw_nq s K b i || (decide (K (b + i) = s) || decide (7 ≤ K (b + i)))) = true
  rcases h with h | h
  · rw [decide_eq_true h, Bool.true_or, Bool.or_true]
  · rw [decide_eq_true h, Bool.or_true, Bool.or_true]
theorem cw_nqf {s b i : Nat} {K : Nat → Nat} (h0 : cw_nq s K b i = false) (h1 : K (b + i) ≠ s) (h2 : K (b + i) < 7) : cw_nq s K b (i + 1) = false := by
  show (cw_nq s K b i || (decide (K (b + i) = s) || decide (7 ≤ K (b + i)))) = false
  rw [h0, decide_eq_false h1, decide_eq_false (by omega)]
  rfl
section
variable {x_draftSize x_recordCount x_rawCount x_writingCount x_scanState x_scanSound x_scanRecords x_scanFields x_scanSize x_scanMostFields x_scanLongest x_scanUneven : Int32} {x_draftCharacters x_fieldCounts x_fieldSizes x_characters x_rawCharacters x_writing : Nat → Int32}
variable {dn rn ln d : Nat} {C Z K : Nat → Nat}
theorem xw_emit {post : SX → Prop} {w : cd_O} {c : Nat} (hw : cd_tx 456 10 w.1 w.2 x_writingCount x_writing) (h : w.1 < 456) (hc : c ≤ 10)
    (H : ∀ (wc : Int32) (wr : Nat → Int32), cd_tx 456 10 (cw_em w c).1 (cw_em w c).2 wc wr → post (x_draftSize, x_recordCount, x_rawCount, wc, x_scanState, x_scanSound, x_scanRecords, x_scanFields, x_scanSize, x_scanMostFields, x_scanLongest, x_scanUneven, x_draftCharacters, x_fieldCounts, x_fieldSizes, x_characters, x_rawCharacters, wr)) : wpX_emit post (x_draftSize, x_recordCount, x_rawCount, x_writingCount, x_scanState, x_scanSound, x_scanRecords, x_scanFields, x_scanSize, x_scanMostFields, x_scanLongest, x_scanUneven, x_draftCharacters, x_fieldCounts, x_fieldSizes, x_characters, x_rawCharacters, x_writing) (nI c) := by
  obtain ⟨h1, rfl, h3⟩ := hw
  unfold wpX_emit
  dsimp only
  refine pk_le 456 w.1 (fun z => absurd z (by omega)) (fun _ => ⟨pk_in w.1 456 h, nm_r (e' := upd x_writing w.1 (nI c)) (by rw [nI_clamp (by omega)]) (nm_r (nI_1 w.1) (H _ _ ?_))⟩)
  exact cd_txU ⟨h1, rfl, h3⟩ h hc
theorem xw_nq {post : Int32 → Prop} {s r f : Nat} (hs : s < 100) (hr : r < 6) (hk : 5 * r + f < 30) (hc : x_fieldCounts r = nI (C r)) (hc5 : C r ≤ 5) (hf : cd_fd Z K x_fieldSizes x_characters (5 * r + f))
    (H : post (cd_b (cw_q s C Z K r f))) :
    ∀ (e i n : Nat), i + e = Z (5 * r + f) → e < n → cw_nq s K (6 * (5 * r + f)) i = false → wX_needsQuotes_10 post (nI s) (nI r) (nI (5 * r + f)) x_draftSize x_recordCount x_rawCount x_writingCount x_scanState x_scanSound x_scanRecords x_scanFields x_scanSize x_scanMostFields x_scanLongest x_scanUneven x_draftCharacters x_fieldCounts x_fieldSizes x_characters x_rawCharacters x_writing n (nI i) := by
  obtain ⟨z6, zs, zc⟩ := hf
  have ek : (nI (5 * r + f)).toNatClampNeg = 5 * r + f := nI_clamp (by omega)
  have er : (nI r).toNatClampNeg = r := nI_clamp (by omega)
  have hT : cw_nq s K (6 * (5 * r + f)) (Z (5 * r + f)) = true → post 1 := by
    intro z
    unfold cw_q at H
    rw [z, Bool.true_or] at H
    exact H
  intro e
  induction e with
  | zero =>
    intro i n hi hn hq
    obtain ⟨n, rfl⟩ : ∃ m, n = m + 1 := ⟨n - 1, by omega⟩
    have ei : i = Z (5 * r + f) := by omega
    rw [ei] at hq
    unfold cw_q at H
    rw [hq, Bool.false_or] at H
    rw [wX_needsQuotes_10]
    rw [ek, zs, er, hc]
    refine ⟨pk_in (5 * r + f) 30 hk, pk_le (Z (5 * r + f)) i (fun _ => ⟨pk_in (5 * r + f) 30 hk, pk_eq (Z (5 * r + f)) 0 (fun z0 => ⟨pk_in r 6 hr, pk_eq (C r) 1 (fun c1 => ?_) (fun c1 => ?_)⟩) (fun z0 => ?_)⟩) (fun z => absurd z (by omega))⟩
    · rw [decide_eq_true z0, decide_eq_true c1] at H
      exact H
    · rw [decide_eq_false c1, Bool.and_false] at H
      exact H
    · rw [decide_eq_false z0, Bool.false_and] at H
      exact H
  | succ e ih =>
    intro i n hi hn hq
    obtain ⟨n, rfl⟩ : ∃ m, n = m + 1 := ⟨n - 1, by omega⟩
    obtain ⟨k9, kc⟩ := zc i (by omega)
    rw [wX_needsQuotes_10]
    rw [ek, zs]
    refine ⟨pk_in (5 * r + f) 30 hk, pk_le (Z (5 * r + f)) i (fun z => absurd z (by omega)) (fun _ => ⟨pk_in (6 * (5 * r + f) + i) 180 (by omega) (ar_6 _ _), nm_r (e' := nI (K (6 * (5 * r + f) + i))) (by rw [ar_6, nI_clamp (by omega), kc]) ?_⟩)⟩
    have ht : (K (6 * (5 * r + f) + i) = s ∨ 7 ≤ K (6 * (5 * r + f) + i)) → post 1 := fun z => hT (cw_nqm (i := i + 1) (by omega) (cw_nqt z))
    refine pk_eq (K (6 * (5 * r + f) + i)) s (fun z => ht (Or.inl z)) (fun ns => pk_eq (K (6 * (5 * r + f) + i)) 7 (fun z => ht (by omega)) (fun n7 => pk_eq (K (6 * (5 * r + f) + i)) 8 (fun z => ht (by omega)) (fun n8 => pk_eq (K (6 * (5 * r + f) + i)) 9 (fun z => ht (by omega)) (fun n9 => nm_r (nI_1 i) ?_))))
    exact ih (i + 1) n (by omega) (by omega) (cw_nqf hq ns (by omega))
theorem xw_ch {post : SX → Prop} {q k : Nat} {qt : Bool} {w : cd_O} (hq : q ≤ 10) (hk : k < 30) (hf : cd_fd Z K x_fieldSizes x_characters k) (hw : w.1 + 13 ≤ 456)
    (H : ∀ (wc : Int32) (wr : Nat → Int32), cd_tx 456 10 (cw_o qt (cw_ch q K (6 * k) w (Z k)) 7).1 (cw_o qt (cw_ch q K (6 * k) w (Z k)) 7).2 wc wr → post (x_draftSize, x_recordCount, x_rawCount, wc, x_scanState, x_scanSound, x_scanRecords, x_scanFields, x_scanSize, x_scanMostFields, x_scanLongest, x_scanUneven, x_draftCharacters, x_fieldCounts, x_fieldSizes, x_characters, x_rawCharacters, wr)) :
    ∀ (e i n : Nat) (wc : Int32) (wr : Nat → Int32), i + e = Z k → e < n → cd_tx 456 10 (cw_ch q K (6 * k) w i).1 (cw_ch q K (6 * k) w i).2 wc wr →
      wX_composeField_62 post (nI k) (nI (Z k)) (nI q) (cd_b qt) n (nI i) x_draftSize x_recordCount x_rawCount wc x_scanState x_scanSound x_scanRecords x_scanFields x_scanSize x_scanMostFields x_scanLongest x_scanUneven x_draftCharacters x_fieldCounts x_fieldSizes x_characters x_rawCharacters wr := by
  obtain ⟨z6, zs, zc⟩ := hf
  intro e
  induction e with
  | zero =>
    intro i n wc wr hi hn hx
    obtain ⟨n, rfl⟩ : ∃ m, n = m + 1 := ⟨n - 1, by omega⟩
    have ei : i = Z k := by omega
    have hb := cw_chb q K (6 * k) w i
    rw [wX_composeField_62]
    refine pk_le (Z k) i (fun _ => ?_) (fun z => absurd z (by omega))
    rw [ei] at hx hb
    cases qt with
    | false => exact br_t rfl (H wc wr hx)
    | true => exact br_f (by decide) (xw_emit (c := 7) hx (by omega) (by omega) (fun wc' wr' h' => H wc' wr' h'))
  | succ e ih =>
    intro i n wc wr hi hn hx
    obtain ⟨n, rfl⟩ : ∃ m, n = m + 1 := ⟨n - 1, by omega⟩
    obtain ⟨k9, kc⟩ := zc i (by omega)
    have hb := cw_chb q K (6 * k) w i
    have es : cw_ch q K (6 * k) w (i + 1) = cw_em (if K (6 * k + i) = 7 then cw_em (cw_ch q K (6 * k) w i) q else cw_ch q K (6 * k) w i) (K (6 * k + i)) := rfl
    rw [wX_composeField_62]
    refine pk_le (Z k) i (fun z => absurd z (by omega)) (fun _ => ⟨pk_in (6 * k + i) 180 (by omega) (ar_6 _ _), nm_r (e' := nI (K (6 * k + i))) (by rw [ar_6, nI_clamp (by omega), kc]) ?_⟩)
    have h97 : ∀ (w' : cd_O) (wc' : Int32) (wr' : Nat → Int32), w'.1 < 456 → cw_em w' (K (6 * k + i)) = cw_ch q K (6 * k) w (i + 1) → cd_tx 456 10 w'.1 w'.2 wc' wr' →
        wX_composeField_97 post (wX_composeField_62 post (nI k) (nI (Z k)) (nI q) (cd_b qt) n) (nI k) (nI (Z k)) (nI q) (cd_b qt) (nI i) (nI (K (6 * k + i))) x_draftSize x_recordCount x_rawCount wc' x_scanState x_scanSound x_scanRecords x_scanFields x_scanSize x_scanMostFields x_scanLongest x_scanUneven x_draftCharacters x_fieldCounts x_fieldSizes x_characters x_rawCharacters wr' := by
      intro w' wc' wr' hw' ee hx'
      refine xw_emit hx' hw' (by omega) (fun wc2 wr2 h2 => ?_)
      dsimp only
      rw [ee] at h2
      exact nm_r (nI_1 i) (ih (i + 1) n wc2 wr2 (by omega) (by omega) h2)
    refine pk_eq (K (6 * k + i)) 7 (fun c7 => ?_) (fun n7 => ?_)
    · refine xw_emit hx (by omega) hq (fun wc' wr' h' => ?_)
      dsimp only
      refine h97 (cw_em (cw_ch q K (6 * k) w i) q) wc' wr' ?_ ?_ h'
      · rw [cw_em1]
        omega
      · rw [es, if_pos c7]
    · refine h97 (cw_ch q K (6 * k) w i) wc wr (by omega) ?_ hx
      rw [es, if_neg n7]
theorem xw_field {post : SX → Prop} {r f : Nat} {w : cd_O} (hd : d < 8) (hr : r < 6) (hk : 5 * r + f < 30) (hc : x_fieldCounts r = nI (C r)) (hc5 : C r ≤ 5) (hf : cd_fd Z K x_fieldSizes x_characters (5 * r + f)) (hw : w.1 + 14 ≤ 456)
    (hx : cd_tx 456 10 w.1 w.2 x_writingCount x_writing)
    (H : ∀ (wc : Int32) (wr : Nat → Int32), cd_tx 456 10 (cw_f d C Z K r f w).1 (cw_f d C Z K r f w).2 wc wr → post (x_draftSize, x_recordCount, x_rawCount, wc, x_scanState, x_scanSound, x_scanRecords, x_scanFields, x_scanSize, x_scanMostFields, x_scanLongest, x_scanUneven, x_draftCharacters, x_fieldCounts, x_fieldSizes, x_characters, x_rawCharacters, wr)) :
    wpX_composeField post (x_draftSize, x_recordCount, x_rawCount, x_writingCount, x_scanState, x_scanSound, x_scanRecords, x_scanFields, x_scanSize, x_scanMostFields, x_scanLongest, x_scanUneven, x_draftCharacters, x_fieldCounts, x_fieldSizes, x_characters, x_rawCharacters, x_writing) (nI d) (nI r) (nI f) := by
  have hsp := cd_spr d
  have ek : (nI (5 * r + f)).toNatClampNeg = 5 * r + f := nI_clamp (by omega)
  have h30 : wX_composeField_30 post (nI d) (nI r) (nI f) (nI (5 * r + f)) (nI (Z (5 * r + f))) (nI (cw_bq d)) x_draftSize x_recordCount x_rawCount x_writingCount x_scanState x_scanSound x_scanRecords x_scanFields x_scanSize x_scanMostFields x_scanLongest x_scanUneven x_draftCharacters x_fieldCounts x_fieldSizes x_characters x_rawCharacters x_writing := by
    have hbq : cw_bq d ≤ 10 := by unfold cw_bq; split <;> omega
    unfold wX_composeField_30
    refine xs_sp hd ?_
    unfold wpX_needsQuotes
    dsimp only
    refine nm_r (ar_5 r f) ⟨Z (5 * r + f) + 1, xw_nq (by omega) hr hk hc hc5 hf ?_ (Z (5 * r + f)) 0 (Z (5 * r + f) + 1) (by omega) (by omega) rfl⟩
    unfold cw_f at H
    cases hq : cw_q (cd_sp d) C Z K r f with
    | false =>
      rw [hq] at H
      exact br_t rfl ⟨Z (5 * r + f) + 1, xw_ch (qt := false) (w := w) hbq hk hf (by omega) H (Z (5 * r + f)) 0 (Z (5 * r + f) + 1) _ _ (by omega) (by omega) hx⟩
    | true =>
      rw [hq] at H
      refine br_f (by decide) (xw_emit (c := 7) hx (by omega) (by omega) (fun wc wr h' => ?_))
      dsimp only
      exact ⟨Z (5 * r + f) + 1, xw_ch (qt := true) (w := cw_em w 7) hbq hk hf (by rw [cw_em1]; omega) H (Z (5 * r + f)) 0 (Z (5 * r + f) + 1) _ _ (by omega) (by omega) h'⟩
  unfold wpX_composeField
  dsimp only
  refine nm_r (ar_5 r f) ⟨pk_in (5 * r + f) 30 hk, nm_r (e' := nI (Z (5 * r + f))) (by rw [ek, hf.2.1]) ?_⟩
  unfold cw_bq at h30
  refine xs_es hd (fun e => br_t rfl ?_) (fun e => br_f (by decide) ?_)
  · rw [e] at h30
    exact h30
  · rw [e] at h30
    exact h30
theorem xw_rec {post : SX → Prop} {r : Nat} {w : cd_O} (hd : d < 8) (hr : r < 6) (hc : x_fieldCounts r = nI (C r)) (hc5 : C r ≤ 5) (hf : ∀ f, f < C r → cd_fd Z K x_fieldSizes x_characters (5 * r + f)) (hw : w.1 + 76 ≤ 456)
    (H : ∀ (wc : Int32) (wr : Nat → Int32), cd_tx 456 10 (cw_e d (cw_r d C Z K r w (C r))).1 (cw_e d (cw_r d C Z K r w (C r))).2 wc wr → post (x_draftSize, x_recordCount, x_rawCount, wc, x_scanState, x_scanSound, x_scanRecords, x_scanFields, x_scanSize, x_scanMostFields, x_scanLongest, x_scanUneven, x_draftCharacters, x_fieldCounts, x_fieldSizes, x_characters, x_rawCharacters, wr)) :
    ∀ (e f n : Nat) (wc : Int32) (wr : Nat → Int32), f + e = C r → e < n → cd_tx 456 10 (cw_r d C Z K r w f).1 (cw_r d C Z K r w f).2 wc wr →
      wX_composeRecord_16 post (nI d) (nI r) (nI (cd_sp d)) (nI (C r)) n (nI f) x_draftSize x_recordCount x_rawCount wc x_scanState x_scanSound x_scanRecords x_scanFields x_scanSize x_scanMostFields x_scanLongest x_scanUneven x_draftCharacters x_fieldCounts x_fieldSizes x_characters x_rawCharacters wr := by
  have hsp := cd_spr d
  intro e
  induction e with
  | zero =>
    intro f n wc wr hi hn hx
    obtain ⟨n, rfl⟩ : ∃ m, n = m + 1 := ⟨n - 1, by omega⟩
    have ef : f = C r := by omega
    have hb := cw_rb (d := d) (C := C) (Z := Z) (K := K) (r := r) w f (fun g hg => (hf g (by omega)).1)
    rw [ef] at hx hb
    rw [wX_composeRecord_16]
    refine pk_le (C r) f (fun _ => ?_) (fun z => absurd z (by omega))
    unfold cw_e at H
    have h60 : ∀ (w' : cd_O) (wc' : Int32) (wr' : Nat → Int32), w'.1 < 456 → w' = cw_o (cd_cr d) (cw_r d C Z K r w (C r)) 8 → cd_tx 456 10 w'.1 w'.2 wc' wr' → wX_composeRecord_60 post x_draftSize x_recordCount x_rawCount wc' x_scanState x_scanSound x_scanRecords x_scanFields x_scanSize x_scanMostFields x_scanLongest x_scanUneven x_draftCharacters x_fieldCounts x_fieldSizes x_characters x_rawCharacters wr' := by
      intro w' wc' wr' hw' ee hx'
      refine xw_emit (c := 9) hx' hw' (by omega) (fun wc2 wr2 h2 => ?_)
      dsimp only
      rw [ee] at h2
      exact H wc2 wr2 h2
    refine xs_cr hd (fun hcr => br_f (by decide) (xw_emit (c := 8) hx (by omega) (by omega) (fun wc' wr' h' => ?_))) (fun hcr => br_t rfl ?_)
    · dsimp only
      exact h60 (cw_em (cw_r d C Z K r w (C r)) 8) wc' wr' (by rw [cw_em1]; omega) (by rw [hcr]; rfl) h'
    · exact h60 (cw_r d C Z K r w (C r)) wc wr (by omega) (by rw [hcr]; rfl) hx
  | succ e ih =>
    intro f n wc wr hi hn hx
    obtain ⟨n, rfl⟩ : ∃ m, n = m + 1 := ⟨n - 1, by omega⟩
    have hb := cw_rb (d := d) (C := C) (Z := Z) (K := K) (r := r) w f (fun g hg => (hf g (by omega)).1)
    have es : cw_r d C Z K r w (f + 1) = cw_f d C Z K r f (if f = 0 then cw_r d C Z K r w f else cw_em (cw_r d C Z K r w f) (cd_sp d)) := rfl
    rw [wX_composeRecord_16]
    refine pk_le (C r) f (fun z => absurd z (by omega)) (fun _ => ?_)
    have h33 : ∀ (w' : cd_O) (wc' : Int32) (wr' : Nat → Int32), w'.1 + 14 ≤ 456 → cw_f d C Z K r f w' = cw_r d C Z K r w (f + 1) → cd_tx 456 10 w'.1 w'.2 wc' wr' →
        wX_composeRecord_33 post (wX_composeRecord_16 post (nI d) (nI r) (nI (cd_sp d)) (nI (C r)) n) (nI d) (nI r) (nI (cd_sp d)) (nI (C r)) (nI f) x_draftSize x_recordCount x_rawCount wc' x_scanState x_scanSound x_scanRecords x_scanFields x_scanSize x_scanMostFields x_scanLongest x_scanUneven x_draftCharacters x_fieldCounts x_fieldSizes x_characters x_rawCharacters wr' := by
      intro w' wc' wr' hw' ee hx'
      refine xw_field (w := w') hd hr (by omega) hc hc5 (hf f (by omega)) hw' hx' (fun wc2 wr2 h2 => ?_)
      dsimp only
      rw [ee] at h2
      exact nm_r (nI_1 f) (ih (f + 1) n wc2 wr2 (by omega) (by omega) h2)
    refine pk_le f 0 (fun f0 => ?_) (fun f0 => ?_)
    · exact h33 (cw_r d C Z K r w f) wc wr (by omega) (by rw [es, if_pos (by omega)]) hx
    · refine xw_emit hx (by omega) (by omega) (fun wc' wr' h' => ?_)
      dsimp only
      exact h33 (cw_em (cw_r d C Z K r w f) (cd_sp d)) wc' wr' (by rw [cw_em1]; omega) (by rw [es, if_neg (by omega)]) h'
theorem xw_all {post : SX → Prop} (hd : d < 8) (hr : rn ≤ 6) (ht : cd_tb rn C Z K x_fieldCounts x_fieldSizes x_characters)
    (H : ∀ (wc : Int32) (wr : Nat → Int32), cd_tx 456 10 (cw_a d C Z K rn).1 (cw_a d C Z K rn).2 wc wr → post (x_draftSize, nI rn, x_rawCount, wc, x_scanState, x_scanSound, x_scanRecords, x_scanFields, x_scanSize, x_scanMostFields, x_scanLongest, x_scanUneven, x_draftCharacters, x_fieldCounts, x_fieldSizes, x_characters, x_rawCharacters, wr)) :
    ∀ (e r n : Nat) (wc : Int32) (wr : Nat → Int32), r + e = rn → e < n → cd_tx 456 10 (cw_a d C Z K r).1 (cw_a d C Z K r).2 wc wr →
      wX_compose_7 post (nI d) n (nI r) x_draftSize (nI rn) x_rawCount wc x_scanState x_scanSound x_scanRecords x_scanFields x_scanSize x_scanMostFields x_scanLongest x_scanUneven x_draftCharacters x_fieldCounts x_fieldSizes x_characters x_rawCharacters wr := by
  intro e
  induction e with
  | zero =>
    intro r n wc wr hi hn hx
    obtain ⟨n, rfl⟩ : ∃ m, n = m + 1 := ⟨n - 1, by omega⟩
    have ef : r = rn := by omega
    rw [ef] at hx
    rw [wX_compose_7]
    exact pk_le rn r (fun _ => H wc wr hx) (fun z => absurd z (by omega))
  | succ e ih =>
    intro r n wc wr hi hn hx
    obtain ⟨n, rfl⟩ : ∃ m, n = m + 1 := ⟨n - 1, by omega⟩
    obtain ⟨t1, t2, t3, t4⟩ := ht r (by omega)
    have hb := cw_ab (d := d) ht r (by omega)
    have er : (nI r).toNatClampNeg = r := nI_clamp (by omega)
    rw [wX_compose_7]
    refine pk_le rn r (fun z => absurd z (by omega)) (fun _ => ?_)
    unfold wpX_composeRecord
    dsimp only
    refine xs_sp hd ⟨pk_in r 6 (by omega), nm_r (e' := nI (C r)) (by rw [er, t3]) ⟨C r + 1, xw_rec (w := cw_a d C Z K r) hd (by omega) t3 t2 t4 (by omega) (fun wc' wr' h' => ?_) (C r) 0 (C r + 1) wc wr (by omega) (by omega) hx⟩⟩
    exact nm_r (nI_1 r) (ih (r + 1) n wc' wr' (by omega) (by omega) h')
theorem xw_compose {post : SX → Prop} (hd : d < 8) (hr : x_recordCount = nI rn) (hr6 : rn ≤ 6) (ht : cd_tb rn C Z K x_fieldCounts x_fieldSizes x_characters)
    (H : ∀ (wc : Int32) (wr : Nat → Int32), cd_tx 456 10 (cw_a d C Z K rn).1 (cw_a d C Z K rn).2 wc wr → post (x_draftSize, nI rn, x_rawCount, wc, x_scanState, x_scanSound, x_scanRecords, x_scanFields, x_scanSize, x_scanMostFields, x_scanLongest, x_scanUneven, x_draftCharacters, x_fieldCounts, x_fieldSizes, x_characters, x_rawCharacters, wr)) :
    wpX_compose post (x_draftSize, x_recordCount, x_rawCount, x_writingCount, x_scanState, x_scanSound, x_scanRecords, x_scanFields, x_scanSize, x_scanMostFields, x_scanLongest, x_scanUneven, x_draftCharacters, x_fieldCounts, x_fieldSizes, x_characters, x_rawCharacters, x_writing) (nI d) := by
  subst hr
  exact ⟨rn + 1, xw_all hd hr6 ht H rn 0 (rn + 1) _ _ (by omega) (by omega) cd_tx0⟩
theorem xw_copy {post : Int32 → SX → Prop} {m : Nat} {W : Nat → Nat} (hm : m ≤ 96) (hW : ∀ i, i < m → W i ≤ 10 ∧ x_writing i = nI (W i))
    (H : ∀ rw' : Nat → Int32, cd_tx 96 10 m W (nI m) rw' → post (nI m) (x_draftSize, x_recordCount, nI m, nI m, x_scanState, x_scanSound, x_scanRecords, x_scanFields, x_scanSize, x_scanMostFields, x_scanLongest, x_scanUneven, x_draftCharacters, x_fieldCounts, x_fieldSizes, x_characters, rw', x_writing)) :
    ∀ (e i n : Nat) (rw' : Nat → Int32), i + e = m → e < n → (∀ j, j < i → rw' j = nI (W j)) →
      wX_write_28 post x_draftSize x_recordCount x_rawCount (nI m) x_scanState x_scanSound x_scanRecords x_scanFields x_scanSize x_scanMostFields x_scanLongest x_scanUneven n (nI i) x_draftCharacters x_fieldCounts x_fieldSizes x_characters rw' x_writing := by
  intro e
  induction e with
  | zero =>
    intro i n rw' hi hn hx
    obtain ⟨n, rfl⟩ : ∃ m, n = m + 1 := ⟨n - 1, by omega⟩
    rw [wX_write_28]
    exact pk_le m i (fun _ => H rw' ⟨hm, rfl, fun j hj => ⟨(hW j hj).1, hx j (by omega)⟩⟩) (fun z => absurd z (by omega))
  | succ e ih =>
    intro i n rw' hi hn hx
    obtain ⟨n, rfl⟩ : ∃ m, n = m + 1 := ⟨n - 1, by omega⟩
    rw [wX_write_28]
    refine pk_le m i (fun z => absurd z (by omega)) (fun _ => ⟨pk_in i 456 (by omega), pk_in i 96 (by omega), nm_r (e' := upd rw' i (nI (W i))) (by rw [nI_clamp (by omega), (hW i (by omega)).2]) (nm_r (nI_1 i) (ih (i + 1) n _ (by omega) (by omega) (fun j hj => ?_)))⟩)
    by_cases e : j = i
    · rw [e, pk_us]
    · rw [pk_un e]
      exact hx j (by omega)
end
end
section
/-! writing: the reference; written, write -/
/-- what the reference has written: with st it stores, without it the raw text stays -/
def yw_I (st : Bool) (raw0 : Nat → Int32) (w : cd_O) (out : Int32) (raw : Nat → Int32) : Prop :=
  w.1 ≤ 456 ∧ out = nI w.1 ∧ (st = true → ∀ j, j < w.1 → j < 96 → raw j = nI (w.2 j)) ∧ (st = false → raw = raw0)
section
variable {x_draftSize x_recordCount x_rawCount x_writingCount x_scanState x_scanSound x_scanRecords x_scanFields x_scanSize x_scanMostFields x_scanLongest x_scanUneven : Int32} {x_draftCharacters x_fieldCounts x_fieldSizes x_characters x_rawCharacters x_writing : Nat → Int32}
variable {y_records y_drafted y_length y_readRecords y_readFields y_readSize y_readFirst y_readOver y_readEven y_pos y_end y_dialect y_out : Int32} {y_chars y_sizes y_counts y_draft y_raw y_readChars y_readSizes y_readCounts : Nat → Int32}
variable {dn rn ln d : Nat} {D C Z K R : Nat → Nat} {st : Bool} {raw0 : Nat → Int32}
theorem yw_emit {post : SY → Prop} {w : cd_O} {c : Nat} (hw : yw_I st raw0 w y_out y_raw) (h : w.1 < 456)
    (H : ∀ (o : Int32) (a : Nat → Int32), yw_I st raw0 (cw_em w c) o a → post (y_records, y_drafted, y_length, y_readRecords, y_readFields, y_readSize, y_readFirst, y_readOver, y_readEven, y_pos, y_end, y_dialect, o, y_chars, y_sizes, y_counts, y_draft, a, y_readChars, y_readSizes, y_readCounts)) : wpY_emit post (y_records, y_drafted, y_length, y_readRecords, y_readFields, y_readSize, y_readFirst, y_readOver, y_readEven, y_pos, y_end, y_dialect, y_out, y_chars, y_sizes, y_counts, y_draft, y_raw, y_readChars, y_readSizes, y_readCounts) (nI c) (cd_b st) := by
  obtain ⟨h1, rfl, h3, h4⟩ := hw
  unfold wpY_emit
  dsimp only
  cases st with
  | false => exact br_t rfl (nm_r (nI_1 w.1) (H _ _ ⟨h, rfl, fun z => absurd z (by decide), h4⟩))
  | true =>
    refine br_f (by decide) (pk_le 96 w.1 (fun z => nm_r (nI_1 w.1) (H _ _ ⟨h, rfl, fun _ j h5 h6 => ?_, fun z => absurd z (by decide)⟩)) (fun z => ⟨pk_in w.1 98 (by omega), nm_r (e' := upd y_raw w.1 (nI c)) (by rw [nI_clamp (by omega)]) (nm_r (nI_1 w.1) (H _ _ ⟨h, rfl, fun _ j h5 h6 => ?_, fun z => absurd z (by decide)⟩))⟩))
    · show y_raw j = nI (cd_up w.2 w.1 c j)
      rw [cd_un (by omega)]
      exact h3 rfl j (by omega) h6
    · show upd y_raw w.1 (nI c) j = nI (cd_up w.2 w.1 c j)
      by_cases e : j = w.1
      · rw [e, cd_us, pk_us]
      · rw [cd_un e, pk_un e]
        have h5' : j < w.1 + 1 := h5
        exact h3 rfl j (by omega) h6
theorem yw_nq {post : Int32 → Prop} {r f : Nat} (hd : d < 8) (hr : r < 6) (hf5 : f < 5) (hc : y_counts r = nI (C r)) (hc1 : 1 ≤ C r) (hc5 : C r ≤ 5) (hf : cd_fd Z K y_sizes y_chars (5 * r + f))
    (H : post (cd_b (!cw_q (cd_sp d) C Z K r f))) :
    ∀ (e i n : Nat), i + e = Z (5 * r + f) → e < n → cw_nq (cd_sp d) K (6 * (5 * r + f)) i = false → wY_isPlainField_2 post (nI (5 * r + f)) y_records y_drafted y_length y_readRecords y_readFields y_readSize y_readFirst y_readOver y_readEven y_pos y_end (nI d) y_out y_chars y_sizes y_counts y_draft y_raw y_readChars y_readSizes y_readCounts n (nI i) := by
  obtain ⟨z6, zs, zc⟩ := hf
  have ek : (nI (5 * r + f)).toNatClampNeg = 5 * r + f := nI_clamp (by omega)
  have ed : nI (5 * r + f) / 5 = nI r := by
    have h := pk_div (a := 5 * r + f) (d := 5) (by omega) (by decide) (by decide)
    rw [show (5 * r + f) / 5 = r by omega] at h
    exact h
  have er : (nI r).toNatClampNeg = r := nI_clamp (by omega)
  have hT : cw_nq (cd_sp d) K (6 * (5 * r + f)) (Z (5 * r + f)) = true → post 0 := by
    intro z
    unfold cw_q at H
    rw [z, Bool.true_or] at H
    exact H
  intro e
  induction e with
  | zero =>
    intro i n hi hn hq
    obtain ⟨n, rfl⟩ : ∃ m, n = m + 1 := ⟨n - 1, by omega⟩
    have ei : i = Z (5 * r + f) := by omega
    rw [ei] at hq
    unfold cw_q at H
    rw [hq, Bool.false_or] at H
    rw [wY_isPlainField_2]
    rw [ek, zs, ed, er, hc]
    refine ⟨pk_in (5 * r + f) 30 (by omega), pk_le (Z (5 * r + f)) i (fun _ => ⟨pk_in (5 * r + f) 30 (by omega), pk_lt 0 (Z (5 * r + f)) (fun z0 => ?_) (fun z0 => ⟨by decide, pk_in r 6 hr, pk_le (C r) 1 (fun c1 => ?_) (fun c1 => ?_)⟩)⟩) (fun z => absurd z (by omega))⟩
    · rw [decide_eq_false (by omega), Bool.false_and] at H
      exact H
    · rw [decide_eq_true (by omega), decide_eq_true (by omega)] at H
      exact H
    · rw [decide_eq_false (p := C r = 1) (by omega), Bool.and_false] at H
      exact H
  | succ e ih =>
    intro i n hi hn hq
    obtain ⟨n, rfl⟩ : ∃ m, n = m + 1 := ⟨n - 1, by omega⟩
    obtain ⟨k9, kc⟩ := zc i (by omega)
    rw [wY_isPlainField_2]
    rw [ek, zs]
    refine ⟨pk_in (5 * r + f) 30 (by omega), pk_le (Z (5 * r + f)) i (fun z => absurd z (by omega)) (fun _ => ⟨pk_in (6 * (5 * r + f) + i) 180 (by omega) (ar_6' _ _), nm_r (e' := nI (K (6 * (5 * r + f) + i))) (by rw [ar_6', nI_clamp (by omega), kc]) ?_⟩)⟩
    refine yr_pl hd (by omega) (fun c1 c2 => br_f (by decide) (nm_r (nI_1 i) ?_)) (fun z => br_t rfl (hT (cw_nqm (i := i + 1) (by omega) (cw_nqt z))))
    exact ih (i + 1) n (by omega) (by omega) (cw_nqf hq c1 c2)
theorem yw_ch {post : SY → Prop} {k : Nat} {qt : Bool} {w : cd_O} (hd : d < 8) (hk : k < 30) (hf : cd_fd Z K y_sizes y_chars k) (hw : w.1 + 13 ≤ 456)
    (H : ∀ (o : Int32) (a : Nat → Int32), yw_I st raw0 (cw_o qt (cw_ch (cw_bq d) K (6 * k) w (Z k)) 7) o a → post (y_records, y_drafted, y_length, y_readRecords, y_readFields, y_readSize, y_readFirst, y_readOver, y_readEven, y_pos, y_end, nI d, o, y_chars, y_sizes, y_counts, y_draft, a, y_readChars, y_readSizes, y_readCounts)) :
    ∀ (e i n : Nat) (o : Int32) (a : Nat → Int32), i + e = Z k → e < n → yw_I st raw0 (cw_ch (cw_bq d) K (6 * k) w i) o a →
      wY_writeField_20 post (nI k) (cd_b st) (cd_b (!qt)) n (nI i) y_records y_drafted y_length y_readRecords y_readFields y_readSize y_readFirst y_readOver y_readEven y_pos y_end (nI d) o y_chars y_sizes y_counts y_draft a y_readChars y_readSizes y_readCounts := by
  obtain ⟨z6, zs, zc⟩ := hf
  have ek : (nI k).toNatClampNeg = k := nI_clamp (by omega)
  intro e
  induction e with
  | zero =>
    intro i n o a hi hn hx
    obtain ⟨n, rfl⟩ : ∃ m, n = m + 1 := ⟨n - 1, by omega⟩
    have ei : i = Z k := by omega
    have hb := cw_chb (cw_bq d) K (6 * k) w i
    rw [wY_writeField_20]
    dsimp only
    rw [ek, zs]
    refine ⟨pk_in k 30 hk, pk_le (Z k) i (fun _ => ?_) (fun z => absurd z (by omega))⟩
    rw [ei] at hx hb
    cases qt with
    | false => exact br_f (by decide) (H o a hx)
    | true => exact br_t rfl (yw_emit (c := 7) hx (by omega) (fun o' a' h' => H o' a' h'))
  | succ e ih =>
    intro i n o a hi hn hx
    obtain ⟨n, rfl⟩ : ∃ m, n = m + 1 := ⟨n - 1, by omega⟩
    obtain ⟨k9, kc⟩ := zc i (by omega)
    have hb := cw_chb (cw_bq d) K (6 * k) w i
    have es : cw_ch (cw_bq d) K (6 * k) w (i + 1) = cw_em (if K (6 * k + i) = 7 then cw_em (cw_ch (cw_bq d) K (6 * k) w i) (cw_bq d) else cw_ch (cw_bq d) K (6 * k) w i) (K (6 * k + i)) := rfl
    rw [wY_writeField_20]
    dsimp only
    rw [ek, zs]
    refine ⟨pk_in k 30 hk, pk_le (Z k) i (fun z => absurd z (by omega)) (fun _ => ⟨pk_in (6 * k + i) 180 (by omega) (ar_6' _ _), nm_r (e' := nI (K (6 * k + i))) (by rw [ar_6', nI_clamp (by omega), kc]) ?_⟩)⟩
    have h73 : ∀ (w' : cd_O) (o' : Int32) (a' : Nat → Int32), w'.1 < 456 → cw_em w' (K (6 * k + i)) = cw_ch (cw_bq d) K (6 * k) w (i + 1) → yw_I st raw0 w' o' a' →
        wY_writeField_73 post (wY_writeField_20 post (nI k) (cd_b st) (cd_b (!qt)) n) (nI k) (cd_b st) (cd_b (!qt)) (nI i) (nI (K (6 * k + i))) y_records y_drafted y_length y_readRecords y_readFields y_readSize y_readFirst y_readOver y_readEven y_pos y_end (nI d) o' y_chars y_sizes y_counts y_draft a' y_readChars y_readSizes y_readCounts := by
      intro w' o' a' hw' ee hx'
      refine yw_emit hx' hw' (fun o2 a2 h2 => ?_)
      dsimp only
      rw [ee] at h2
      exact nm_r (nI_1 i) (ih (i + 1) n o2 a2 (by omega) (by omega) h2)
    refine pk_eq (K (6 * k + i)) 7 (fun c7 => ?_) (fun n7 => ?_)
    · have h69 : wY_writeField_69 post (wY_writeField_20 post (nI k) (cd_b st) (cd_b (!qt)) n) (nI k) (cd_b st) (cd_b (!qt)) (nI i) (nI (K (6 * k + i))) (nI (cw_bq d)) y_records y_drafted y_length y_readRecords y_readFields y_readSize y_readFirst y_readOver y_readEven y_pos y_end (nI d) o y_chars y_sizes y_counts y_draft a y_readChars y_readSizes y_readCounts := by
        refine yw_emit hx (by omega) (fun o' a' h' => ?_)
        dsimp only
        refine h73 (cw_em (cw_ch (cw_bq d) K (6 * k) w i) (cw_bq d)) o' a' ?_ ?_ h'
        · rw [cw_em1]
          omega
        · rw [es, if_pos c7]
      have bq : cw_bq d = if cd_es d = true then 10 else 7 := rfl
      rcases cd_a4 d hd with ⟨z, e⟩ | ⟨z, e⟩
      · rw [show cw_bq d = 7 by rw [bq, e]; rfl] at h69
        exact br_t z h69
      · rw [show cw_bq d = 10 by rw [bq, e]; rfl] at h69
        exact br_f z h69
    · refine h73 (cw_ch (cw_bq d) K (6 * k) w i) o a (by omega) ?_ hx
      rw [es, if_neg n7]
theorem yw_field {post : SY → Prop} {r f : Nat} {w : cd_O} (hd : d < 8) (hr : r < 6) (hf5 : f < 5) (hc : y_counts r = nI (C r)) (hc1 : 1 ≤ C r) (hc5 : C r ≤ 5) (hf : cd_fd Z K y_sizes y_chars (5 * r + f)) (hw : w.1 + 14 ≤ 456)
    (hx : yw_I st raw0 w y_out y_raw)
    (H : ∀ (o : Int32) (a : Nat → Int32), yw_I st raw0 (cw_f d C Z K r f w) o a → post (y_records, y_drafted, y_length, y_readRecords, y_readFields, y_readSize, y_readFirst, y_readOver, y_readEven, y_pos, y_end, nI d, o, y_chars, y_sizes, y_counts, y_draft, a, y_readChars, y_readSizes, y_readCounts)) :
    wpY_writeField post (y_records, y_drafted, y_length, y_readRecords, y_readFields, y_readSize, y_readFirst, y_readOver, y_readEven, y_pos, y_end, nI d, y_out, y_chars, y_sizes, y_counts, y_draft, y_raw, y_readChars, y_readSizes, y_readCounts) (nI (5 * r + f)) (cd_b st) := by
  unfold wpY_writeField
  dsimp only
  unfold wpY_isPlainField
  dsimp only
  refine ⟨Z (5 * r + f) + 1, yw_nq hd hr hf5 hc hc1 hc5 hf ?_ (Z (5 * r + f)) 0 (Z (5 * r + f) + 1) (by omega) (by omega) rfl⟩
  unfold cw_f at H
  cases hq : cw_q (cd_sp d) C Z K r f with
  | false =>
    rw [hq] at H
    exact br_f (by decide) ⟨Z (5 * r + f) + 1, yw_ch (qt := false) (w := w) hd (by omega) hf (by omega) H (Z (5 * r + f)) 0 (Z (5 * r + f) + 1) _ _ (by omega) (by omega) hx⟩
  | true =>
    rw [hq] at H
    refine br_t rfl (yw_emit (c := 7) hx (by omega) (fun o a h' => ?_))
    dsimp only
    exact ⟨Z (5 * r + f) + 1, yw_ch (qt := true) (w := cw_em w 7) hd (by omega) hf (by rw [cw_em1]; omega) H (Z (5 * r + f)) 0 (Z (5 * r + f) + 1) _ _ (by omega) (by omega) h'⟩
theorem yw_rec {post : SY → Prop} {J : Int32 → Int32 → Int32 → Int32 → Int32 → Int32 → Int32 → Int32 → Int32 → Int32 → Int32 → Int32 → Int32 → Int32 → (Nat → Int32) → (Nat → Int32) → (Nat → Int32) → (Nat → Int32) → (Nat → Int32) → (Nat → Int32) → (Nat → Int32) → (Nat → Int32) → Prop} {r : Nat} {w : cd_O} (hd : d < 8) (hr : r < 6) (hc : y_counts r = nI (C r)) (hc1 : 1 ≤ C r) (hc5 : C r ≤ 5) (hf : ∀ f, f < C r → cd_fd Z K y_sizes y_chars (5 * r + f)) (hw : w.1 + 76 ≤ 456)
    (H : ∀ (o : Int32) (a : Nat → Int32), yw_I st raw0 (cw_e d (cw_r d C Z K r w (C r))) o a → J (nI (r + 1)) y_records y_drafted y_length y_readRecords y_readFields y_readSize y_readFirst y_readOver y_readEven y_pos y_end (nI d) o y_chars y_sizes y_counts y_draft a y_readChars y_readSizes y_readCounts) :
    ∀ (e f n : Nat) (o : Int32) (a : Nat → Int32), f + e = C r → e < n → yw_I st raw0 (cw_r d C Z K r w f) o a →
      wY_writeAll_23 post J (nI d) (cd_b st) (nI r) n (nI f) y_records y_drafted y_length y_readRecords y_readFields y_readSize y_readFirst y_readOver y_readEven y_pos y_end (nI d) o y_chars y_sizes y_counts y_draft a y_readChars y_readSizes y_readCounts := by
  have hsp := cd_spr d
  have er : (nI r).toNatClampNeg = r := nI_clamp (by omega)
  intro e
  induction e with
  | zero =>
    intro f n o a hi hn hx
    obtain ⟨n, rfl⟩ : ∃ m, n = m + 1 := ⟨n - 1, by omega⟩
    have ef : f = C r := by omega
    have hb := cw_rb (d := d) (C := C) (Z := Z) (K := K) (r := r) w f (fun g hg => (hf g (by omega)).1)
    rw [ef] at hx hb
    rw [wY_writeAll_23]
    dsimp only
    rw [er, hc]
    refine ⟨pk_in r 6 hr, pk_le (C r) f (fun _ => ?_) (fun z => absurd z (by omega))⟩
    unfold cw_e at H
    have h78 : ∀ (w' : cd_O) (o' : Int32) (a' : Nat → Int32), w'.1 < 456 → w' = cw_o (cd_cr d) (cw_r d C Z K r w (C r)) 8 → yw_I st raw0 w' o' a' → wY_writeAll_78 post J (nI d) (cd_b st) (nI r) y_records y_drafted y_length y_readRecords y_readFields y_readSize y_readFirst y_readOver y_readEven y_pos y_end (nI d) o' y_chars y_sizes y_counts y_draft a' y_readChars y_readSizes y_readCounts := by
      intro w' o' a' hw' ee hx'
      refine yw_emit (c := 9) hx' hw' (fun o2 a2 h2 => ?_)
      dsimp only
      rw [ee] at h2
      exact nm_r (nI_1 r) (H o2 a2 h2)
    rcases cd_a2 d hd with ⟨z, hcr⟩ | ⟨z, hcr⟩
    · refine br_t z (yw_emit (c := 8) hx (by omega) (fun o' a' h' => ?_))
      dsimp only
      exact h78 (cw_em (cw_r d C Z K r w (C r)) 8) o' a' (by rw [cw_em1]; omega) (by rw [hcr]; rfl) h'
    · exact br_f z (h78 (cw_r d C Z K r w (C r)) o a (by omega) (by rw [hcr]; rfl) hx)
  | succ e ih =>
    intro f n o a hi hn hx
    obtain ⟨n, rfl⟩ : ∃ m, n = m + 1 := ⟨n - 1, by omega⟩
    have hb := cw_rb (d := d) (C := C) (Z := Z) (K := K) (r := r) w f (fun g hg => (hf g (by omega)).1)
    have es : cw_r d C Z K r w (f + 1) = cw_f d C Z K r f (if f = 0 then cw_r d C Z K r w f else cw_em (cw_r d C Z K r w f) (cd_sp d)) := rfl
    rw [wY_writeAll_23]
    dsimp only
    rw [er, hc]
    refine ⟨pk_in r 6 hr, pk_le (C r) f (fun z => absurd z (by omega)) (fun _ => ?_)⟩
    have h48 : ∀ (w' : cd_O) (o' : Int32) (a' : Nat → Int32), w'.1 + 14 ≤ 456 → cw_f d C Z K r f w' = cw_r d C Z K r w (f + 1) → yw_I st raw0 w' o' a' →
        wY_writeAll_48 post J (wY_writeAll_23 post J (nI d) (cd_b st) (nI r) n) (nI d) (cd_b st) (nI r) (nI f) y_records y_drafted y_length y_readRecords y_readFields y_readSize y_readFirst y_readOver y_readEven y_pos y_end (nI d) o' y_chars y_sizes y_counts y_draft a' y_readChars y_readSizes y_readCounts := by
      intro w' o' a' hw' ee hx'
      unfold wY_writeAll_48
      rw [ar_5']
      refine yw_field (w := w') hd hr (by omega) hc hc1 hc5 (hf f (by omega)) hw' hx' (fun o2 a2 h2 => ?_)
      dsimp only
      rw [ee] at h2
      exact nm_r (nI_1 f) (ih (f + 1) n o2 a2 (by omega) (by omega) h2)
    refine pk_le f 0 (fun f0 => ?_) (fun f0 => ?_)
    · exact h48 (cw_r d C Z K r w f) o a (by omega) (by rw [es, if_pos (by omega)]) hx
    · refine yr_sp hd ?_
      refine yw_emit hx (by omega) (fun o' a' h' => ?_)
      dsimp only
      exact h48 (cw_em (cw_r d C Z K r w f) (cd_sp d)) o' a' (by rw [cw_em1]; omega) (by rw [es, if_neg (by omega)]) h'
theorem yw_all {post : SY → Prop} (hd : d < 8) (hr : rn ≤ 6) (ht : cd_tb rn C Z K y_counts y_sizes y_chars)
    (H : ∀ (o : Int32) (a : Nat → Int32), yw_I st raw0 (cw_a d C Z K rn) o a → post (nI rn, y_drafted, y_length, y_readRecords, y_readFields, y_readSize, y_readFirst, y_readOver, y_readEven, y_pos, y_end, nI d, o, y_chars, y_sizes, y_counts, y_draft, a, y_readChars, y_readSizes, y_readCounts)) :
    ∀ (e r n : Nat) (o : Int32) (a : Nat → Int32), r + e = rn → e < n → yw_I st raw0 (cw_a d C Z K r) o a →
      wY_writeAll_12 post (nI d) (cd_b st) n (nI r) (nI rn) y_drafted y_length y_readRecords y_readFields y_readSize y_readFirst y_readOver y_readEven y_pos y_end (nI d) o y_chars y_sizes y_counts y_draft a y_readChars y_readSizes y_readCounts := by
  intro e
  induction e with
  | zero =>
    intro r n o a hi hn hx
    obtain ⟨n, rfl⟩ : ∃ m, n = m + 1 := ⟨n - 1, by omega⟩
    have ef : r = rn := by omega
    rw [ef] at hx
    rw [wY_writeAll_12]
    exact pk_le rn r (fun _ => H o a hx) (fun z => absurd z (by omega))
  | succ e ih =>
    intro r n o a hi hn hx
    obtain ⟨n, rfl⟩ : ∃ m, n = m + 1 := ⟨n - 1, by omega⟩
    obtain ⟨t1, t2, t3, t4⟩ := ht r (by omega)
    have hb := cw_ab (d := d) ht r (by omega)
    rw [wY_writeAll_12]
    refine pk_le rn r (fun z => absurd z (by omega)) (fun _ => ⟨C r + 1, ?_⟩)
    exact yw_rec (w := cw_a d C Z K r) hd (by omega) t3 t1 t2 t4 (by omega) (fun o' a' h' => ih (r + 1) n o' a' (by omega) (by omega) h') (C r) 0 (C r + 1) o a (by omega) (by omega) hx
theorem yw_write {post : SY → Prop} (hd : d < 8) (hr : y_records = nI rn) (hr6 : rn ≤ 6) (ht : cd_tb rn C Z K y_counts y_sizes y_chars)
    (H : ∀ (o : Int32) (a : Nat → Int32), yw_I st y_raw (cw_a d C Z K rn) o a → post (nI rn, y_drafted, y_length, y_readRecords, y_readFields, y_readSize, y_readFirst, y_readOver, y_readEven, y_pos, y_end, nI d, o, y_chars, y_sizes, y_counts, y_draft, a, y_readChars, y_readSizes, y_readCounts)) :
    wpY_writeAll post (y_records, y_drafted, y_length, y_readRecords, y_readFields, y_readSize, y_readFirst, y_readOver, y_readEven, y_pos, y_end, y_dialect, y_out, y_chars, y_sizes, y_counts, y_draft, y_raw, y_readChars, y_readSizes, y_readCounts) (nI d) (cd_b st) := by
  subst hr
  exact ⟨rn + 1, yw_all hd hr6 ht H rn 0 (rn + 1) _ _ (by omega) (by omega) ⟨Nat.zero_le _, rfl, fun _ j hj => absurd hj (Nat.not_lt_zero j), fun _ => rfl⟩⟩
theorem i_vc_written {k : Nat} {u : SX} {v : SY} (I : i_Rel k u v) (hk : k + 4 ≤ 2048) (v1 : Int32) : wpX_written (fun r u' => wpY_written (fun r' v' => r' = r ∧ i_Rel (k + 4) u' v') v v1) u v1 := by
  have I' := I
  obtain ⟨dn, rn, ln, D, C, Z, K, R, hX, hY⟩ := I
  obtain ⟨x_draftSize, x_recordCount, x_rawCount, x_writingCount, x_scanState, x_scanSound, x_scanRecords, x_scanFields, x_scanSize, x_scanMostFields, x_scanLongest, x_scanUneven, x_draftCharacters, x_fieldCounts, x_fieldSizes, x_characters, x_rawCharacters, x_writing⟩ := u
  obtain ⟨y_records, y_drafted, y_length, y_readRecords, y_readFields, y_readSize, y_readFirst, y_readOver, y_readEven, y_pos, y_end, y_dialect, y_out, y_chars, y_sizes, y_counts, y_draft, y_raw, y_readChars, y_readSizes, y_readCounts⟩ := v
  obtain ⟨a1, ⟨a2, a2'⟩, a3, a4⟩ := hX
  obtain ⟨b1, ⟨b2, b2'⟩, b3, b4⟩ := hY
  unfold wpX_written wpY_written
  dsimp only
  rcases ar_d v1 with hx | ⟨d, hd, rfl⟩
  · exact xd_f hx (br_t rfl (yd_f hx (br_t rfl ⟨rfl, I'⟩)))
  · refine xd_t hd (br_f (by decide) ?_)
    refine xw_compose hd a2 a2' a3 (fun wc wr hw => ?_)
    dsimp only
    refine yd_t hd (br_f (by decide) ?_)
    refine yw_write (st := false) hd b2 b2' b3 (fun o a ho => ?_)
    dsimp only
    obtain ⟨o1, o2, o3, o4⟩ := ho
    have ea : a = y_raw := o4 rfl
    subst ea
    exact ⟨o2.trans hw.2.1.symm, dn, rn, ln, D, C, Z, K, R, ⟨a1, ⟨rfl, a2'⟩, a3, a4⟩, ⟨b1, ⟨rfl, b2'⟩, b3, b4⟩⟩
theorem i_vc_write {k : Nat} {u : SX} {v : SY} (I : i_Rel k u v) (hk : k + 4 ≤ 2048) (v1 : Int32) : wpX_write (fun r u' => wpY_write (fun r' v' => r' = r ∧ i_Rel (k + 4) u' v') v v1) u v1 := by
  have I' := I
  obtain ⟨dn, rn, ln, D, C, Z, K, R, hX, hY⟩ := I
  obtain ⟨x_draftSize, x_recordCount, x_rawCount, x_writingCount, x_scanState, x_scanSound, x_scanRecords, x_scanFields, x_scanSize, x_scanMostFields, x_scanLongest, x_scanUneven, x_draftCharacters, x_fieldCounts, x_fieldSizes, x_characters, x_rawCharacters, x_writing⟩ := u
  obtain ⟨y_records, y_drafted, y_length, y_readRecords, y_readFields, y_readSize, y_readFirst, y_readOver, y_readEven, y_pos, y_end, y_dialect, y_out, y_chars, y_sizes, y_counts, y_draft, y_raw, y_readChars, y_readSizes, y_readCounts⟩ := v
  obtain ⟨a1, ⟨a2, a2'⟩, a3, a4⟩ := hX
  obtain ⟨b1, ⟨b2, b2'⟩, b3, b4⟩ := hY
  unfold wpX_write wpY_write
  dsimp only
  rcases ar_d v1 with hx | ⟨d, hd, rfl⟩
  · exact xd_f hx (br_t rfl (yd_f hx (br_t rfl ⟨rfl, I'⟩)))
  · refine xd_t hd (br_f (by decide) ?_)
    refine xw_compose hd a2 a2' a3 (fun wc wr hw => ?_)
    dsimp only
    obtain ⟨w1, rfl, w3⟩ := hw
    refine pk_le (cw_a d C Z K rn).1 96 (fun h96 => ⟨(cw_a d C Z K rn).1 + 1, ?_⟩) (fun h96 => ?_)
    · refine xw_copy h96 w3 (fun rw' hrw => ?_) (cw_a d C Z K rn).1 0 ((cw_a d C Z K rn).1 + 1) x_rawCharacters (by omega) (by omega) (fun j hj => absurd hj (Nat.not_lt_zero j))
      refine yd_t hd (br_f (by decide) ?_)
      refine yw_write (st := false) hd b2 b2' b3 (fun o a ho => ?_)
      dsimp only
      obtain ⟨o1, rfl, o3, o4⟩ := ho
      refine pk_le (cw_a d C Z K rn).1 96 (fun _ => ?_) (fun z => absurd z (by omega))
      refine yw_write (st := true) hd rfl b2' b3 (fun o' a' ho' => ?_)
      dsimp only
      obtain ⟨p1, rfl, p3, p4⟩ := ho'
      exact ⟨rfl, dn, rn, (cw_a d C Z K rn).1, D, C, Z, K, (cw_a d C Z K rn).2, ⟨a1, ⟨rfl, a2'⟩, a3, hrw⟩, ⟨b1, ⟨rfl, b2'⟩, b3, ⟨h96, rfl, fun i hi => ⟨(w3 i hi).1, p3 rfl i hi (by omega)⟩⟩⟩⟩
    · refine yd_t hd (br_f (by decide) ?_)
      refine yw_write (st := false) hd b2 b2' b3 (fun o a ho => ?_)
      dsimp only
      obtain ⟨o1, rfl, o3, o4⟩ := ho
      have ea : a = y_raw := o4 rfl
      subst ea
      exact pk_le (cw_a d C Z K rn).1 96 (fun z => absurd z (by omega)) (fun _ => ⟨rfl, dn, rn, ln, D, C, Z, K, R, ⟨a1, ⟨rfl, a2'⟩, a3, a4⟩, ⟨b1, ⟨rfl, b2'⟩, b3, b4⟩⟩)
end
end
