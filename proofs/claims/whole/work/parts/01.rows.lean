/-! rows pasted from kit/rows: stores, numbers, masks, branches by naturals -/
theorem pk_us {f : Nat → Int32} {k : Nat} {x : Int32} : upd f k x k = x := if_pos rfl
theorem pk_un {f : Nat → Int32} {k j : Nat} {x : Int32} (h : j ≠ k) : upd f k x j = f j := if_neg h
theorem pk_sub {a b : Nat} (h : b ≤ a) : nI a - nI b = nI (a - b) := by
  obtain ⟨c, rfl⟩ : ∃ c, a = c + b := ⟨a - b, by omega⟩
  rw [← nI_add, Int32.add_sub_cancel, Nat.add_sub_cancel]
theorem pk_m1 (n : Nat) : nI (n + 1) + (-1) = nI n := by
  rw [← nI_1, Int32.add_assoc, show (1 : Int32) + (-1) = 0 from rfl, Int32.add_zero]
theorem pk_mul (a b : Nat) : nI a * nI b = nI (a * b) := (Int32.ofNat_mul a b).symm
theorem pk_div {a d : Nat} (ha : a < 2 ^ 31) (h0 : 0 < d) (hd : d < 2 ^ 31) : nI a / nI d = nI (a / d) := by
  apply Int32.toInt_inj.mp
  rw [lg_idiv_nonneg (by rw [nI_toInt ha]; omega) (by rw [nI_toInt hd]; omega), nI_toInt ha, nI_toInt hd, nI_toInt (Nat.lt_of_le_of_lt (Nat.div_le_self a d) ha)]
  first | rfl | exact (Int.natCast_ediv _ _).symm
theorem pk_ix (x : Int32) {n : Nat} (hn : n < 2 ^ 31) : x < 0 ∨ nI n ≤ x ∨ ∃ j : Nat, j < n ∧ x = nI j := by
  by_cases h : x < 0
  · exact Or.inl h
  · obtain ⟨j, hj, rfl⟩ := nI_of h
    by_cases h2 : j < n
    · exact Or.inr (Or.inr ⟨j, h2, rfl⟩)
    · exact Or.inr (Or.inl (nI_le (by omega) hj))
theorem pk_le {x y : Int32} {A B : Prop} (a b : Nat) (f : a ≤ b → A) (g : b < a → B) (hx : x = nI a := by rfl) (hy : y = nI b := by rfl) (ha : a < 2 ^ 31 := by omega) (hb : b < 2 ^ 31 := by omega) : (x ≤ y → A) ∧ (¬ x ≤ y → B) := by
  subst hx hy
  rw [nI_leI ha hb]
  exact ⟨f, fun z => g (by omega)⟩
theorem pk_lt {x y : Int32} {A B : Prop} (a b : Nat) (f : a < b → A) (g : b ≤ a → B) (hx : x = nI a := by rfl) (hy : y = nI b := by rfl) (ha : a < 2 ^ 31 := by omega) (hb : b < 2 ^ 31 := by omega) : (x < y → A) ∧ (¬ x < y → B) := by
  subst hx hy
  rw [nI_ltI ha hb]
  exact ⟨f, fun z => g (by omega)⟩
theorem pk_eq {x y : Int32} {A B : Prop} (a b : Nat) (f : a = b → A) (g : a ≠ b → B) (hx : x = nI a := by rfl) (hy : y = nI b := by rfl) (ha : a < 2 ^ 31 := by omega) (hb : b < 2 ^ 31 := by omega) : (x = y → A) ∧ (¬ x = y → B) := by
  subst hx hy
  rw [nI_eq ha hb]
  exact ⟨f, g⟩
theorem pk_in {x : Int32} (n N : Nat) (h : n < N) (hx : x = nI n := by rfl) (hN : N < 2 ^ 31 := by omega) : vp_in x N := by
  subst hx
  exact vp_in_nI h hN
theorem pk_cl {x : Int32} (n : Nat) (hx : x = nI n := by rfl) (h : n < 2 ^ 31 := by omega) : x.toNatClampNeg = n := by
  subst hx
  exact nI_clamp h
theorem pk_tn {n : Nat} (h : n < 2 ^ 32) : (nI n).toBitVec.toNat = n := Nat.mod_eq_of_lt h
theorem pk_and (x : Int32) {m : Int32} (k : Nat) (hm : m.toBitVec.toNat = 2 ^ k - 1) : x &&& m = nI (x.toBitVec.toNat % 2 ^ k) := by
  apply Int32.toBitVec_inj.mp
  apply BitVec.eq_of_toNat_eq
  rw [Int32.toBitVec_and, BitVec.toNat_and, hm, Nat.and_two_pow_sub_one_eq_mod]
  show _ = (BitVec.ofNat 32 _).toNat
  rw [BitVec.toNat_ofNat]
  exact (Nat.mod_eq_of_lt (Nat.lt_of_le_of_lt (Nat.mod_le _ _) x.toBitVec.isLt)).symm
theorem pk_andN {n : Nat} (h : n < 2 ^ 32) {m : Int32} (k : Nat) (hm : m.toBitVec.toNat = 2 ^ k - 1) : nI n &&& m = nI (n % 2 ^ k) := by
  rw [pk_and _ k hm, pk_tn h]
theorem pk_shl (a s : Int32) (k : Nat) (hs : (s.toBitVec.smod 32).toNat = k) : (a <<< s).toBitVec.toNat = a.toBitVec.toNat * 2 ^ k % 2 ^ 32 := by
  show (a.toBitVec <<< (s.toBitVec.smod 32).toNat).toNat = _
  rw [hs, BitVec.toNat_shiftLeft, Nat.shiftLeft_eq]
theorem pk_shlN {n : Nat} (s : Int32) (k : Nat) (hs : (s.toBitVec.smod 32).toNat = k) (h : n * 2 ^ k < 2 ^ 32) : nI n <<< s = nI (n * 2 ^ k) := by
  apply Int32.toBitVec_inj.mp
  apply BitVec.eq_of_toNat_eq
  have hn : n < 2 ^ 32 := Nat.lt_of_le_of_lt (Nat.le_mul_of_pos_right n (Nat.two_pow_pos k)) h
  rw [pk_shl _ _ k hs, pk_tn hn, pk_tn h, Nat.mod_eq_of_lt h]
theorem ek_if {c d A B : Prop} (e : c ↔ d) (f : d → A) (g : ¬ d → B) : (c → A) ∧ (¬ c → B) :=
  ⟨fun z => f (e.mp z), fun z => g (fun y => z (e.mpr y))⟩
theorem ek_v {α : Sort _} {P : α → Prop} {a b : α} (e : a = b) (h : P b) : P a := e ▸ h
/-! numbers against literals (written by a short program) -/
theorem cl_lt0 {a : Nat} (h : a < 2 ^ 31) : nI a < (0 : Int32) ↔ a < 0 := nI_ltI (b := 0) h (by decide)
theorem cl_gt0 {a : Nat} (h : a < 2 ^ 31) : (0 : Int32) < nI a ↔ 0 < a := nI_ltI (a := 0) (by decide) h
theorem cl_le0 {a : Nat} (h : a < 2 ^ 31) : nI a ≤ (0 : Int32) ↔ a ≤ 0 := nI_leI (b := 0) h (by decide)
theorem cl_ge0 {a : Nat} (h : a < 2 ^ 31) : (0 : Int32) ≤ nI a ↔ 0 ≤ a := nI_leI (a := 0) (by decide) h
theorem cl_eq0 {a : Nat} (h : a < 2 ^ 31) : nI a = (0 : Int32) ↔ a = 0 := nI_eq (b := 0) h (by decide)
theorem cl_lt1 {a : Nat} (h : a < 2 ^ 31) : nI a < (1 : Int32) ↔ a < 1 := nI_ltI (b := 1) h (by decide)
theorem cl_gt1 {a : Nat} (h : a < 2 ^ 31) : (1 : Int32) < nI a ↔ 1 < a := nI_ltI (a := 1) (by decide) h
theorem cl_le1 {a : Nat} (h : a < 2 ^ 31) : nI a ≤ (1 : Int32) ↔ a ≤ 1 := nI_leI (b := 1) h (by decide)
theorem cl_ge1 {a : Nat} (h : a < 2 ^ 31) : (1 : Int32) ≤ nI a ↔ 1 ≤ a := nI_leI (a := 1) (by decide) h
theorem cl_eq1 {a : Nat} (h : a < 2 ^ 31) : nI a = (1 : Int32) ↔ a = 1 := nI_eq (b := 1) h (by decide)
theorem cl_lt2 {a : Nat} (h : a < 2 ^ 31) : nI a < (2 : Int32) ↔ a < 2 := nI_ltI (b := 2) h (by decide)
theorem cl_gt2 {a : Nat} (h : a < 2 ^ 31) : (2 : Int32) < nI a ↔ 2 < a := nI_ltI (a := 2) (by decide) h
theorem cl_le2 {a : Nat} (h : a < 2 ^ 31) : nI a ≤ (2 : Int32) ↔ a ≤ 2 := nI_leI (b := 2) h (by decide)
theorem cl_ge2 {a : Nat} (h : a < 2 ^ 31) : (2 : Int32) ≤ nI a ↔ 2 ≤ a := nI_leI (a := 2) (by decide) h
theorem cl_eq2 {a : Nat} (h : a < 2 ^ 31) : nI a = (2 : Int32) ↔ a = 2 := nI_eq (b := 2) h (by decide)
theorem cl_lt3 {a : Nat} (h : a < 2 ^ 31) : nI a < (3 : Int32) ↔ a < 3 := nI_ltI (b := 3) h (by decide)
theorem cl_gt3 {a : Nat} (h : a < 2 ^ 31) : (3 : Int32) < nI a ↔ 3 < a := nI_ltI (a := 3) (by decide) h
theorem cl_le3 {a : Nat} (h : a < 2 ^ 31) : nI a ≤ (3 : Int32) ↔ a ≤ 3 := nI_leI (b := 3) h (by decide)
theorem cl_ge3 {a : Nat} (h : a < 2 ^ 31) : (3 : Int32) ≤ nI a ↔ 3 ≤ a := nI_leI (a := 3) (by decide) h
theorem cl_eq3 {a : Nat} (h : a < 2 ^ 31) : nI a = (3 : Int32) ↔ a = 3 := nI_eq (b := 3) h (by decide)
theorem cl_lt4 {a : Nat} (h : a < 2 ^ 31) : nI a < (4 : Int32) ↔ a < 4 := nI_ltI (b := 4) h (by decide)
theorem cl_gt4 {a : Nat} (h : a < 2 ^ 31) : (4 : Int32) < nI a ↔ 4 < a := nI_ltI (a := 4) (by decide) h
theorem cl_le4 {a : Nat} (h : a < 2 ^ 31) : nI a ≤ (4 : Int32) ↔ a ≤ 4 := nI_leI (b := 4) h (by decide)
theorem cl_ge4 {a : Nat} (h : a < 2 ^ 31) : (4 : Int32) ≤ nI a ↔ 4 ≤ a := nI_leI (a := 4) (by decide) h
theorem cl_eq4 {a : Nat} (h : a < 2 ^ 31) : nI a = (4 : Int32) ↔ a = 4 := nI_eq (b := 4) h (by decide)
theorem cl_lt5 {a : Nat} (h : a < 2 ^ 31) : nI a < (5 : Int32) ↔ a < 5 := nI_ltI (b := 5) h (by decide)
theorem cl_gt5 {a : Nat} (h : a < 2 ^ 31) : (5 : Int32) < nI a ↔ 5 < a := nI_ltI (a := 5) (by decide) h
theorem cl_le5 {a : Nat} (h : a < 2 ^ 31) : nI a ≤ (5 : Int32) ↔ a ≤ 5 := nI_leI (b := 5) h (by decide)
theorem cl_ge5 {a : Nat} (h : a < 2 ^ 31) : (5 : Int32) ≤ nI a ↔ 5 ≤ a := nI_leI (a := 5) (by decide) h
theorem cl_eq5 {a : Nat} (h : a < 2 ^ 31) : nI a = (5 : Int32) ↔ a = 5 := nI_eq (b := 5) h (by decide)
theorem cl_lt6 {a : Nat} (h : a < 2 ^ 31) : nI a < (6 : Int32) ↔ a < 6 := nI_ltI (b := 6) h (by decide)
theorem cl_gt6 {a : Nat} (h : a < 2 ^ 31) : (6 : Int32) < nI a ↔ 6 < a := nI_ltI (a := 6) (by decide) h
theorem cl_le6 {a : Nat} (h : a < 2 ^ 31) : nI a ≤ (6 : Int32) ↔ a ≤ 6 := nI_leI (b := 6) h (by decide)
theorem cl_ge6 {a : Nat} (h : a < 2 ^ 31) : (6 : Int32) ≤ nI a ↔ 6 ≤ a := nI_leI (a := 6) (by decide) h
theorem cl_eq6 {a : Nat} (h : a < 2 ^ 31) : nI a = (6 : Int32) ↔ a = 6 := nI_eq (b := 6) h (by decide)
theorem cl_lt7 {a : Nat} (h : a < 2 ^ 31) : nI a < (7 : Int32) ↔ a < 7 := nI_ltI (b := 7) h (by decide)
theorem cl_gt7 {a : Nat} (h : a < 2 ^ 31) : (7 : Int32) < nI a ↔ 7 < a := nI_ltI (a := 7) (by decide) h
theorem cl_le7 {a : Nat} (h : a < 2 ^ 31) : nI a ≤ (7 : Int32) ↔ a ≤ 7 := nI_leI (b := 7) h (by decide)
theorem cl_ge7 {a : Nat} (h : a < 2 ^ 31) : (7 : Int32) ≤ nI a ↔ 7 ≤ a := nI_leI (a := 7) (by decide) h
theorem cl_eq7 {a : Nat} (h : a < 2 ^ 31) : nI a = (7 : Int32) ↔ a = 7 := nI_eq (b := 7) h (by decide)
theorem cl_lt8 {a : Nat} (h : a < 2 ^ 31) : nI a < (8 : Int32) ↔ a < 8 := nI_ltI (b := 8) h (by decide)
theorem cl_gt8 {a : Nat} (h : a < 2 ^ 31) : (8 : Int32) < nI a ↔ 8 < a := nI_ltI (a := 8) (by decide) h
theorem cl_le8 {a : Nat} (h : a < 2 ^ 31) : nI a ≤ (8 : Int32) ↔ a ≤ 8 := nI_leI (b := 8) h (by decide)
theorem cl_ge8 {a : Nat} (h : a < 2 ^ 31) : (8 : Int32) ≤ nI a ↔ 8 ≤ a := nI_leI (a := 8) (by decide) h
theorem cl_eq8 {a : Nat} (h : a < 2 ^ 31) : nI a = (8 : Int32) ↔ a = 8 := nI_eq (b := 8) h (by decide)
theorem cl_lt9 {a : Nat} (h : a < 2 ^ 31) : nI a < (9 : Int32) ↔ a < 9 := nI_ltI (b := 9) h (by decide)
theorem cl_gt9 {a : Nat} (h : a < 2 ^ 31) : (9 : Int32) < nI a ↔ 9 < a := nI_ltI (a := 9) (by decide) h
theorem cl_le9 {a : Nat} (h : a < 2 ^ 31) : nI a ≤ (9 : Int32) ↔ a ≤ 9 := nI_leI (b := 9) h (by decide)
theorem cl_ge9 {a : Nat} (h : a < 2 ^ 31) : (9 : Int32) ≤ nI a ↔ 9 ≤ a := nI_leI (a := 9) (by decide) h
theorem cl_eq9 {a : Nat} (h : a < 2 ^ 31) : nI a = (9 : Int32) ↔ a = 9 := nI_eq (b := 9) h (by decide)
theorem cl_lt10 {a : Nat} (h : a < 2 ^ 31) : nI a < (10 : Int32) ↔ a < 10 := nI_ltI (b := 10) h (by decide)
theorem cl_gt10 {a : Nat} (h : a < 2 ^ 31) : (10 : Int32) < nI a ↔ 10 < a := nI_ltI (a := 10) (by decide) h
theorem cl_le10 {a : Nat} (h : a < 2 ^ 31) : nI a ≤ (10 : Int32) ↔ a ≤ 10 := nI_leI (b := 10) h (by decide)
theorem cl_ge10 {a : Nat} (h : a < 2 ^ 31) : (10 : Int32) ≤ nI a ↔ 10 ≤ a := nI_leI (a := 10) (by decide) h
theorem cl_eq10 {a : Nat} (h : a < 2 ^ 31) : nI a = (10 : Int32) ↔ a = 10 := nI_eq (b := 10) h (by decide)
theorem cl_lt30 {a : Nat} (h : a < 2 ^ 31) : nI a < (30 : Int32) ↔ a < 30 := nI_ltI (b := 30) h (by decide)
theorem cl_gt30 {a : Nat} (h : a < 2 ^ 31) : (30 : Int32) < nI a ↔ 30 < a := nI_ltI (a := 30) (by decide) h
theorem cl_le30 {a : Nat} (h : a < 2 ^ 31) : nI a ≤ (30 : Int32) ↔ a ≤ 30 := nI_leI (b := 30) h (by decide)
theorem cl_ge30 {a : Nat} (h : a < 2 ^ 31) : (30 : Int32) ≤ nI a ↔ 30 ≤ a := nI_leI (a := 30) (by decide) h
theorem cl_eq30 {a : Nat} (h : a < 2 ^ 31) : nI a = (30 : Int32) ↔ a = 30 := nI_eq (b := 30) h (by decide)
theorem cl_lt96 {a : Nat} (h : a < 2 ^ 31) : nI a < (96 : Int32) ↔ a < 96 := nI_ltI (b := 96) h (by decide)
theorem cl_gt96 {a : Nat} (h : a < 2 ^ 31) : (96 : Int32) < nI a ↔ 96 < a := nI_ltI (a := 96) (by decide) h
theorem cl_le96 {a : Nat} (h : a < 2 ^ 31) : nI a ≤ (96 : Int32) ↔ a ≤ 96 := nI_leI (b := 96) h (by decide)
theorem cl_ge96 {a : Nat} (h : a < 2 ^ 31) : (96 : Int32) ≤ nI a ↔ 96 ≤ a := nI_leI (a := 96) (by decide) h
theorem cl_eq96 {a : Nat} (h : a < 2 ^ 31) : nI a = (96 : Int32) ↔ a = 96 := nI_eq (b := 96) h (by decide)
theorem cl_lt180 {a : Nat} (h : a < 2 ^ 31) : nI a < (180 : Int32) ↔ a < 180 := nI_ltI (b := 180) h (by decide)
theorem cl_gt180 {a : Nat} (h : a < 2 ^ 31) : (180 : Int32) < nI a ↔ 180 < a := nI_ltI (a := 180) (by decide) h
theorem cl_le180 {a : Nat} (h : a < 2 ^ 31) : nI a ≤ (180 : Int32) ↔ a ≤ 180 := nI_leI (b := 180) h (by decide)
theorem cl_ge180 {a : Nat} (h : a < 2 ^ 31) : (180 : Int32) ≤ nI a ↔ 180 ≤ a := nI_leI (a := 180) (by decide) h
theorem cl_eq180 {a : Nat} (h : a < 2 ^ 31) : nI a = (180 : Int32) ↔ a = 180 := nI_eq (b := 180) h (by decide)
theorem cl_lt456 {a : Nat} (h : a < 2 ^ 31) : nI a < (456 : Int32) ↔ a < 456 := nI_ltI (b := 456) h (by decide)
theorem cl_gt456 {a : Nat} (h : a < 2 ^ 31) : (456 : Int32) < nI a ↔ 456 < a := nI_ltI (a := 456) (by decide) h
theorem cl_le456 {a : Nat} (h : a < 2 ^ 31) : nI a ≤ (456 : Int32) ↔ a ≤ 456 := nI_leI (b := 456) h (by decide)
theorem cl_ge456 {a : Nat} (h : a < 2 ^ 31) : (456 : Int32) ≤ nI a ↔ 456 ≤ a := nI_leI (a := 456) (by decide) h
theorem cl_eq456 {a : Nat} (h : a < 2 ^ 31) : nI a = (456 : Int32) ↔ a = 456 := nI_eq (b := 456) h (by decide)
theorem cl_m5 (a : Nat) : nI a * (5 : Int32) = nI (a * 5) := pk_mul a 5
theorem cl_x5 (a : Nat) : (5 : Int32) * nI a = nI (5 * a) := pk_mul 5 a
theorem cl_m6 (a : Nat) : nI a * (6 : Int32) = nI (a * 6) := pk_mul a 6
theorem cl_x6 (a : Nat) : (6 : Int32) * nI a = nI (6 * a) := pk_mul 6 a
theorem cl_p2 (a : Nat) : nI a + (2 : Int32) = nI (a + 2) := nI_add a 2
theorem cl_s1 {a : Nat} (h : 1 ≤ a) : nI a - (1 : Int32) = nI (a - 1) := pk_sub (b := 1) h
theorem cl_n1 {a : Nat} (h : 1 ≤ a) : nI a + (-1 : Int32) = nI (a - 1) := by
  obtain ⟨c, rfl⟩ : ∃ c, a = c + 1 := ⟨a - 1, by omega⟩
  exact pk_m1 c
