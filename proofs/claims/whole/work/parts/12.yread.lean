/-! the reference's reading: fields -/
/-- behind a field: what the next character leads to -/
def cy_A (d : Nat) (R : Nat → Nat) (n q : Nat) : Prop :=
  q ≤ n ∧ cd_ok (cd_S d R q) ∧ (q < n → cd_S d R (q + 1) = cd_nx d (R q)) ∧ (cd_S d R q = 0 → q < n)
section
variable {y_records y_drafted y_length y_readRecords y_readFields y_readSize y_readFirst y_readOver y_readEven y_pos y_end y_dialect y_out : Int32} {y_chars y_sizes y_counts y_draft y_raw y_readChars y_readSizes y_readCounts : Nat → Int32}
variable {n d : Nat} {R : Nat → Nat}
theorem yr_sp {post : Int32 → Prop} (hd : d < 8) (h : post (nI (cd_sp d))) : wpY_separator post (y_records, y_drafted, y_length, y_readRecords, y_readFields, y_readSize, y_readFirst, y_readOver, y_readEven, y_pos, y_end, nI d, y_out, y_chars, y_sizes, y_counts, y_draft, y_raw, y_readChars, y_readSizes, y_readCounts) := by
  rcases cd_a1 d hd with ⟨_, a, e⟩ | ⟨_, a, e⟩
  · exact br_f a (xs_p (b := 5) h e)
  · exact br_t a (xs_p (b := 6) h e)
theorem yr_pl {post : Int32 → Prop} {c : Nat} (hd : d < 8) (hc : c ≤ 10) (f : c ≠ cd_sp d → c < 7 → post 1) (g : (c = cd_sp d ∨ 7 ≤ c) → post 0) : wpY_isPlain post (y_records, y_drafted, y_length, y_readRecords, y_readFields, y_readSize, y_readFirst, y_readOver, y_readEven, y_pos, y_end, nI d, y_out, y_chars, y_sizes, y_counts, y_draft, y_raw, y_readChars, y_readSizes, y_readCounts) (nI c) := by
  have hsp := cd_spr d
  unfold wpY_isPlain
  dsimp only
  refine yr_sp hd ?_
  exact pk_eq c (cd_sp d) (fun e => g (Or.inl e)) (fun e => pk_le 7 c (fun h => g (Or.inr h)) (fun h => f e h))
theorem yr_take {post : SY → Prop} {w : cd_W} {m g c : Nat} (hm : m < 1000) (hg : g < 1000) (hz : cd_z w.1 < 1000) (hI : cy_I w m g y_readOver y_readCounts y_readSizes y_readChars)
    (H : ∀ (ov : Int32) (rK : Nat → Int32), cy_I (cd_oA c w.1, cd_mx w.2.1 (cd_z w.1 + 1), w.2.2.1, w.2.2.2) m g ov y_readCounts y_readSizes rK →
      post (y_records, y_drafted, y_length, nI m, nI g, nI (cd_z w.1 + 1), y_readFirst, ov, y_readEven, y_pos, y_end, y_dialect, y_out, y_chars, y_sizes, y_counts, y_draft, y_raw, rK, y_readSizes, y_readCounts)) :
    wpY_take post (y_records, y_drafted, y_length, nI m, nI g, nI (cd_z w.1), y_readFirst, y_readOver, y_readEven, y_pos, y_end, y_dialect, y_out, y_chars, y_sizes, y_counts, y_draft, y_raw, y_readChars, y_readSizes, y_readCounts) (nI c) := by
  have h54 : (6 ≤ m ∨ 5 ≤ g ∨ 6 ≤ cd_z w.1) → wY_take_54 post y_records y_drafted y_length (nI m) (nI g) (nI (cd_z w.1)) y_readFirst y_readOver y_readEven y_pos y_end y_dialect y_out y_chars y_sizes y_counts y_draft y_raw y_readChars y_readSizes y_readCounts :=
    fun z => nm_r (nI_1 _) (H 1 _ (cy_Io hI z))
  refine pk_le 6 m (fun z => h54 (Or.inl z)) (fun h6 => pk_le 5 g (fun z => h54 (Or.inr (Or.inl z))) (fun h5 => pk_le 6 (cd_z w.1) (fun z => h54 (Or.inr (Or.inr z))) (fun hz6 => ?_)))
  refine ⟨pk_in (6 * (5 * m + g) + cd_z w.1) 180 (by omega) (by rw [ar_5', ar_6']), nm_r (e' := upd y_readChars (6 * (5 * m + g) + cd_z w.1) (nI c)) (by rw [ar_5', ar_6', nI_clamp (by omega)]) (nm_r (nI_1 _) ?_)⟩
  exact H _ _ (cy_Ii hI h6 h5 hz6)
/-- the bounds of what is counted at q -/
theorem cy_vb {m g : Nat} {ov : Int32} {rC rS rK : Nat → Int32} {q : Nat} (hI : cy_I (cd_v d R q) m g ov rC rS rK) (hq : q ≤ 98) : m < 1000 ∧ g < 1000 ∧ cd_z (cd_v d R q).1 < 1000 := by
  have b := cd_tb1 d R q
  have e2 := (cy_pl hI.1 hI.2.1).2.1
  have e1 : (cd_t' d R q).1 = m + 1 := hI.1
  have e3 : cd_f (cd_t' d R q) = g + 1 := e2
  have e4 : cd_z (cd_v d R q).1 = cd_z (cd_t' d R q) := rfl
  omega
/-- one character read, from q to p -/
theorem cy_vz {q p c : Nat} (h : cd_v d R p = (cd_oA c (cd_v d R q).1, cd_mx (cd_v d R q).2.1 (cd_z (cd_v d R q).1 + 1), (cd_v d R q).2.2.1, (cd_v d R q).2.2.2)) : cd_z (cd_v d R p).1 = cd_z (cd_v d R q).1 + 1 ∧ (cd_v d R p).2.2 = (cd_v d R q).2.2 := by
  rw [h]
  exact ⟨cd_oAz _ _, rfl⟩
theorem yr_plain {post : Int32 → SY → Prop} {m g q0 : Nat} {w2 : Nat × Bool} (hd : d < 8) (hn : n ≤ 98) (hR : ∀ i, i < n → R i ≤ 10 ∧ y_raw i = nI (R i))
    (H : ∀ (q : Nat) (ov : Int32) (rK : Nat → Int32), q0 ≤ q → cy_A d R n q → cy_I (cd_v d R q) m g ov y_readCounts y_readSizes rK → (cd_v d R q).2.2 = w2 →
      wY_readField_103 post 1 y_records y_drafted y_length (nI m) (nI g) (nI (cd_z (cd_v d R q).1)) y_readFirst ov y_readEven (nI q) (nI n) (nI d) y_out y_chars y_sizes y_counts y_draft y_raw rK y_readSizes y_readCounts) :
    ∀ (e q f : Nat) (ov : Int32) (rK : Nat → Int32), q + e = n → e < f → q0 ≤ q → (cd_S d R q = 0 ∨ cd_S d R q = 1 ∨ cd_S d R q = 2) → (cd_S d R q ≠ 2 → q < n → R q ≠ 7) → (cd_S d R q = 0 → q < n) →
      cy_I (cd_v d R q) m g ov y_readCounts y_readSizes rK → (cd_v d R q).2.2 = w2 →
      wY_readField_50 post 1 f y_records y_drafted y_length (nI m) (nI g) (nI (cd_z (cd_v d R q).1)) y_readFirst ov y_readEven (nI q) (nI n) (nI d) y_out y_chars y_sizes y_counts y_draft y_raw rK y_readSizes y_readCounts := by
  intro e
  induction e with
  | zero =>
    intro q f ov rK hq hf h0 hs h7 hz hI hw
    obtain ⟨f, rfl⟩ : ∃ m, f = m + 1 := ⟨f - 1, by omega⟩
    rw [wY_readField_50]
    exact pk_le n q (fun _ => H q ov rK h0 ⟨by omega, by unfold cd_ok; omega, fun z => absurd z (by omega), hz⟩ hI hw) (fun z => absurd z (by omega))
  | succ e ih =>
    intro q f ov rK hq hf h0 hs h7 hz hI hw
    obtain ⟨f, rfl⟩ : ∃ m, f = m + 1 := ⟨f - 1, by omega⟩
    obtain ⟨r10, rq⟩ := hR q (by omega)
    obtain ⟨b1, b2, b3⟩ := cy_vb hI (by omega)
    have ec : y_raw (nI q).toNatClampNeg = nI (R q) := by rw [nI_clamp (by omega), rq]
    rw [wY_readField_50]
    refine pk_le n q (fun z => absurd z (by omega)) (fun _ => ⟨pk_in q 98 (by omega), ?_⟩)
    rw [ec]
    refine yr_pl hd r10 (fun c1 c2 => br_f (by decide) ⟨pk_in q 98 (by omega), ?_⟩) (fun hc => br_t rfl ?_)
    · have s2 : cd_S d R (q + 1) = 2 := by rw [cd_Ss]; exact cd_sop hs c1 c2
      have ev := cd_vc (d := d) (R := R) (q := q) (by rw [s2]; exact cd_ct2 _)
      obtain ⟨z1, z2⟩ := cy_vz (d := d) (R := R) (q := q) (p := q + 1) ev
      refine yr_take (w := cd_v d R q) b1 b2 b3 hI (fun ov' rK' hI' => ?_)
      dsimp only
      refine nm_r (nI_1 q) ?_
      have hI2 : cy_I (cd_v d R (q + 1)) m g ov' y_readCounts y_readSizes rK' := by rw [ev]; exact hI'
      have w := ih (q + 1) f ov' rK' (by omega) (by omega) (by omega) (Or.inr (Or.inr s2)) (fun z => absurd s2 z) (fun z => by omega) hI2 (z2.trans hw)
      rw [z1] at w
      exact w
    · refine H q ov rK h0 ⟨by omega, by unfold cd_ok; omega, fun hlt => ?_, hz⟩ hI hw
      rw [cd_Ss]
      by_cases s2 : cd_S d R q = 2
      · rw [s2]
        exact cd_nx2 hc r10
      · exact cd_nx01 (by omega) hc (h7 s2 hlt) r10
/-- the quoted part, from behind its first quote -/
theorem yr_quoted {post : Int32 → SY → Prop} {m g q0 : Nat} {w2 : Nat × Bool} (hd : d < 8) (hn : n ≤ 98) (hR : ∀ i, i < n → R i ≤ 10 ∧ y_raw i = nI (R i))
    (H : ∀ (q : Nat) (ov : Int32) (rK : Nat → Int32), q0 ≤ q → cy_A d R n q → cy_I (cd_v d R q) m g ov y_readCounts y_readSizes rK → (cd_v d R q).2.2 = w2 →
      post 1 (y_records, y_drafted, y_length, nI m, nI g, nI (cd_z (cd_v d R q).1), y_readFirst, ov, y_readEven, nI q, nI n, nI d, y_out, y_chars, y_sizes, y_counts, y_draft, y_raw, rK, y_readSizes, y_readCounts))
    (H0 : ¬ cd_ok (cd_S d R n) → ∀ (q rs ov : Int32) (rK : Nat → Int32), post 0 (y_records, y_drafted, y_length, nI m, nI g, rs, y_readFirst, ov, y_readEven, q, nI n, nI d, y_out, y_chars, y_sizes, y_counts, y_draft, y_raw, rK, y_readSizes, y_readCounts)) :
    ∀ (e q f : Nat) (ov : Int32) (rK : Nat → Int32), n ≤ q + e → q ≤ n → e < f → q0 ≤ q → cd_S d R q = 3 →
      cy_I (cd_v d R q) m g ov y_readCounts y_readSizes rK → (cd_v d R q).2.2 = w2 →
      wY_readQuoted_0 post f y_records y_drafted y_length (nI m) (nI g) (nI (cd_z (cd_v d R q).1)) y_readFirst ov y_readEven (nI q) (nI n) (nI d) y_out y_chars y_sizes y_counts y_draft y_raw rK y_readSizes y_readCounts := by
  intro e
  induction e with
  | zero =>
    intro q f ov rK hq hqn hf h0 hs hI hw
    obtain ⟨f, rfl⟩ : ∃ m, f = m + 1 := ⟨f - 1, by omega⟩
    have eq : q = n := by omega
    rw [wY_readQuoted_0]
    refine pk_le n q (fun _ => H0 (fun z => ?_) _ _ _ _) (fun z => absurd z (by omega))
    rw [← eq, hs] at z
    exact absurd z (by decide)
  | succ e ih =>
    intro q f ov rK hq hqn hf h0 hs hI hw
    obtain ⟨f, rfl⟩ : ∃ m, f = m + 1 := ⟨f - 1, by omega⟩
    rw [wY_readQuoted_0]
    refine pk_le n q (fun z => H0 (fun z => ?_) _ _ _ _) (fun hlt => ⟨pk_in q 98 (by omega), ?_⟩)
    · have eq : q = n := by omega
      rw [← eq, hs] at z
      exact absurd z (by decide)
    obtain ⟨r10, rq⟩ := hR q hlt
    obtain ⟨b1, b2, b3⟩ := cy_vb hI (by omega)
    refine nm_r (e' := nI (R q)) (by rw [nI_clamp (by omega), rq]) ?_
    rw [nI_1 q]
    -- the end of the quoted part, or one more character
    have h99 : (R q = 7 → q + 1 < n → cd_es d = true ∨ R (q + 1) ≠ 7) → (R q = 10 → cd_es d = true → q + 1 < n → R (q + 1) ≠ 7) →
        wY_readQuoted_99 post (wY_readQuoted_0 post f) (nI (R q)) y_records y_drafted y_length (nI m) (nI g) (nI (cd_z (cd_v d R q).1)) y_readFirst ov y_readEven (nI q) (nI n) (nI d) y_out y_chars y_sizes y_counts y_draft y_raw rK y_readSizes y_readCounts := by
      intro g7 g10
      refine pk_eq (R q) 7 (fun c7 => nm_r (nI_1 q) ?_) (fun n7 => pk_eq (R q) 10 (fun c10 => H0 ?_ _ _ _ _) (fun n10 => ?_))
      · have s5 : cd_S d R (q + 1) = 5 := by rw [cd_Ss, hs, c7]; exact cd_s3q
        have ev : cd_v d R (q + 1) = cd_v d R q := cd_vn (by rw [s5]; decide) (by rw [s5]; decide) (by rw [s5]; exact cd_ct5 _)
        have hp := H (q + 1) ov rK (by omega) ⟨by omega, by rw [s5]; decide, fun z => by rw [cd_Ss, s5]; exact cd_nx5 (g7 c7 z), fun z => by rw [s5] at z; exact absurd z (by decide)⟩ (by rw [ev]; exact hI) (by rw [ev]; exact hw)
        rw [ev] at hp
        exact hp
      · intro hok
        cases he : cd_es d with
        | false =>
          have s7 : cd_S d R (q + 1) = 7 := by rw [cd_Ss, hs, c10]; exact cd_s3ef he
          rw [cd_S7 s7 hlt] at hok
          exact absurd hok (by decide)
        | true =>
          have s4 : cd_S d R (q + 1) = 4 := by rw [cd_Ss, hs, c10]; exact cd_s3et he
          by_cases hl2 : q + 1 < n
          · have s7 : cd_S d R (q + 1 + 1) = 7 := by rw [cd_Ss, s4]; exact cd_s4o (g10 c10 he hl2)
            rw [cd_S7 s7 hl2] at hok
            exact absurd hok (by decide)
          · have en : q + 1 = n := by omega
            rw [← en, s4] at hok
            exact absurd hok (by decide)
      · have s3 : cd_S d R (q + 1) = 3 := by rw [cd_Ss, hs]; exact cd_s3o n7 n10
        have ev := cd_vc (d := d) (R := R) (q := q) (by rw [s3, hs]; decide)
        obtain ⟨z1, z2⟩ := cy_vz (d := d) (R := R) (q := q) (p := q + 1) ev
        refine yr_take (w := cd_v d R q) b1 b2 b3 hI (fun ov' rK' hI' => ?_)
        dsimp only
        refine nm_r (nI_1 q) ?_
        have hI2 : cy_I (cd_v d R (q + 1)) m g ov' y_readCounts y_readSizes rK' := by rw [ev]; exact hI'
        have w := ih (q + 1) f ov' rK' (by omega) (by omega) (by omega) (by omega) s3 hI2 (z2.trans hw)
        rw [z1] at w
        exact w
    -- a quote with its sign before it
    have hpair : q + 1 < n → R (q + 1) = 7 → R q = cw_bq d →
        wpY_take (fun u => match u with | (y_records, y_drafted, y_length, y_readRecords, y_readFields, y_readSize, y_readFirst, y_readOver, y_readEven, y_pos, y_end, y_dialect, y_out, y_chars, y_sizes, y_counts, y_draft, y_raw, y_readChars, y_readSizes, y_readCounts) => (∀ p : Int32, p = y_pos + 2 → wY_readQuoted_0 post f y_records y_drafted y_length y_readRecords y_readFields y_readSize y_readFirst y_readOver y_readEven p y_end y_dialect y_out y_chars y_sizes y_counts y_draft y_raw y_readChars y_readSizes y_readCounts)) (y_records, y_drafted, y_length, nI m, nI g, nI (cd_z (cd_v d R q).1), y_readFirst, ov, y_readEven, nI q, nI n, nI d, y_out, y_chars, y_sizes, y_counts, y_draft, y_raw, rK, y_readSizes, y_readCounts) 7 := by
      intro hl2 c7 cq
      have s3 : cd_S d R (q + 1 + 1) = 3 ∧ cd_v d R (q + 1 + 1) = (cd_oA 7 (cd_v d R q).1, cd_mx (cd_v d R q).2.1 (cd_z (cd_v d R q).1 + 1), (cd_v d R q).2.2.1, (cd_v d R q).2.2.2) := by
        have s1 : (cd_S d R (q + 1) = 4 ∨ cd_S d R (q + 1) = 5) ∧ cd_S d R (q + 1 + 1) = 3 := by
          unfold cw_bq at cq
          cases he : cd_es d with
          | true =>
            rw [he] at cq
            have s4 : cd_S d R (q + 1) = 4 := by rw [cd_Ss, hs, show R q = 10 from cq]; exact cd_s3et he
            exact ⟨Or.inl s4, by rw [cd_Ss, s4, c7]; exact cd_s4q⟩
          | false =>
            rw [he] at cq
            have s5 : cd_S d R (q + 1) = 5 := by rw [cd_Ss, hs, show R q = 7 from cq]; exact cd_s3q
            exact ⟨Or.inr s5, by rw [cd_Ss, s5, c7]; exact cd_s5qf he⟩
        refine ⟨s1.2, ?_⟩
        have ev1 : cd_v d R (q + 1) = cd_v d R q := by
          refine cd_vn ?_ ?_ ?_
          · rcases s1.1 with z | z <;> rw [z] <;> decide
          · rcases s1.1 with z | z <;> rw [z] <;> decide
          · rcases s1.1 with z | z
            · rw [z]; exact cd_ct4 _
            · rw [z]; exact cd_ct5 _
        have ev2 := cd_vc (d := d) (R := R) (q := q + 1) (by
          rw [s1.2]
          refine cd_ct3 ?_ ?_
          · rcases s1.1 with z | z <;> rw [z] <;> decide
          · rcases s1.1 with z | z <;> rw [z] <;> decide)
        rw [ev2, c7, ← ev1]
        rfl
      obtain ⟨z1, z2⟩ := cy_vz (d := d) (R := R) (q := q) (p := q + 1 + 1) s3.2
      refine yr_take (w := cd_v d R q) (c := 7) b1 b2 b3 hI (fun ov' rK' hI' => ?_)
      dsimp only
      refine nm_r (cl_p2 q) ?_
      have hI2 : cy_I (cd_v d R (q + 1 + 1)) m g ov' y_readCounts y_readSizes rK' := by rw [s3.2]; exact hI'
      have w := ih (q + 1 + 1) f ov' rK' (by omega) (by omega) (by omega) (by omega) s3.1 hI2 (z2.trans hw)
      rw [z1] at w
      exact w
    have h55 : ∀ b : Bool, (b = true ↔ (q + 1 < n ∧ R (q + 1) = 7)) →
        wY_readQuoted_55 post (wY_readQuoted_0 post f) (nI (R q)) (cd_b b) y_records y_drafted y_length (nI m) (nI g) (nI (cd_z (cd_v d R q).1)) y_readFirst ov y_readEven (nI q) (nI n) (nI d) y_out y_chars y_sizes y_counts y_draft y_raw rK y_readSizes y_readCounts := by
      intro b hb
      have h73 : ∀ k : Nat, k < 100 → k = cw_bq d → wY_readQuoted_73 post (wY_readQuoted_0 post f) (nI (R q)) (cd_b b) (nI k) (nI (R q)) y_records y_drafted y_length (nI m) (nI g) (nI (cd_z (cd_v d R q).1)) y_readFirst ov y_readEven (nI q) (nI n) (nI d) y_out y_chars y_sizes y_counts y_draft y_raw rK y_readSizes y_readCounts := by
        intro k hk ek
        refine pk_eq (R q) k (fun ec => ?_) (fun nc => h99 ?_ ?_)
        · cases b with
          | true =>
            obtain ⟨hl2, c7⟩ := hb.mp rfl
            exact br_f (by decide) (hpair hl2 c7 (ec.trans ek))
          | false =>
            have hnb : ¬ (q + 1 < n ∧ R (q + 1) = 7) := fun z => absurd (hb.mpr z) (by decide)
            exact br_t rfl (h99 (fun _ z => Or.inr (fun z1 => hnb ⟨z, z1⟩)) (fun _ _ z z1 => hnb ⟨z, z1⟩))
        · intro c7 _
          cases he : cd_es d with
          | true => exact Or.inl rfl
          | false =>
            unfold cw_bq at ek
            rw [he] at ek
            exact absurd (c7.trans ek.symm) nc
        · intro c10 he _
          unfold cw_bq at ek
          rw [he] at ek
          exact absurd (c10.trans ek.symm) nc
      rcases cd_a4 d hd with ⟨a, he⟩ | ⟨a, he⟩
      · exact br_t a (h73 7 (by omega) (by unfold cw_bq; rw [he]; rfl))
      · exact br_f a (h73 10 (by omega) (by unfold cw_bq; rw [he]; rfl))
    refine pk_le n (q + 1) (fun z => h55 false ⟨fun x => absurd x (by decide), fun x => absurd x.1 (by omega)⟩) (fun hl2 => ⟨pk_in (q + 1) 98 (by omega), ?_⟩)
    obtain ⟨r10', rq'⟩ := hR (q + 1) hl2
    rw [nI_clamp (by omega), rq']
    exact pk_eq (R (q + 1)) 7 (fun c7 => h55 true ⟨fun _ => ⟨hl2, c7⟩, fun _ => rfl⟩) (fun n7 => h55 false ⟨fun x => absurd x (by decide), fun x => absurd x.2 n7⟩)
/-- the field's end -/
theorem yr_103f {post : Int32 → SY → Prop} {m g : Nat} (hm : m < 1000) (hg : g < 1000)
    (H : ∀ (ov : Int32) (rS : Nat → Int32), post 0 (y_records, y_drafted, y_length, nI m, nI (g + 1), y_readSize, y_readFirst, ov, y_readEven, y_pos, y_end, y_dialect, y_out, y_chars, y_sizes, y_counts, y_draft, y_raw, y_readChars, rS, y_readCounts)) :
    wY_readField_103 post 0 y_records y_drafted y_length (nI m) (nI g) y_readSize y_readFirst y_readOver y_readEven y_pos y_end y_dialect y_out y_chars y_sizes y_counts y_draft y_raw y_readChars y_readSizes y_readCounts := by
  have h157 : wY_readField_157 post 0 y_records y_drafted y_length (nI m) (nI g) y_readSize y_readFirst y_readOver y_readEven y_pos y_end y_dialect y_out y_chars y_sizes y_counts y_draft y_raw y_readChars y_readSizes y_readCounts := nm_r (nI_1 g) ⟨rfl, H _ _⟩
  refine pk_le 6 m (fun _ => h157) (fun h6 => pk_le 5 g (fun _ => h157) (fun h5 => br_c (fun _ => ?_) (fun _ => ?_)))
  · exact ⟨pk_in (5 * m + g) 30 (by omega) (ar_5' m g), nm_e (nm_r (nI_1 g) ⟨rfl, H _ _⟩)⟩
  · exact ⟨pk_in (5 * m + g) 30 (by omega) (ar_5' m g), nm_e (nm_r (nI_1 g) ⟨rfl, H _ _⟩)⟩
theorem yr_103t {post : Int32 → SY → Prop} {w : cd_W} {m g : Nat} (hm : m < 1000) (hg : g < 1000) (hz : cd_z w.1 < 1000) (hI : cy_I w m g y_readOver y_readCounts y_readSizes y_readChars)
    (H : ∀ (ov : Int32) (rS : Nat → Int32), cy_J w m g ov y_readCounts rS y_readChars → post 1 (y_records, y_drafted, y_length, nI m, nI (g + 1), nI (cd_z w.1), y_readFirst, ov, y_readEven, y_pos, y_end, y_dialect, y_out, y_chars, y_sizes, y_counts, y_draft, y_raw, y_readChars, rS, y_readCounts)) :
    wY_readField_103 post 1 y_records y_drafted y_length (nI m) (nI g) (nI (cd_z w.1)) y_readFirst y_readOver y_readEven y_pos y_end y_dialect y_out y_chars y_sizes y_counts y_draft y_raw y_readChars y_readSizes y_readCounts := by
  have h157 : (6 ≤ m ∨ 5 ≤ g) → wY_readField_157 post 1 y_records y_drafted y_length (nI m) (nI g) (nI (cd_z w.1)) y_readFirst y_readOver y_readEven y_pos y_end y_dialect y_out y_chars y_sizes y_counts y_draft y_raw y_readChars y_readSizes y_readCounts := fun z => nm_r (nI_1 g) ⟨rfl, H _ _ (cy_IJo hI z)⟩
  refine pk_le 6 m (fun z => h157 (Or.inl z)) (fun h6 => pk_le 5 g (fun z => h157 (Or.inr z)) (fun h5 => ?_))
  have hJ := cy_IJi hI h6 h5
  refine pk_le 7 (cd_z w.1) (fun z => ?_) (fun z => ?_)
  · rw [if_neg (by omega)] at hJ
    exact ⟨pk_in (5 * m + g) 30 (by omega) (ar_5' m g), nm_r (e' := upd y_readSizes (5 * m + g) (nI 6)) (by rw [ar_5', nI_clamp (by omega)]; rfl) (nm_r (nI_1 g) ⟨rfl, H _ _ hJ⟩)⟩
  · rw [if_pos z] at hJ
    exact ⟨pk_in (5 * m + g) 30 (by omega) (ar_5' m g), nm_r (e' := upd y_readSizes (5 * m + g) (nI (cd_z w.1))) (by rw [ar_5', nI_clamp (by omega)]) (nm_r (nI_1 g) ⟨rfl, H _ _ hJ⟩)⟩
theorem yr_field {post : Int32 → SY → Prop} {m g q : Nat} (hd : d < 8) (hn : n ≤ 98) (hR : ∀ i, i < n → R i ≤ 10 ∧ y_raw i = nI (R i)) (hq : q ≤ n) (hs : cd_S d R q = 0 ∨ cd_S d R q = 1) (h0 : cd_S d R q = 0 → q < n)
    (hI : cy_I (cd_v d R q) m g y_readOver y_readCounts y_readSizes y_readChars) (hz : cd_z (cd_v d R q).1 = 0)
    (H : ∀ (p : Nat) (rs ov : Int32) (rS rK : Nat → Int32), q ≤ p → cy_A d R n p → cy_J (cd_v d R p) m g ov y_readCounts rS rK → (cd_v d R p).2.2 = (cd_v d R q).2.2 →
      post 1 (y_records, y_drafted, y_length, nI m, nI (g + 1), rs, y_readFirst, ov, y_readEven, nI p, nI n, nI d, y_out, y_chars, y_sizes, y_counts, y_draft, y_raw, rK, rS, y_readCounts))
    (H0 : ¬ cd_ok (cd_S d R n) → ∀ (p rs ov : Int32) (rS rK : Nat → Int32), post 0 (y_records, y_drafted, y_length, nI m, nI (g + 1), rs, y_readFirst, ov, y_readEven, p, nI n, nI d, y_out, y_chars, y_sizes, y_counts, y_draft, y_raw, rK, rS, y_readCounts)) :
    wpY_readField post (y_records, y_drafted, y_length, nI m, nI g, y_readSize, y_readFirst, y_readOver, y_readEven, nI q, nI n, nI d, y_out, y_chars, y_sizes, y_counts, y_draft, y_raw, y_readChars, y_readSizes, y_readCounts) := by
  obtain ⟨b1, b2, b3⟩ := cy_vb hI (by omega)
  have hplain : (q < n → R q ≠ 7) → ∃ f, wY_readField_50 post 1 f y_records y_drafted y_length (nI m) (nI g) 0 y_readFirst y_readOver y_readEven (nI q) (nI n) (nI d) y_out y_chars y_sizes y_counts y_draft y_raw y_readChars y_readSizes y_readCounts := by
    intro h7
    have w := yr_plain (post := post) (m := m) (g := g) (q0 := q) (w2 := (cd_v d R q).2.2) hd hn hR (fun p ov rK hp hA hI' hw => by
      obtain ⟨c1, c2, c3⟩ := cy_vb hI' (by have := hA.1; omega)
      exact yr_103t c1 c2 c3 hI' (fun ov' rS hJ => H p _ ov' rS rK hp hA hJ hw)) (n - q) q (n - q + 1) y_readOver y_readChars (by omega) (by omega) (by omega) (by omega) (fun _ => h7) h0 hI rfl
    rw [hz] at w
    exact ⟨_, w⟩
  unfold wpY_readField
  dsimp only
  refine pk_le n q (fun z => hplain (fun x => absurd x (by omega))) (fun hlt => ⟨pk_in q 98 (by omega), ?_⟩)
  rw [nI_clamp (by omega), (hR q hlt).2]
  have r10 := (hR q hlt).1
  refine pk_eq (R q) 7 (fun c7 => nm_r (nI_1 q) ?_) (fun n7 => hplain (fun _ => n7))
  have s3 : cd_S d R (q + 1) = 3 := by rw [cd_Ss, c7]; exact cd_s01q hs
  have ev : cd_v d R (q + 1) = cd_v d R q := cd_vn (by rw [s3]; decide) (by rw [s3]; decide) (by rw [s3]; exact cd_ct03 hs)
  have w := yr_quoted (y_readSizes := y_readSizes) (post := fun r u => match u with | (y_records, y_drafted, y_length, y_readRecords, y_readFields, y_readSize, y_readFirst, y_readOver, y_readEven, y_pos, y_end, y_dialect, y_out, y_chars, y_sizes, y_counts, y_draft, y_raw, y_readChars, y_readSizes, y_readCounts) => wY_readField_103 post r y_records y_drafted y_length y_readRecords y_readFields y_readSize y_readFirst y_readOver y_readEven y_pos y_end y_dialect y_out y_chars y_sizes y_counts y_draft y_raw y_readChars y_readSizes y_readCounts) (m := m) (g := g) (q0 := q) (w2 := (cd_v d R q).2.2) hd hn hR (fun p ov rK hp hA hI' hw => by
      obtain ⟨c1, c2, c3⟩ := cy_vb hI' (by have := hA.1; omega)
      exact yr_103t c1 c2 c3 hI' (fun ov' rS hJ => H p _ ov' rS rK hp hA hJ hw)) (fun hno p rs ov rK => yr_103f b1 b2 (fun ov' rS => H0 hno p rs ov' rS rK)) (n - (q + 1)) (q + 1) (n - (q + 1) + 1) y_readOver y_readChars (by omega) (by omega) (by omega) (by omega) s3 (by rw [ev]; exact hI) (by rw [ev])
  rw [ev, hz] at w
  exact ⟨_, w⟩
end
