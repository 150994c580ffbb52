/-! read, sound, even, guess -/
section
variable {x_draftSize x_recordCount x_rawCount x_writingCount x_scanState x_scanSound x_scanRecords x_scanFields x_scanSize x_scanMostFields x_scanLongest x_scanUneven : Int32} {x_draftCharacters x_fieldCounts x_fieldSizes x_characters x_rawCharacters x_writing : Nat → Int32}
variable {y_records y_drafted y_length y_readRecords y_readFields y_readSize y_readFirst y_readOver y_readEven y_pos y_end y_dialect y_out : Int32} {y_chars y_sizes y_counts y_draft y_raw y_readChars y_readSizes y_readCounts : Nat → Int32}
variable {dn rn ln d : Nat} {D C Z K R : Nat → Nat}
theorem xd_t {post : Int32 → Prop} (hd : d < 8) (h : post 1) : wpX_isDialect post (nI d) :=
  br_f (nI_pos (by omega)) (br_f (nI_ge (b := 8) hd (by decide)) h)
theorem xd_f {post : Int32 → Prop} {x : Int32} (hx : x < 0 ∨ nI 8 ≤ x) (h : post 0) : wpX_isDialect post x := by
  rcases hx with z | z
  · exact br_t z h
  · exact br_f (ar_ge (by decide) z).1 (br_t z h)
theorem yd_t {post : Int32 → Prop} (hd : d < 8) (h : post 1) : wpY_isDialect post (y_records, y_drafted, y_length, y_readRecords, y_readFields, y_readSize, y_readFirst, y_readOver, y_readEven, y_pos, y_end, y_dialect, y_out, y_chars, y_sizes, y_counts, y_draft, y_raw, y_readChars, y_readSizes, y_readCounts) (nI d) :=
  br_f (nI_pos (by omega)) (br_f (fun z => by rw [cl_gt7 (by omega)] at z; omega) h)
theorem yd_f {post : Int32 → Prop} {x : Int32} (hx : x < 0 ∨ nI 8 ≤ x) (h : post 0) : wpY_isDialect post (y_records, y_drafted, y_length, y_readRecords, y_readFields, y_readSize, y_readFirst, y_readOver, y_readEven, y_pos, y_end, y_dialect, y_out, y_chars, y_sizes, y_counts, y_draft, y_raw, y_readChars, y_readSizes, y_readCounts) x := by
  rcases hx with z | z
  · exact br_t z h
  · exact br_f (ar_ge (by decide) z).1 (br_t (Int32.lt_of_lt_of_le (by decide) z) h)
theorem ar_d (x : Int32) : (x < 0 ∨ nI 8 ≤ x) ∨ ∃ d, d < 8 ∧ x = nI d := by
  rcases pk_ix x (n := 8) (by decide) with z | z | z
  · exact Or.inl (Or.inl z)
  · exact Or.inl (Or.inr z)
  · exact Or.inr z
theorem cd_okj {j : Nat} (hj : j ≤ ln) (hx : j = ln ∨ cd_S d R j = 7) (h : cd_ok (cd_S d R j)) : j = ln := by
  rcases hx with z | z
  · exact z
  · rw [z] at h
    exact absurd h (by decide)
theorem cd_nokj {j : Nat} (hj : j ≤ ln) (hx : j = ln ∨ cd_S d R j = 7) (h : ¬ cd_ok (cd_S d R j)) : ¬ cd_ok (cd_S d R ln) := by
  rcases hx with z | z
  · rw [← z]
    exact h
  · rw [cd_S7 z hj]
    decide
theorem cd_soj {j : Nat} (hj : j ≤ ln) (hx : j = ln ∨ cd_S d R j = 7) : cd_so d R j = cd_so d R ln := by
  rcases hx with z | z
  · rw [z]
  · exact (cd_sos7 z hj).symm
/-- reads, where only its answer counts -/
theorem yr_ok {post : Int32 → SY → Prop} {n : Nat} (hd : d < 8) (hn : n ≤ 98) (hR : ∀ i, i < n → R i ≤ 10 ∧ y_raw i = nI (R i))
    (H : ∀ (b : Bool) (rr rf rs fi ov ev p en di : Int32) (rK rS rC : Nat → Int32), (b = true ↔ cd_ok (cd_S d R n)) → post (cd_b b) (y_records, y_drafted, y_length, rr, rf, rs, fi, ov, ev, p, en, di, y_out, y_chars, y_sizes, y_counts, y_draft, y_raw, rK, rS, rC)) : wpY_reads post (y_records, y_drafted, y_length, y_readRecords, y_readFields, y_readSize, y_readFirst, y_readOver, y_readEven, y_pos, y_end, y_dialect, y_out, y_chars, y_sizes, y_counts, y_draft, y_raw, y_readChars, y_readSizes, y_readCounts) (nI d) (nI n) :=
  yr_reads hd hn hR (fun hok rf rs ov ev fi p rC rS rK _ _ => H true _ rf rs fi ov ev p _ _ rK rS rC ⟨fun _ => hok, fun _ => rfl⟩)
    (fun hno rr rf rs ov ev fi p rC rS rK => H false rr rf rs fi ov ev p _ _ rK rS rC ⟨fun z => absurd z (by decide), fun z => absurd z hno⟩)
theorem yb_back (a : Nat → Int32) (k : Nat) : upd (upd (upd (upd (upd a k 9) k 7) (k + 1) 7) k (a k)) (k + 1) (a (k + 1)) = a := by
  funext j
  by_cases h1 : j = k + 1
  · rw [h1, pk_us]
  · rw [pk_un h1]
    by_cases h0 : j = k
    · rw [h0, pk_us]
    · rw [pk_un h0, pk_un h1, pk_un h0, pk_un h0]
theorem yb_beg {post : Int32 → SY → Prop} {k : Nat} (hd : d < 8) (hk : k ≤ 96) (hR : ∀ i, i < k → R i ≤ 10 ∧ y_raw i = nI (R i))
    (H1 : cd_S d R k ≠ 7 → ∀ (rr rf rs fi ov ev p en di : Int32) (rK rS rC : Nat → Int32), post 1 (y_records, y_drafted, y_length, rr, rf, rs, fi, ov, ev, p, en, di, y_out, y_chars, y_sizes, y_counts, y_draft, y_raw, rK, rS, rC)) (H0 : cd_S d R k = 7 → ∀ (rr rf rs fi ov ev p en di : Int32) (rK rS rC : Nat → Int32), post 0 (y_records, y_drafted, y_length, rr, rf, rs, fi, ov, ev, p, en, di, y_out, y_chars, y_sizes, y_counts, y_draft, y_raw, rK, rS, rC)) : wpY_isBeginning post (y_records, y_drafted, y_length, y_readRecords, y_readFields, y_readSize, y_readFirst, y_readOver, y_readEven, y_pos, y_end, y_dialect, y_out, y_chars, y_sizes, y_counts, y_draft, y_raw, y_readChars, y_readSizes, y_readCounts) (nI d) (nI k) := by
  have hb := cd_beg (d := d) (cd_Sl d R k)
  have e1 : nI k + 1 = nI (k + 1) := nI_1 k
  have e2 : nI k + 2 = nI (k + 2) := cl_p2 k
  have c1 : (nI k).toNatClampNeg = k := nI_clamp (by omega)
  have c2 : (nI (k + 1)).toNatClampNeg = k + 1 := nI_clamp (by omega)
  have v1 : vp_in (nI k) 98 := pk_in k 98 (by omega)
  have v2 : vp_in (nI (k + 1)) 98 := pk_in (k + 1) 98 (by omega)
  have sA : cd_S d (cd_up R k 9) (k + 1) = cd_stp d (cd_S d R k) 9 := by
    rw [cd_Ss, cd_us]
    rw [cd_Sc (R := cd_up R k 9) (R' := R) (fun i hi => cd_un (by omega))]
  have sB : cd_S d (cd_up (cd_up R k 7) (k + 1) 7) (k + 1) = cd_stp d (cd_S d R k) 7 := by
    rw [cd_Ss, cd_un (by omega), cd_us]
    rw [cd_Sc (R := cd_up (cd_up R k 7) (k + 1) 7) (R' := R) (fun i hi => by rw [cd_un (by omega), cd_un (by omega)])]
  have sC : cd_S d (cd_up (cd_up R k 7) (k + 1) 7) (k + 2) = cd_stp d (cd_stp d (cd_S d R k) 7) 7 := by
    have e : cd_S d (cd_up (cd_up R k 7) (k + 1) 7) (k + 2) = cd_stp d (cd_S d (cd_up (cd_up R k 7) (k + 1) 7) (k + 1)) (cd_up (cd_up R k 7) (k + 1) 7 (k + 1)) := rfl
    rw [e, sB, cd_us]
  have hRA : ∀ i, i < k + 1 → cd_up R k 9 i ≤ 10 ∧ upd y_raw k 9 i = nI (cd_up R k 9 i) := by
    intro i hi
    by_cases e : i = k
    · rw [e, cd_us, pk_us]
      exact ⟨by omega, rfl⟩
    · rw [cd_un e, pk_un e]
      exact hR i (by omega)
  have hRB : ∀ i, i < k + 2 → cd_up (cd_up R k 7) (k + 1) 7 i ≤ 10 ∧ upd (upd (upd y_raw k 9) k 7) (k + 1) 7 i = nI (cd_up (cd_up R k 7) (k + 1) 7 i) := by
    intro i hi
    by_cases e : i = k + 1
    · rw [e, cd_us, pk_us]
      exact ⟨by omega, rfl⟩
    · rw [cd_un e, pk_un e]
      by_cases e0 : i = k
      · rw [e0, cd_us, pk_us]
        exact ⟨by omega, rfl⟩
      · rw [cd_un e0, pk_un e0, pk_un e0]
        exact hR i (by omega)
  -- the end: the raw text as it was
  have h91 : ∀ (bA bZ : Bool), (bA = true ↔ cd_ok (cd_stp d (cd_S d R k) 9)) → (bZ = true ↔ (cd_ok (cd_stp d (cd_S d R k) 7) ∨ cd_ok (cd_stp d (cd_stp d (cd_S d R k) 7) 7))) → ¬ cd_ok (cd_S d R k) →
      ∀ (rr rf rs fi ov ev p en di : Int32) (rK rS rC : Nat → Int32), wY_isBeginning_91 post (nI k) (y_raw k) (y_raw (k + 1)) (cd_b bA) (cd_b bZ) y_records y_drafted y_length rr rf rs fi ov ev p en di y_out y_chars y_sizes y_counts y_draft (upd (upd (upd y_raw k 9) k 7) (k + 1) 7) rK rS rC := by
    intro bA bZ hA hZ hno rr rf rs fi ov ev p en di rK rS rC
    refine ⟨v1, nm_r (e' := upd (upd (upd (upd y_raw k 9) k 7) (k + 1) 7) k (y_raw k)) (by rw [c1]) ?_⟩
    rw [e1]
    refine ⟨v2, nm_r (e' := y_raw) (by rw [c2]; exact yb_back y_raw k) ?_⟩
    cases bA with
    | true => exact br_f (by decide) (H1 (hb.mp (Or.inr (Or.inl (hA.mp rfl)))) rr rf rs fi ov ev p en di rK rS rC)
    | false =>
      refine br_t rfl ?_
      cases bZ with
      | true => exact br_f (by decide) (H1 (hb.mp (Or.inr (Or.inr (hZ.mp rfl)))) rr rf rs fi ov ev p en di rK rS rC)
      | false =>
        refine br_t rfl (H0 ?_ rr rf rs fi ov ev p en di rK rS rC)
        by_cases z : cd_S d R k = 7
        · exact z
        · rcases hb.mpr z with y | y | y
          · exact absurd y hno
          · exact absurd (hA.mpr y) (by decide)
          · exact absurd (hZ.mpr y) (by decide)
  unfold wpY_isBeginning
  dsimp only
  refine yr_ok hd (by omega) hR (fun b rr rf rs fi ov ev p en di rK rS rC hb0 => ?_)
  dsimp only
  cases b with
  | true => exact br_f (by decide) (H1 (hb.mp (Or.inl (hb0.mp rfl))) _ _ _ _ _ _ _ _ _ _ _ _)
  | false =>
    have hno : ¬ cd_ok (cd_S d R k) := fun z => absurd (hb0.mpr z) (by decide)
    refine br_t rfl ⟨v1, nm_r (e' := y_raw k) (by rw [c1]) ?_⟩
    rw [e1, e2]
    refine ⟨v2, nm_r (e' := y_raw (k + 1)) (by rw [c2]) ⟨v1, nm_r (e' := upd y_raw k 9) (by rw [c1]) ?_⟩⟩
    refine yr_ok hd (by omega) hRA (fun bA rr rf rs fi ov ev p en di rK rS rC hA => ?_)
    dsimp only
    rw [sA] at hA
    refine ⟨v1, nm_r (e' := upd (upd y_raw k 9) k 7) (by rw [c1]) ⟨v2, nm_r (e' := upd (upd (upd y_raw k 9) k 7) (k + 1) 7) (by rw [c2]) ?_⟩⟩
    refine yr_ok hd (by omega) (fun i hi => hRB i (by omega)) (fun bB rr rf rs fi ov ev p en di rK rS rC hB => ?_)
    dsimp only
    rw [sB] at hB
    cases bB with
    | true => exact br_f (by decide) (h91 bA true hA ⟨fun _ => Or.inl (hB.mp rfl), fun _ => rfl⟩ hno _ _ _ _ _ _ _ _ _ _ _ _)
    | false =>
      have nB : ¬ cd_ok (cd_stp d (cd_S d R k) 7) := fun z => absurd (hB.mpr z) (by decide)
      refine br_t rfl ?_
      refine yr_ok hd (by omega) hRB (fun bC rr rf rs fi ov ev p en di rK rS rC hC => ?_)
      dsimp only
      rw [sC] at hC
      cases bC with
      | true => exact br_f (by decide) (h91 bA true hA ⟨fun _ => Or.inr (hC.mp rfl), fun _ => rfl⟩ hno _ _ _ _ _ _ _ _ _ _ _ _)
      | false =>
        refine br_t rfl (h91 bA false hA ⟨fun z => absurd z (by decide), fun z => ?_⟩ hno _ _ _ _ _ _ _ _ _ _ _ _)
        rcases z with z | z
        · exact absurd z nB
        · exact absurd (hC.mpr z) (by decide)
theorem yb_loop {post : Int32 → SY → Prop} (hd : d < 8) (hl : ln ≤ 96) (hR : ∀ i, i < ln → R i ≤ 10 ∧ y_raw i = nI (R i))
    (H : ∀ (rr rf rs fi ov ev p en di : Int32) (rK rS rC : Nat → Int32), post (nI (cd_so d R ln)) (y_records, y_drafted, y_length, rr, rf, rs, fi, ov, ev, p, en, di, y_out, y_chars, y_sizes, y_counts, y_draft, y_raw, rK, rS, rC)) :
    ∀ (k f : Nat) (rr rf rs fi ov ev p en di : Int32) (rK rS rC : Nat → Int32), k ≤ ln → k < f → (∀ j, k < j → j ≤ ln → cd_S d R j = 7) → wY_sound_15 post (nI d) f (nI k) y_records y_drafted y_length rr rf rs fi ov ev p en di y_out y_chars y_sizes y_counts y_draft y_raw rK rS rC := by
  intro k
  induction k with
  | zero =>
    intro f rr rf rs fi ov ev p en di rK rS rC hk hf h7
    obtain ⟨f, rfl⟩ : ∃ m, f = m + 1 := ⟨f - 1, by omega⟩
    rw [wY_sound_15]
    have w := H rr rf rs fi ov ev p en di rK rS rC
    rw [cd_so_k (k := 0) hk (show cd_S d R 0 ≠ 7 from (by decide : (0 : Nat) ≠ 7)) h7] at w
    exact pk_le 0 0 (fun _ => w) (fun z => absurd z (by omega))
  | succ k ih =>
    intro f rr rf rs fi ov ev p en di rK rS rC hk hf h7
    obtain ⟨f, rfl⟩ : ∃ m, f = m + 1 := ⟨f - 1, by omega⟩
    rw [wY_sound_15]
    refine pk_le (k + 1) 0 (fun z => absurd z (by omega)) (fun _ => ?_)
    refine yb_beg hd (by omega) (fun i hi => hR i (by omega)) (fun hs rr rf rs fi ov ev p en di rK rS rC => br_f (by decide) ?_) (fun hs rr rf rs fi ov ev p en di rK rS rC => br_t rfl (nm_r (pk_m1 k) ?_))
    · have w := H rr rf rs fi ov ev p en di rK rS rC
      rw [cd_so_k (k := k + 1) hk hs h7] at w
      exact w
    · refine ih f rr rf rs fi ov ev p en di rK rS rC (by omega) (by omega) (fun j h1 h2 => ?_)
      by_cases e : j = k + 1
      · rw [e]
        exact hs
      · exact h7 j (by omega) h2
theorem i_vc_sound {k : Nat} {u : SX} {v : SY} (I : i_Rel k u v) (hk : k + 4 ≤ 2048) (v1 : Int32) : wpX_sound (fun r u' => wpY_sound (fun r' v' => r' = r ∧ i_Rel (k + 4) u' v') v v1) u v1 := by
  have I' := I
  obtain ⟨dn, rn, ln, D, C, Z, K, R, hX, hY⟩ := I
  obtain ⟨x_draftSize, x_recordCount, x_rawCount, x_writingCount, x_scanState, x_scanSound, x_scanRecords, x_scanFields, x_scanSize, x_scanMostFields, x_scanLongest, x_scanUneven, x_draftCharacters, x_fieldCounts, x_fieldSizes, x_characters, x_rawCharacters, x_writing⟩ := u
  obtain ⟨y_records, y_drafted, y_length, y_readRecords, y_readFields, y_readSize, y_readFirst, y_readOver, y_readEven, y_pos, y_end, y_dialect, y_out, y_chars, y_sizes, y_counts, y_draft, y_raw, y_readChars, y_readSizes, y_readCounts⟩ := v
  obtain ⟨a1, a2, a3, a4⟩ := hX
  obtain ⟨b1, b2, b3, b4⟩ := hY
  unfold wpX_sound wpY_sound
  dsimp only
  rcases ar_d v1 with hx | ⟨d, hd, rfl⟩
  · exact xd_f hx (br_t rfl (yd_f hx (br_t rfl ⟨rfl, I'⟩)))
  · refine xd_t hd (br_f (by decide) ?_)
    refine xs_scan hd a4 (fun j hj hx => ?_)
    dsimp only
    rw [cd_soj hj hx]
    obtain ⟨c1, rfl, c3⟩ := b4
    refine yd_t hd (br_f (by decide) ⟨ln + 1, ?_⟩)
    exact yb_loop hd c1 c3 (fun rr rf rs fi ov ev p en di rK rS rC => ⟨rfl, dn, rn, ln, D, C, Z, K, R, ⟨a1, a2, a3, a4.1, rfl, a4.2.2⟩, ⟨b1, b2, b3, c1, rfl, c3⟩⟩) ln (ln + 1) _ _ _ _ _ _ _ _ _ _ _ _ (Nat.le_refl ln) (by omega) (fun j h1 h2 => absurd h1 (by omega))
/-- even -/
def cd_ev (R : Nat → Nat) (ln : Nat) : Nat → Int32
  | 0 => 0
  | d + 1 => if cd_ok (cd_S d R ln) ∧ (cd_e d R ln).2.2.2 = false then cd_ev R ln d + ((1 : Int32) <<< (nI d &&& 31)) else cd_ev R ln d
theorem xe_loop {post : Int32 → SX → Prop} (hr : cd_tx 96 10 ln R x_rawCount x_rawCharacters)
    (H : ∀ (s1 s2 s3 s4 s5 s6 s7 s8 : Int32), post (cd_ev R ln 8) (x_draftSize, x_recordCount, x_rawCount, x_writingCount, s1, s2, s3, s4, s5, s6, s7, s8, x_draftCharacters, x_fieldCounts, x_fieldSizes, x_characters, x_rawCharacters, x_writing)) :
    ∀ (e d f : Nat) (s1 s2 s3 s4 s5 s6 s7 s8 : Int32), d + e = 8 → e < f → wX_even_4 post f (cd_ev R ln d) (nI d) x_draftSize x_recordCount x_rawCount x_writingCount s1 s2 s3 s4 s5 s6 s7 s8 x_draftCharacters x_fieldCounts x_fieldSizes x_characters x_rawCharacters x_writing := by
  intro e
  induction e with
  | zero =>
    intro d f s1 s2 s3 s4 s5 s6 s7 s8 hd hf
    obtain ⟨f, rfl⟩ : ∃ m, f = m + 1 := ⟨f - 1, by omega⟩
    have ed : d = 8 := by omega
    subst ed
    rw [wX_even_4]
    exact pk_le 8 8 (fun _ => H s1 s2 s3 s4 s5 s6 s7 s8) (fun z => absurd z (by omega))
  | succ e ih =>
    intro d f s1 s2 s3 s4 s5 s6 s7 s8 hd hf
    obtain ⟨f, rfl⟩ : ∃ m, f = m + 1 := ⟨f - 1, by omega⟩
    rw [wX_even_4]
    refine pk_le 8 d (fun z => absurd z (by omega)) (fun hd8 => ?_)
    have er : x_rawCount = nI ln := hr.2.1
    refine xs_scan hd8 hr (fun j hj hx => ?_)
    dsimp only
    have st : ∀ x : Int32, x = cd_ev R ln (d + 1) → ∀ (s1 s2 s3 s4 s5 s6 s7 s8 : Int32), wX_even_4 post f x (nI (d + 1)) x_draftSize x_recordCount (nI ln) x_writingCount s1 s2 s3 s4 s5 s6 s7 s8 x_draftCharacters x_fieldCounts x_fieldSizes x_characters x_rawCharacters x_writing := by
      intro x ex s1 s2 s3 s4 s5 s6 s7 s8
      rw [ex, ← er]
      exact ih (d + 1) f s1 s2 s3 s4 s5 s6 s7 s8 (by omega) (by omega)
    have edf : cd_ev R ln (d + 1) = if cd_ok (cd_S d R ln) ∧ (cd_e d R ln).2.2.2 = false then cd_ev R ln d + ((1 : Int32) <<< (nI d &&& 31)) else cd_ev R ln d := rfl
    refine xs_reads (cd_Sl d R j) (fun hok => br_f (by decide) ?_) (fun hno => br_t rfl (nm_r (nI_1 d) (st _ ?_ _ _ _ _ _ _ _ _)))
    · have ej := cd_okj hj hx hok
      subst ej
      cases hu : (cd_e d R j).2.2.2 with
      | false => exact br_t rfl (nm_e (nm_r (nI_1 d) (st _ (by rw [edf, if_pos ⟨hok, hu⟩]) _ _ _ _ _ _ _ _)))
      | true => exact br_f (by decide) (nm_r (nI_1 d) (st _ (by rw [edf, if_neg (fun z => by rw [hu] at z; exact absurd z.2 (by decide))]) _ _ _ _ _ _ _ _))
    · rw [edf, if_neg (fun z => cd_nokj hj hx hno z.1)]
theorem ye_loop {post : Int32 → SY → Prop} (hr : cd_tx 96 10 ln R y_length y_raw)
    (H : ∀ (rr rf rs fi ov ev p en di : Int32) (rK rS rC : Nat → Int32), post (cd_ev R ln 8) (y_records, y_drafted, y_length, rr, rf, rs, fi, ov, ev, p, en, di, y_out, y_chars, y_sizes, y_counts, y_draft, y_raw, rK, rS, rC)) :
    ∀ (e d f : Nat) (rr rf rs fi ov ev p en di : Int32) (rK rS rC : Nat → Int32), d + e = 8 → e < f → wY_even_4 post f (cd_ev R ln d) (nI d) y_records y_drafted y_length rr rf rs fi ov ev p en di y_out y_chars y_sizes y_counts y_draft y_raw rK rS rC := by
  intro e
  induction e with
  | zero =>
    intro d f rr rf rs fi ov ev p en di rK rS rC hd hf
    obtain ⟨f, rfl⟩ : ∃ m, f = m + 1 := ⟨f - 1, by omega⟩
    have ed : d = 8 := by omega
    subst ed
    rw [wY_even_4]
    exact pk_le 8 8 (fun _ => H rr rf rs fi ov ev p en di rK rS rC) (fun z => absurd z (by omega))
  | succ e ih =>
    intro d f rr rf rs fi ov ev p en di rK rS rC hd hf
    obtain ⟨f, rfl⟩ : ∃ m, f = m + 1 := ⟨f - 1, by omega⟩
    rw [wY_even_4]
    refine pk_le 8 d (fun z => absurd z (by omega)) (fun hd8 => ?_)
    obtain ⟨r1, rfl, r3⟩ := hr
    have edf : cd_ev R ln (d + 1) = if cd_ok (cd_S d R ln) ∧ (cd_e d R ln).2.2.2 = false then cd_ev R ln d + ((1 : Int32) <<< (nI d &&& 31)) else cd_ev R ln d := rfl
    have st : ∀ x : Int32, x = cd_ev R ln (d + 1) → ∀ (rr rf rs fi ov ev p en di : Int32) (rK rS rC : Nat → Int32), wY_even_4 post f x (nI (d + 1)) y_records y_drafted (nI ln) rr rf rs fi ov ev p en di y_out y_chars y_sizes y_counts y_draft y_raw rK rS rC := by
      intro x ex rr rf rs fi ov ev p en di rK rS rC
      rw [ex]
      exact ih (d + 1) f rr rf rs fi ov ev p en di rK rS rC (by omega) (by omega)
    refine yr_reads hd8 (by omega) r3 (fun hok rf rs ov ev fi p rC rS rK hB hE => br_f (by decide) ?_) (fun hno rr rf rs ov ev fi p rC rS rK => br_t rfl (nm_r (nI_1 d) (st _ ?_ _ _ _ _ _ _ _ _ _ _ _ _)))
    · have he := hE.1
      subst he
      cases hu : (cd_e d R ln).2.2.2 with
      | false => exact br_f (by decide) (nm_e (nm_r (nI_1 d) (st _ (by rw [edf, if_pos ⟨hok, hu⟩]) _ _ _ _ _ _ _ _ _ _ _ _)))
      | true => exact br_t rfl (nm_r (nI_1 d) (st _ (by rw [edf, if_neg (fun z => by rw [hu] at z; exact absurd z.2 (by decide))]) _ _ _ _ _ _ _ _ _ _ _ _))
    · rw [edf, if_neg (fun z => hno z.1)]
theorem i_vc_even {k : Nat} {u : SX} {v : SY} (I : i_Rel k u v) (hk : k + 4 ≤ 2048) : wpX_even (fun r u' => wpY_even (fun r' v' => r' = r ∧ i_Rel (k + 4) u' v') v) u := by
  obtain ⟨dn, rn, ln, D, C, Z, K, R, hX, hY⟩ := I
  obtain ⟨x_draftSize, x_recordCount, x_rawCount, x_writingCount, x_scanState, x_scanSound, x_scanRecords, x_scanFields, x_scanSize, x_scanMostFields, x_scanLongest, x_scanUneven, x_draftCharacters, x_fieldCounts, x_fieldSizes, x_characters, x_rawCharacters, x_writing⟩ := u
  obtain ⟨y_records, y_drafted, y_length, y_readRecords, y_readFields, y_readSize, y_readFirst, y_readOver, y_readEven, y_pos, y_end, y_dialect, y_out, y_chars, y_sizes, y_counts, y_draft, y_raw, y_readChars, y_readSizes, y_readCounts⟩ := v
  obtain ⟨a1, a2, a3, a4⟩ := hX
  obtain ⟨b1, b2, b3, b4⟩ := hY
  refine ⟨9, xe_loop a4 (fun s1 s2 s3 s4 s5 s6 s7 s8 => ⟨9, ye_loop b4 (fun rr rf rs fi ov ev p en di rK rS rC => ⟨rfl, dn, rn, ln, D, C, Z, K, R, ⟨a1, a2, a3, a4⟩, ⟨b1, b2, b3, b4⟩⟩) 8 0 9 _ _ _ _ _ _ _ _ _ _ _ _ (by omega) (by omega)⟩) 8 0 9 _ _ _ _ _ _ _ _ (by omega) (by omega)⟩
end
