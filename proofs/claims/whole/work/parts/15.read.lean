/-! guess, read -/
section
variable {x_draftSize x_recordCount x_rawCount x_writingCount x_scanState x_scanSound x_scanRecords x_scanFields x_scanSize x_scanMostFields x_scanLongest x_scanUneven : Int32} {x_draftCharacters x_fieldCounts x_fieldSizes x_characters x_rawCharacters x_writing : Nat → Int32}
variable {y_records y_drafted y_length y_readRecords y_readFields y_readSize y_readFirst y_readOver y_readEven y_pos y_end y_dialect y_out : Int32} {y_chars y_sizes y_counts y_draft y_raw y_readChars y_readSizes y_readCounts : Nat → Int32}
variable {dn rn ln d : Nat} {D C Z K R : Nat → Nat}
def cd_gs (R : Nat → Nat) (ln : Nat) : Nat → Int32 × Nat
  | 0 => (-4, 0)
  | d + 1 => if cd_ok (cd_S d R ln) ∧ (cd_e d R ln).2.2.2 = false ∧ (cd_gs R ln d).2 < (cd_e d R ln).2.2.1 then (nI d, (cd_e d R ln).2.2.1) else cd_gs R ln d
theorem cd_gs1 (d : Nat) : cd_gs R ln (d + 1) = if cd_ok (cd_S d R ln) ∧ (cd_e d R ln).2.2.2 = false ∧ (cd_gs R ln d).2 < (cd_e d R ln).2.2.1 then (nI d, (cd_e d R ln).2.2.1) else cd_gs R ln d := rfl
theorem cd_eb (d : Nat) (R : Nat → Nat) (n : Nat) : (cd_e d R n).2.2.1 ≤ n + 1 := by
  by_cases h : cd_S d R n = 0
  · rw [cd_e0 h]
    exact cd_mcb d R n
  · rw [cd_en h]
    show cd_mx (cd_mc d R n) (cd_f (cd_t' d R n)) ≤ n + 1
    rw [cd_mxe]
    exact ⟨cd_mcb d R n, (cd_tb1 d R n).2.2.2.2.1⟩
theorem cd_gsb (d : Nat) : (cd_gs R ln d).2 ≤ ln + 1 := by
  induction d with
  | zero => exact Nat.zero_le _
  | succ d ih =>
    rw [cd_gs1]
    split
    · exact cd_eb d R ln
    · exact ih
theorem cd_gs0 (d : Nat) : cd_gs R 0 d = (-4, 0) := by
  induction d with
  | zero => rfl
  | succ d ih =>
    rw [cd_gs1, if_neg (fun z => absurd z.2.2 (Nat.not_lt_zero _))]
    exact ih
theorem cd_e1p (d : Nat) (R : Nat → Nat) (n : Nat) (hn : 0 < n) : 1 ≤ (cd_e d R n).1.1 := by
  obtain ⟨m, rfl⟩ : ∃ m, n = m + 1 := ⟨n - 1, by omega⟩
  rw [(cd_e1 d R (m + 1)).1, cd_ts1]
  have h := (cd_t'p d R m).1
  unfold cd_ts
  split
  · exact h
  · split
    · exact h
    · exact h
theorem xg_loop {post : Int32 → SX → Prop} (hr : cd_tx 96 10 ln R x_rawCount x_rawCharacters)
    (H : ∀ (s1 s2 s3 s4 s5 s6 s7 s8 : Int32), post (cd_gs R ln 8).1 (x_draftSize, x_recordCount, x_rawCount, x_writingCount, s1, s2, s3, s4, s5, s6, s7, s8, x_draftCharacters, x_fieldCounts, x_fieldSizes, x_characters, x_rawCharacters, x_writing)) :
    ∀ (e d f : Nat) (s1 s2 s3 s4 s5 s6 s7 s8 : Int32), d + e = 8 → e < f → wX_guess_7 post f (cd_gs R ln d).1 (nI (cd_gs R ln d).2) (nI d) x_draftSize x_recordCount x_rawCount x_writingCount s1 s2 s3 s4 s5 s6 s7 s8 x_draftCharacters x_fieldCounts x_fieldSizes x_characters x_rawCharacters x_writing := by
  intro e
  induction e with
  | zero =>
    intro d f s1 s2 s3 s4 s5 s6 s7 s8 hd hf
    obtain ⟨f, rfl⟩ : ∃ m, f = m + 1 := ⟨f - 1, by omega⟩
    have ed : d = 8 := by omega
    subst ed
    rw [wX_guess_7]
    exact pk_le 8 8 (fun _ => H s1 s2 s3 s4 s5 s6 s7 s8) (fun z => absurd z (by omega))
  | succ e ih =>
    intro d f s1 s2 s3 s4 s5 s6 s7 s8 hd hf
    obtain ⟨f, rfl⟩ : ∃ m, f = m + 1 := ⟨f - 1, by omega⟩
    rw [wX_guess_7]
    refine pk_le 8 d (fun z => absurd z (by omega)) (fun hd8 => ?_)
    have er : x_rawCount = nI ln := hr.2.1
    have hl : ln ≤ 96 := hr.1
    have bg := cd_gsb (R := R) (ln := ln) d
    have be := cd_eb d R ln
    refine xs_scan hd8 hr (fun j hj hx => ?_)
    dsimp only
    have st : ∀ g : Int32 × Nat, g = cd_gs R ln (d + 1) → ∀ (s1 s2 s3 s4 s5 s6 s7 s8 : Int32), wX_guess_7 post f g.1 (nI g.2) (nI (d + 1)) x_draftSize x_recordCount (nI ln) x_writingCount s1 s2 s3 s4 s5 s6 s7 s8 x_draftCharacters x_fieldCounts x_fieldSizes x_characters x_rawCharacters x_writing := by
      intro g eg s1 s2 s3 s4 s5 s6 s7 s8
      rw [eg, ← er]
      exact ih (d + 1) f s1 s2 s3 s4 s5 s6 s7 s8 (by omega) (by omega)
    have st0 : ¬ (cd_ok (cd_S d R ln) ∧ (cd_e d R ln).2.2.2 = false ∧ (cd_gs R ln d).2 < (cd_e d R ln).2.2.1) → ∀ (s1 s2 s3 s4 s5 s6 s7 s8 : Int32), wX_guess_7 post f (cd_gs R ln d).1 (nI (cd_gs R ln d).2) (nI (d + 1)) x_draftSize x_recordCount (nI ln) x_writingCount s1 s2 s3 s4 s5 s6 s7 s8 x_draftCharacters x_fieldCounts x_fieldSizes x_characters x_rawCharacters x_writing := by
      intro z s1 s2 s3 s4 s5 s6 s7 s8
      exact st (cd_gs R ln d) (by rw [cd_gs1, if_neg z]) s1 s2 s3 s4 s5 s6 s7 s8
    refine xs_reads (cd_Sl d R j) (fun hok => br_f (by decide) ?_) (fun hno => br_t rfl (nm_r (nI_1 d) (st0 (fun z => cd_nokj hj hx hno z.1) _ _ _ _ _ _ _ _)))
    have ej := cd_okj hj hx hok
    subst ej
    cases hu : (cd_e d R j).2.2.2 with
    | true => exact br_f (by decide) (nm_r (nI_1 d) (st0 (fun z => by rw [hu] at z; exact absurd z.2.1 (by decide)) _ _ _ _ _ _ _ _))
    | false =>
      refine br_t rfl (pk_le (cd_e d R j).2.2.1 (cd_gs R j d).2 (fun z => nm_r (nI_1 d) (st0 (fun y => by omega) _ _ _ _ _ _ _ _)) (fun z => nm_r (nI_1 d) ?_))
      exact st (nI d, (cd_e d R j).2.2.1) (by rw [cd_gs1, if_pos ⟨hok, hu, z⟩]) _ _ _ _ _ _ _ _
theorem yg_loop {post : Int32 → SY → Prop} (hr : cd_tx 96 10 ln R y_length y_raw) (hp : 0 < ln)
    (H : ∀ (rr rf rs fi ov ev p en di : Int32) (rK rS rC : Nat → Int32), post (cd_gs R ln 8).1 (y_records, y_drafted, y_length, rr, rf, rs, fi, ov, ev, p, en, di, y_out, y_chars, y_sizes, y_counts, y_draft, y_raw, rK, rS, rC)) :
    ∀ (e d f : Nat) (rr rf rs fi ov ev p en di : Int32) (rK rS rC : Nat → Int32), d + e = 8 → e < f → wY_guess_7 post f (cd_gs R ln d).1 (nI (cd_gs R ln d).2) (nI d) y_records y_drafted y_length rr rf rs fi ov ev p en di y_out y_chars y_sizes y_counts y_draft y_raw rK rS rC := by
  intro e
  induction e with
  | zero =>
    intro d f rr rf rs fi ov ev p en di rK rS rC hd hf
    obtain ⟨f, rfl⟩ : ∃ m, f = m + 1 := ⟨f - 1, by omega⟩
    have ed : d = 8 := by omega
    subst ed
    rw [wY_guess_7]
    exact pk_le 8 8 (fun _ => H rr rf rs fi ov ev p en di rK rS rC) (fun z => absurd z (by omega))
  | succ e ih =>
    intro d f rr rf rs fi ov ev p en di rK rS rC hd hf
    obtain ⟨f, rfl⟩ : ∃ m, f = m + 1 := ⟨f - 1, by omega⟩
    rw [wY_guess_7]
    obtain ⟨r1, rfl, r3⟩ := hr
    have bg := cd_gsb (R := R) (ln := ln) d
    have be := cd_eb d R ln
    have e1 := cd_e1p d R ln hp
    refine pk_le 8 d (fun z => absurd z (by omega)) (fun hd8 => pk_le ln 0 (fun z => absurd z (by omega)) (fun _ => ?_))
    have st : ∀ g : Int32 × Nat, g = cd_gs R ln (d + 1) → ∀ (rr rf rs fi ov ev p en di : Int32) (rK rS rC : Nat → Int32), wY_guess_7 post f g.1 (nI g.2) (nI (d + 1)) y_records y_drafted (nI ln) rr rf rs fi ov ev p en di y_out y_chars y_sizes y_counts y_draft y_raw rK rS rC := by
      intro g eg rr rf rs fi ov ev p en di rK rS rC
      rw [eg]
      exact ih (d + 1) f rr rf rs fi ov ev p en di rK rS rC (by omega) (by omega)
    have st0 : ¬ (cd_ok (cd_S d R ln) ∧ (cd_e d R ln).2.2.2 = false ∧ (cd_gs R ln d).2 < (cd_e d R ln).2.2.1) → ∀ (rr rf rs fi ov ev p en di : Int32) (rK rS rC : Nat → Int32), wY_guess_7 post f (cd_gs R ln d).1 (nI (cd_gs R ln d).2) (nI (d + 1)) y_records y_drafted (nI ln) rr rf rs fi ov ev p en di y_out y_chars y_sizes y_counts y_draft y_raw rK rS rC := by
      intro z rr rf rs fi ov ev p en di rK rS rC
      exact st (cd_gs R ln d) (by rw [cd_gs1, if_neg z]) rr rf rs fi ov ev p en di rK rS rC
    refine yr_reads hd8 (by omega) r3 (fun hok rf rs ov ev fi p rC rS rK hB hE => br_f (by decide) ?_) (fun hno rr rf rs ov ev fi p rC rS rK => br_t rfl (nm_r (nI_1 d) (st0 (fun z => hno z.1) _ _ _ _ _ _ _ _ _ _ _ _)))
    obtain ⟨he, hfi, _⟩ := hE
    subst he
    cases hu : (cd_e d R ln).2.2.2 with
    | true => exact br_t rfl (nm_r (nI_1 d) (st0 (fun z => by rw [hu] at z; exact absurd z.2.1 (by decide)) _ _ _ _ _ _ _ _ _ _ _ _))
    | false =>
      have ef := hfi hu e1
      subst ef
      refine br_f (by decide) (pk_le (cd_e d R ln).2.2.1 (cd_gs R ln d).2 (fun z => nm_r (nI_1 d) (st0 (fun y => by omega) _ _ _ _ _ _ _ _ _ _ _ _)) (fun z => nm_r (nI_1 d) ?_))
      exact st (nI d, (cd_e d R ln).2.2.1) (by rw [cd_gs1, if_pos ⟨hok, hu, z⟩]) _ _ _ _ _ _ _ _ _ _ _ _
theorem i_vc_guess {k : Nat} {u : SX} {v : SY} (I : i_Rel k u v) (hk : k + 4 ≤ 2048) : wpX_guess (fun r u' => wpY_guess (fun r' v' => r' = r ∧ i_Rel (k + 4) u' v') v) u := by
  obtain ⟨dn, rn, ln, D, C, Z, K, R, hX, hY⟩ := I
  obtain ⟨x_draftSize, x_recordCount, x_rawCount, x_writingCount, x_scanState, x_scanSound, x_scanRecords, x_scanFields, x_scanSize, x_scanMostFields, x_scanLongest, x_scanUneven, x_draftCharacters, x_fieldCounts, x_fieldSizes, x_characters, x_rawCharacters, x_writing⟩ := u
  obtain ⟨y_records, y_drafted, y_length, y_readRecords, y_readFields, y_readSize, y_readFirst, y_readOver, y_readEven, y_pos, y_end, y_dialect, y_out, y_chars, y_sizes, y_counts, y_draft, y_raw, y_readChars, y_readSizes, y_readCounts⟩ := v
  obtain ⟨a1, a2, a3, a4⟩ := hX
  obtain ⟨b1, b2, b3, b4⟩ := hY
  refine ⟨9, xg_loop a4 (fun s1 s2 s3 s4 s5 s6 s7 s8 => ?_) 8 0 9 _ _ _ _ _ _ _ _ (by omega) (by omega)⟩
  by_cases h0 : ln = 0
  · subst h0
    rw [cd_gs0]
    refine ⟨1, ?_⟩
    rw [wY_guess_7]
    have e0 : y_length = nI 0 := b4.2.1
    refine pk_le 8 0 (fun z => absurd z (by omega)) (fun _ => pk_le 0 0 (fun _ => ?_) (fun z => absurd z (by omega)) e0)
    exact ⟨rfl, dn, rn, 0, D, C, Z, K, R, ⟨a1, a2, a3, a4⟩, ⟨b1, b2, b3, b4⟩⟩
  · exact ⟨9, yg_loop b4 (by omega) (fun rr rf rs fi ov ev p en di rK rS rC => ⟨rfl, dn, rn, ln, D, C, Z, K, R, ⟨a1, a2, a3, a4⟩, ⟨b1, b2, b3, b4⟩⟩) 8 0 9 _ _ _ _ _ _ _ _ _ _ _ _ (by omega) (by omega)⟩
/-- the reference takes over what it has read -/
theorem yc_108 {post : Int32 → SY → Prop} (H : ∀ ch : Nat → Int32, (∀ j, j < 180 → ch j = y_readChars j) → post y_records (y_records, y_drafted, y_length, y_readRecords, y_readFields, y_readSize, y_readFirst, y_readOver, y_readEven, y_pos, y_end, y_dialect, y_out, ch, y_sizes, y_counts, y_draft, y_raw, y_readChars, y_readSizes, y_readCounts)) :
    ∀ (e i f : Nat) (ch : Nat → Int32), i + e = 180 → e < f → (∀ j, j < i → ch j = y_readChars j) → wY_read_108 post y_records y_drafted y_length y_readRecords y_readFields y_readSize y_readFirst y_readOver y_readEven y_pos y_end y_dialect y_out f (nI i) ch y_sizes y_counts y_draft y_raw y_readChars y_readSizes y_readCounts := by
  intro e
  induction e with
  | zero =>
    intro i f ch hi hf hc
    obtain ⟨f, rfl⟩ : ∃ m, f = m + 1 := ⟨f - 1, by omega⟩
    rw [wY_read_108]
    exact pk_le 180 i (fun _ => H ch (fun j hj => hc j (by omega))) (fun z => absurd z (by omega))
  | succ e ih =>
    intro i f ch hi hf hc
    obtain ⟨f, rfl⟩ : ∃ m, f = m + 1 := ⟨f - 1, by omega⟩
    rw [wY_read_108]
    refine pk_le 180 i (fun z => absurd z (by omega)) (fun _ => ⟨pk_in i 180 (by omega), pk_in i 180 (by omega), nm_r (e' := upd ch i (y_readChars i)) (by rw [nI_clamp (by omega)]) (nm_r (nI_1 i) (ih (i + 1) f _ (by omega) (by omega) (fun j hj => ?_)))⟩)
    by_cases e : j = i
    · rw [e, pk_us]
    · rw [pk_un e]
      exact hc j (by omega)
theorem yc_82 {post : Int32 → SY → Prop} (H : ∀ sz ch : Nat → Int32, (∀ k, k < 30 → sz k = y_readSizes k) → (∀ j, j < 180 → ch j = y_readChars j) → post y_records (y_records, y_drafted, y_length, y_readRecords, y_readFields, y_readSize, y_readFirst, y_readOver, y_readEven, y_pos, y_end, y_dialect, y_out, ch, sz, y_counts, y_draft, y_raw, y_readChars, y_readSizes, y_readCounts)) :
    ∀ (e i f : Nat) (sz : Nat → Int32), i + e = 30 → e < f → (∀ j, j < i → sz j = y_readSizes j) → wY_read_82 post y_records y_drafted y_length y_readRecords y_readFields y_readSize y_readFirst y_readOver y_readEven y_pos y_end y_dialect y_out f (nI i) y_chars sz y_counts y_draft y_raw y_readChars y_readSizes y_readCounts := by
  intro e
  induction e with
  | zero =>
    intro i f sz hi hf hc
    obtain ⟨f, rfl⟩ : ∃ m, f = m + 1 := ⟨f - 1, by omega⟩
    rw [wY_read_82]
    exact pk_le 30 i (fun _ => ⟨181, yc_108 (fun ch hch => H sz ch (fun j hj => hc j (by omega)) hch) 180 0 181 y_chars (by omega) (by omega) (fun j hj => absurd hj (Nat.not_lt_zero j))⟩) (fun z => absurd z (by omega))
  | succ e ih =>
    intro i f sz hi hf hc
    obtain ⟨f, rfl⟩ : ∃ m, f = m + 1 := ⟨f - 1, by omega⟩
    rw [wY_read_82]
    refine pk_le 30 i (fun z => absurd z (by omega)) (fun _ => ⟨pk_in i 30 (by omega), pk_in i 30 (by omega), nm_r (e' := upd sz i (y_readSizes i)) (by rw [nI_clamp (by omega)]) (nm_r (nI_1 i) (ih (i + 1) f _ (by omega) (by omega) (fun j hj => ?_)))⟩)
    by_cases e : j = i
    · rw [e, pk_us]
    · rw [pk_un e]
      exact hc j (by omega)
theorem yc_54 {post : Int32 → SY → Prop} (hr : rn ≤ 6) (H : ∀ cn sz ch : Nat → Int32, (∀ r, r < rn → cn r = y_readCounts r) → (∀ k, k < 30 → sz k = y_readSizes k) → (∀ j, j < 180 → ch j = y_readChars j) → post (nI rn) (nI rn, y_drafted, y_length, y_readRecords, y_readFields, y_readSize, y_readFirst, y_readOver, y_readEven, y_pos, y_end, y_dialect, y_out, ch, sz, cn, y_draft, y_raw, y_readChars, y_readSizes, y_readCounts)) :
    ∀ (e i f : Nat) (cn : Nat → Int32), i + e = rn → e < f → (∀ j, j < i → cn j = y_readCounts j) → wY_read_54 post (nI rn) y_drafted y_length y_readRecords y_readFields y_readSize y_readFirst y_readOver y_readEven y_pos y_end y_dialect y_out f (nI i) y_chars y_sizes cn y_draft y_raw y_readChars y_readSizes y_readCounts := by
  intro e
  induction e with
  | zero =>
    intro i f cn hi hf hc
    obtain ⟨f, rfl⟩ : ∃ m, f = m + 1 := ⟨f - 1, by omega⟩
    rw [wY_read_54]
    exact pk_le rn i (fun _ => ⟨31, yc_82 (fun sz ch hsz hch => H cn sz ch (fun j hj => hc j (by omega)) hsz hch) 30 0 31 y_sizes (by omega) (by omega) (fun j hj => absurd hj (Nat.not_lt_zero j))⟩) (fun z => absurd z (by omega))
  | succ e ih =>
    intro i f cn hi hf hc
    obtain ⟨f, rfl⟩ : ∃ m, f = m + 1 := ⟨f - 1, by omega⟩
    rw [wY_read_54]
    refine pk_le rn i (fun z => absurd z (by omega)) (fun _ => ⟨pk_in i 6 (by omega), pk_in i 6 (by omega), nm_r (e' := upd cn i (y_readCounts i)) (by rw [nI_clamp (by omega)]) (nm_r (nI_1 i) (ih (i + 1) f _ (by omega) (by omega) (fun j hj => ?_)))⟩)
    by_cases e : j = i
    · rw [e, pk_us]
    · rw [pk_un e]
      exact hc j (by omega)
theorem yc_readN {post : Int32 → SY → Prop} (hd : d < 8) (hr : cd_tx 96 10 ln R y_length y_raw) (hno : ¬ cd_ok (cd_S d R ln)) (H : ∀ (rr rf rs fi ov ev p en di : Int32) (rK rS rC : Nat → Int32), post (-5) (y_records, y_drafted, y_length, rr, rf, rs, fi, ov, ev, p, en, di, y_out, y_chars, y_sizes, y_counts, y_draft, y_raw, rK, rS, rC)) : wpY_read post (y_records, y_drafted, y_length, y_readRecords, y_readFields, y_readSize, y_readFirst, y_readOver, y_readEven, y_pos, y_end, y_dialect, y_out, y_chars, y_sizes, y_counts, y_draft, y_raw, y_readChars, y_readSizes, y_readCounts) (nI d) := by
  obtain ⟨r1, rfl, r3⟩ := hr
  unfold wpY_read
  dsimp only
  refine yd_t hd (br_f (by decide) ?_)
  exact yr_reads hd (by omega) r3 (fun hok => absurd hok hno) (fun _ rr rf rs ov ev fi p rC rS rK => br_t rfl (H _ _ _ _ _ _ _ _ _ _ _ _))
theorem yc_readF {post : Int32 → SY → Prop} (hd : d < 8) (hr : cd_tx 96 10 ln R y_length y_raw) (hok : cd_ok (cd_S d R ln)) (hl : ¬ cd_lim (cd_e d R ln)) (H : ∀ (rr rf rs fi ov ev p en di : Int32) (rK rS rC : Nat → Int32), post (-2) (y_records, y_drafted, y_length, rr, rf, rs, fi, ov, ev, p, en, di, y_out, y_chars, y_sizes, y_counts, y_draft, y_raw, rK, rS, rC)) : wpY_read post (y_records, y_drafted, y_length, y_readRecords, y_readFields, y_readSize, y_readFirst, y_readOver, y_readEven, y_pos, y_end, y_dialect, y_out, y_chars, y_sizes, y_counts, y_draft, y_raw, y_readChars, y_readSizes, y_readCounts) (nI d) := by
  obtain ⟨r1, rfl, r3⟩ := hr
  unfold wpY_read
  dsimp only
  refine yd_t hd (br_f (by decide) ?_)
  refine yr_reads hd (by omega) r3 (fun _ rf rs ov ev fi p rC rS rK hB hE => br_f (by decide) ?_) (fun hno => absurd hok hno)
  obtain ⟨h1, h2, b, rfl, h4⟩ := hB
  have hb : b = true := h4.mpr (by unfold cd_lim at hl; omega)
  subst hb
  exact br_f (show ¬ cd_b true = 0 by decide) (H _ _ _ _ _ _ _ _ _ _ _ _)
theorem yc_readT {post : Int32 → SY → Prop} {cn' sz' ch' : Nat → Int32} (hd : d < 8) (hr : cd_tx 96 10 ln R y_length y_raw) (hok : cd_ok (cd_S d R ln)) (hl : cd_lim (cd_e d R ln))
    (hx : cd_tb (cd_t d R ln).1 (cd_t d R ln).2.1 (cd_t d R ln).2.2.1 (cd_t d R ln).2.2.2 cn' sz' ch')
    (H : ∀ (cn sz ch : Nat → Int32) (rr rf rs fi ov ev p en di : Int32) (rK rS rC : Nat → Int32), cd_tb (cd_t d R ln).1 (cd_t d R ln).2.1 (cd_t d R ln).2.2.1 (cd_t d R ln).2.2.2 cn sz ch → post (nI (cd_t d R ln).1) (nI (cd_t d R ln).1, y_drafted, y_length, rr, rf, rs, fi, ov, ev, p, en, di, y_out, ch, sz, cn, y_draft, y_raw, rK, rS, rC)) : wpY_read post (y_records, y_drafted, y_length, y_readRecords, y_readFields, y_readSize, y_readFirst, y_readOver, y_readEven, y_pos, y_end, y_dialect, y_out, y_chars, y_sizes, y_counts, y_draft, y_raw, y_readChars, y_readSizes, y_readCounts) (nI d) := by
  obtain ⟨r1, rfl, r3⟩ := hr
  unfold wpY_read
  dsimp only
  refine yd_t hd (br_f (by decide) ?_)
  refine yr_reads hd (by omega) r3 (fun _ rf rs ov ev fi p rC rS rK hB hE => br_f (by decide) ?_) (fun hno => absurd hok hno)
  have et := (cd_e1 d R ln).1
  obtain ⟨h1, h2, b, rfl, h4⟩ := hB
  have hb : b = false := by
    cases b with
    | false => rfl
    | true =>
      have := h4.mp rfl
      unfold cd_lim at hl
      omega
  subst hb
  have l6 : (cd_t d R ln).1 ≤ 6 := by
    have := hl.1
    rw [et] at this
    exact this
  rw [et] at h2 ⊢
  refine br_t rfl (pk_le (cd_t d R ln).1 6 (fun _ => ⟨7, ?_⟩) (fun z => absurd z (by omega)))
  exact yc_54 l6 (fun cn sz ch k1 k2 k3 => H cn sz ch _ _ _ _ _ _ _ _ _ _ _ _ (cy_tb h2 l6 hx k1 k2 k3)) (cd_t d R ln).1 0 7 y_counts (by omega) (by omega) (fun j hj => absurd hj (Nat.not_lt_zero j))
theorem i_vc_read {k : Nat} {u : SX} {v : SY} (I : i_Rel k u v) (hk : k + 4 ≤ 2048) (v1 : Int32) : wpX_read (fun r u' => wpY_read (fun r' v' => r' = r ∧ i_Rel (k + 4) u' v') v v1) u v1 := by
  have I' := I
  obtain ⟨dn, rn, ln, D, C, Z, K, R, hX, hY⟩ := I
  obtain ⟨x_draftSize, x_recordCount, x_rawCount, x_writingCount, x_scanState, x_scanSound, x_scanRecords, x_scanFields, x_scanSize, x_scanMostFields, x_scanLongest, x_scanUneven, x_draftCharacters, x_fieldCounts, x_fieldSizes, x_characters, x_rawCharacters, x_writing⟩ := u
  obtain ⟨y_records, y_drafted, y_length, y_readRecords, y_readFields, y_readSize, y_readFirst, y_readOver, y_readEven, y_pos, y_end, y_dialect, y_out, y_chars, y_sizes, y_counts, y_draft, y_raw, y_readChars, y_readSizes, y_readCounts⟩ := v
  obtain ⟨a1, a2, a3, a4⟩ := hX
  obtain ⟨b1, b2, b3, b4⟩ := hY
  unfold wpX_read
  dsimp only
  rcases ar_d v1 with hx | ⟨d, hd, rfl⟩
  · exact xd_f hx (br_t rfl (by unfold wpY_read; dsimp only; exact yd_f hx (br_t rfl ⟨rfl, I'⟩)))
  · refine xd_t hd (br_f (by decide) ?_)
    refine xs_scan hd a4 (fun j hj hx => ?_)
    dsimp only
    have er : x_rawCount = nI ln := a4.2.1
    have a4' : cd_tx 96 10 ln R (nI ln) x_rawCharacters := by rw [← er]; exact a4
    have hl96 : ln ≤ 96 := a4.1
    refine xs_reads (cd_Sl d R j) (fun hok => br_f (by decide) ?_) (fun hno => br_t rfl ?_)
    · have ej := cd_okj hj hx hok
      subst ej
      have q1 := cd_tb1 d R j
      have q2 := cd_eb d R j
      have q3 := cd_lgb d R j
      have q4 := cd_e1 d R j
      have hF : ¬ cd_lim (cd_e d R j) → ∀ s1 s2 s3 s4 s5 s6 s7 s8 : Int32, wpY_read (fun r' v' => r' = -2 ∧ i_Rel (k + 4) (x_draftSize, x_recordCount, nI j, x_writingCount, s1, s2, s3, s4, s5, s6, s7, s8, x_draftCharacters, x_fieldCounts, x_fieldSizes, x_characters, x_rawCharacters, x_writing) v') (y_records, y_drafted, y_length, y_readRecords, y_readFields, y_readSize, y_readFirst, y_readOver, y_readEven, y_pos, y_end, y_dialect, y_out, y_chars, y_sizes, y_counts, y_draft, y_raw, y_readChars, y_readSizes, y_readCounts) (nI d) := by
        intro hl s1 s2 s3 s4 s5 s6 s7 s8
        exact yc_readF hd b4 hok hl (fun rr rf rs fi ov ev p en di rK rS rC => ⟨rfl, dn, rn, j, D, C, Z, K, R, ⟨a1, a2, a3, a4'⟩, ⟨b1, b2, b3, b4⟩⟩)
      refine pk_lt 6 (cd_t d R j).1 (fun z => hF (fun y => ?_) _ _ _ _ _ _ _ _) (fun z1 => pk_lt 5 (cd_e d R j).2.2.1 (fun z => hF (fun y => ?_) _ _ _ _ _ _ _ _) (fun z2 => pk_le (cd_lg d R j) 6 (fun z3 => ?_) (fun z => hF (fun y => ?_) _ _ _ _ _ _ _ _)))
      · have := y.1
        rw [q4.1] at this
        omega
      · have := y.2.1
        omega
      · have hlim : cd_lim (cd_e d R j) := by
          refine ⟨?_, by omega, ?_⟩
          · rw [q4.1]
            omega
          · rw [q4.2]
            exact z3
        refine xt_fill hd a4' hlim (fun cn sz ch ht => ?_)
        dsimp only
        exact yc_readT hd b4 hok hlim ht (fun cn2 sz2 ch2 rr rf rs fi ov ev p en di rK rS rC ht2 => ⟨rfl, dn, (cd_t d R j).1, j, D, (cd_t d R j).2.1, (cd_t d R j).2.2.1, (cd_t d R j).2.2.2, R, ⟨a1, ⟨rfl, by omega⟩, ht, a4'⟩, ⟨b1, ⟨rfl, by omega⟩, ht2, b4⟩⟩)
      · have := y.2.2
        rw [q4.2] at this
        omega
    · exact yc_readN hd b4 (cd_nokj hj hx hno) (fun rr rf rs fi ov ev p en di rK rS rC => ⟨rfl, dn, rn, ln, D, C, Z, K, R, ⟨a1, a2, a3, a4'⟩, ⟨b1, b2, b3, b4⟩⟩)
end
