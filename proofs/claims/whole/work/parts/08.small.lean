/-! the relation, and the methods without a loop -/
def cr_X (dn rn ln : Nat) (D C Z K R : Nat → Nat) (u : SX) : Prop := match u with
  | (x_draftSize, x_recordCount, x_rawCount, x_writingCount, x_scanState, x_scanSound, x_scanRecords, x_scanFields, x_scanSize, x_scanMostFields, x_scanLongest, x_scanUneven, x_draftCharacters, x_fieldCounts, x_fieldSizes, x_characters, x_rawCharacters, x_writing) => cd_tx 6 9 dn D x_draftSize x_draftCharacters ∧ (x_recordCount = nI rn ∧ rn ≤ 6) ∧ cd_tb rn C Z K x_fieldCounts x_fieldSizes x_characters ∧ cd_tx 96 10 ln R x_rawCount x_rawCharacters
def cr_Y (dn rn ln : Nat) (D C Z K R : Nat → Nat) (v : SY) : Prop := match v with
  | (y_records, y_drafted, y_length, y_readRecords, y_readFields, y_readSize, y_readFirst, y_readOver, y_readEven, y_pos, y_end, y_dialect, y_out, y_chars, y_sizes, y_counts, y_draft, y_raw, y_readChars, y_readSizes, y_readCounts) => cd_tx 6 9 dn D y_drafted y_draft ∧ (y_records = nI rn ∧ rn ≤ 6) ∧ cd_tb rn C Z K y_counts y_sizes y_chars ∧ cd_tx 96 10 ln R y_length y_raw
def i_Rel (_ : Nat) (u : SX) (v : SY) : Prop := ∃ (dn rn ln : Nat) (D C Z K R : Nat → Nat), cr_X dn rn ln D C Z K R u ∧ cr_Y dn rn ln D C Z K R v
theorem i_up {k : Nat} {u : SX} {v : SY} (h : i_Rel k u v) : i_Rel (k + 4) u v := h
theorem i_vc0 : wpX_init (fun u => wpY_init (fun v => i_Rel 0 u v)) :=
  ⟨0, 0, 0, fun _ => 0, fun _ => 0, fun _ => 0, fun _ => 0, fun _ => 0, ⟨cd_tx0, ⟨rfl, Nat.zero_le 6⟩, cd_tb0, cd_tx0⟩, ⟨cd_tx0, ⟨rfl, Nat.zero_le 6⟩, cd_tb0, cd_tx0⟩⟩
theorem ar_ge {x : Int32} {n : Nat} (hn : n < 2 ^ 31) (h : nI n ≤ x) : ¬ x < 0 ∧ ¬ x < nI n :=
  ⟨Int32.not_lt.mpr (Int32.le_trans (nI_pos' hn) h), Int32.not_lt.mpr h⟩
section
variable {x_draftSize x_recordCount x_rawCount x_writingCount x_scanState x_scanSound x_scanRecords x_scanFields x_scanSize x_scanMostFields x_scanLongest x_scanUneven : Int32} {x_draftCharacters x_fieldCounts x_fieldSizes x_characters x_rawCharacters x_writing : Nat → Int32}
variable {y_records y_drafted y_length y_readRecords y_readFields y_readSize y_readFirst y_readOver y_readEven y_pos y_end y_dialect y_out : Int32} {y_chars y_sizes y_counts y_draft y_raw y_readChars y_readSizes y_readCounts : Nat → Int32}
variable {dn rn ln : Nat} {D C Z K R : Nat → Nat}
theorem i_vc_draft {k : Nat} {u : SX} {v : SY} (I : i_Rel k u v) (hk : k + 4 ≤ 2048) (v1 : Int32) : wpX_draft (fun r u' => wpY_draft (fun r' v' => r' = r ∧ i_Rel (k + 4) u' v') v v1) u v1 := by
  obtain ⟨dn, rn, ln, D, C, Z, K, R, hX, hY⟩ := I
  obtain ⟨x_draftSize, x_recordCount, x_rawCount, x_writingCount, x_scanState, x_scanSound, x_scanRecords, x_scanFields, x_scanSize, x_scanMostFields, x_scanLongest, x_scanUneven, x_draftCharacters, x_fieldCounts, x_fieldSizes, x_characters, x_rawCharacters, x_writing⟩ := u
  obtain ⟨y_records, y_drafted, y_length, y_readRecords, y_readFields, y_readSize, y_readFirst, y_readOver, y_readEven, y_pos, y_end, y_dialect, y_out, y_chars, y_sizes, y_counts, y_draft, y_raw, y_readChars, y_readSizes, y_readCounts⟩ := v
  have hX' := hX
  have hY' := hY
  obtain ⟨⟨a1, rfl, a3⟩, a4, a5, a6⟩ := hX
  obtain ⟨⟨b1, rfl, b3⟩, b4, b5, b6⟩ := hY
  unfold wpX_draft wpY_draft
  dsimp only
  rcases pk_ix v1 (n := 10) (by decide) with h | h | ⟨c, hc, rfl⟩
  · exact br_t h (br_t h ⟨rfl, dn, rn, ln, D, C, Z, K, R, hX', hY'⟩)
  · have g := ar_ge (by decide) h
    exact br_f g.1 (br_f g.2 (br_f g.1 (br_f (fun z => g.2 (Int32.lt_of_le_of_lt z (by decide))) ⟨rfl, dn, rn, ln, D, C, Z, K, R, hX', hY'⟩)))
  · refine br_f (nI_pos (by omega)) (br_t (nI_lt (b := 10) hc (by decide)) ?_)
    refine pk_lt dn 6 (fun h6 => ⟨pk_in dn 6 h6, nm_r (e' := upd x_draftCharacters dn (nI c)) (by rw [nI_clamp (by omega)]) (nm_r (nI_1 dn) ?_)⟩) (fun h6 => ?_)
    · refine br_f (nI_pos (by omega)) (br_t (nI_le (b := 9) (by omega) (by decide)) ?_)
      refine pk_eq dn 6 (fun e => absurd e (by omega)) (fun _ => ⟨pk_in dn 6 h6, nm_r (e' := upd y_draft dn (nI c)) (by rw [nI_clamp (by omega)]) (nm_r (nI_1 dn) ?_)⟩)
      exact ⟨rfl, dn + 1, rn, ln, cd_up D dn c, C, Z, K, R, ⟨cd_txU ⟨a1, rfl, a3⟩ h6 (by omega), a4, a5, a6⟩, ⟨cd_txU ⟨b1, rfl, b3⟩ h6 (by omega), b4, b5, b6⟩⟩
    · refine br_f (nI_pos (by omega)) (br_t (nI_le (b := 9) (by omega) (by decide)) ?_)
      exact pk_eq dn 6 (fun _ => ⟨rfl, dn, rn, ln, D, C, Z, K, R, hX', hY'⟩) (fun e => absurd (by omega) e)
theorem i_vc_raw {k : Nat} {u : SX} {v : SY} (I : i_Rel k u v) (hk : k + 4 ≤ 2048) (v1 : Int32) : wpX_raw (fun r u' => wpY_raw (fun r' v' => r' = r ∧ i_Rel (k + 4) u' v') v v1) u v1 := by
  obtain ⟨dn, rn, ln, D, C, Z, K, R, hX, hY⟩ := I
  obtain ⟨x_draftSize, x_recordCount, x_rawCount, x_writingCount, x_scanState, x_scanSound, x_scanRecords, x_scanFields, x_scanSize, x_scanMostFields, x_scanLongest, x_scanUneven, x_draftCharacters, x_fieldCounts, x_fieldSizes, x_characters, x_rawCharacters, x_writing⟩ := u
  obtain ⟨y_records, y_drafted, y_length, y_readRecords, y_readFields, y_readSize, y_readFirst, y_readOver, y_readEven, y_pos, y_end, y_dialect, y_out, y_chars, y_sizes, y_counts, y_draft, y_raw, y_readChars, y_readSizes, y_readCounts⟩ := v
  have hX' := hX
  have hY' := hY
  obtain ⟨a4, a5, a6, ⟨a1, rfl, a3⟩⟩ := hX
  obtain ⟨b4, b5, b6, ⟨b1, rfl, b3⟩⟩ := hY
  unfold wpX_raw wpY_raw
  dsimp only
  rcases pk_ix v1 (n := 11) (by decide) with h | h | ⟨c, hc, rfl⟩
  · exact br_t h (br_t h ⟨rfl, dn, rn, ln, D, C, Z, K, R, hX', hY'⟩)
  · have g := ar_ge (by decide) h
    have g2 : ¬ v1 ≤ 10 := fun z => g.2 (Int32.lt_of_le_of_lt z (by decide))
    exact br_f g.1 (br_f g2 (br_f g.1 (br_f g2 ⟨rfl, dn, rn, ln, D, C, Z, K, R, hX', hY'⟩)))
  · have hp : ¬ nI c < 0 := nI_pos (by omega)
    have h10 : nI c ≤ 10 := nI_le (b := 10) (by omega) (by decide)
    refine br_f hp (br_t h10 ?_)
    refine pk_lt ln 96 (fun h6 => ⟨pk_in ln 96 h6, nm_r (e' := upd x_rawCharacters ln (nI c)) (by rw [nI_clamp (by omega)]) (nm_r (nI_1 ln) ?_)⟩) (fun h6 => ?_)
    · refine br_f hp (br_t h10 ?_)
      refine pk_eq ln 96 (fun e => absurd e (by omega)) (fun _ => ⟨pk_in ln 98 (by omega), nm_r (e' := upd y_raw ln (nI c)) (by rw [nI_clamp (by omega)]) (nm_r (nI_1 ln) ?_)⟩)
      exact ⟨rfl, dn, rn, ln + 1, D, C, Z, K, cd_up R ln c, ⟨a4, a5, a6, cd_txU ⟨a1, rfl, a3⟩ h6 (by omega)⟩, ⟨b4, b5, b6, cd_txU ⟨b1, rfl, b3⟩ h6 (by omega)⟩⟩
    · refine br_f hp (br_t h10 ?_)
      exact pk_eq ln 96 (fun _ => ⟨rfl, dn, rn, ln, D, C, Z, K, R, hX', hY'⟩) (fun e => absurd (by omega) e)
theorem i_vc_unraw {k : Nat} {u : SX} {v : SY} (I : i_Rel k u v) (hk : k + 4 ≤ 2048) : wpX_unraw (fun r u' => wpY_unraw (fun r' v' => r' = r ∧ i_Rel (k + 4) u' v') v) u := by
  obtain ⟨dn, rn, ln, D, C, Z, K, R, hX, hY⟩ := I
  obtain ⟨x_draftSize, x_recordCount, x_rawCount, x_writingCount, x_scanState, x_scanSound, x_scanRecords, x_scanFields, x_scanSize, x_scanMostFields, x_scanLongest, x_scanUneven, x_draftCharacters, x_fieldCounts, x_fieldSizes, x_characters, x_rawCharacters, x_writing⟩ := u
  obtain ⟨y_records, y_drafted, y_length, y_readRecords, y_readFields, y_readSize, y_readFirst, y_readOver, y_readEven, y_pos, y_end, y_dialect, y_out, y_chars, y_sizes, y_counts, y_draft, y_raw, y_readChars, y_readSizes, y_readCounts⟩ := v
  have hX' := hX
  have hY' := hY
  obtain ⟨a4, a5, a6, ⟨a1, rfl, a3⟩⟩ := hX
  obtain ⟨b4, b5, b6, ⟨b1, rfl, b3⟩⟩ := hY
  unfold wpX_unraw wpY_unraw
  dsimp only
  refine pk_eq ln 0 (fun e => pk_eq ln 0 (fun _ => ⟨rfl, dn, rn, ln, D, C, Z, K, R, hX', hY'⟩) (fun z => absurd e z)) (fun e => ?_)
  obtain ⟨m, rfl⟩ : ∃ m, ln = m + 1 := ⟨ln - 1, by omega⟩
  refine nm_r (nI_pred m) ⟨pk_in m 96 (by omega), ?_⟩
  refine pk_eq (m + 1) 0 (fun z => absurd z e) (fun _ => nm_r (nI_pred m) ⟨pk_in m 98 (by omega), ?_⟩)
  rw [nI_clamp (by omega), (a3 m (by omega)).2, (b3 m (by omega)).2]
  exact ⟨rfl, dn, rn, m, D, C, Z, K, R, ⟨a4, a5, a6, cd_txD ⟨a1, rfl, a3⟩⟩, ⟨b4, b5, b6, cd_txD ⟨b1, rfl, b3⟩⟩⟩
theorem i_vc_rawLength {k : Nat} {u : SX} {v : SY} (I : i_Rel k u v) (hk : k + 4 ≤ 2048) : wpX_rawLength (fun r => wpY_rawLength (fun r' => r' = r ∧ i_Rel (k + 4) u v) v) u := by
  have I' := I
  obtain ⟨dn, rn, ln, D, C, Z, K, R, hX, hY⟩ := I
  obtain ⟨x_draftSize, x_recordCount, x_rawCount, x_writingCount, x_scanState, x_scanSound, x_scanRecords, x_scanFields, x_scanSize, x_scanMostFields, x_scanLongest, x_scanUneven, x_draftCharacters, x_fieldCounts, x_fieldSizes, x_characters, x_rawCharacters, x_writing⟩ := u
  obtain ⟨y_records, y_drafted, y_length, y_readRecords, y_readFields, y_readSize, y_readFirst, y_readOver, y_readEven, y_pos, y_end, y_dialect, y_out, y_chars, y_sizes, y_counts, y_draft, y_raw, y_readChars, y_readSizes, y_readCounts⟩ := v
  exact ⟨hY.2.2.2.2.1.trans hX.2.2.2.2.1.symm, I'⟩
theorem i_vc_records {k : Nat} {u : SX} {v : SY} (I : i_Rel k u v) (hk : k + 4 ≤ 2048) : wpX_records (fun r => wpY_records (fun r' => r' = r ∧ i_Rel (k + 4) u v) v) u := by
  have I' := I
  obtain ⟨dn, rn, ln, D, C, Z, K, R, hX, hY⟩ := I
  obtain ⟨x_draftSize, x_recordCount, x_rawCount, x_writingCount, x_scanState, x_scanSound, x_scanRecords, x_scanFields, x_scanSize, x_scanMostFields, x_scanLongest, x_scanUneven, x_draftCharacters, x_fieldCounts, x_fieldSizes, x_characters, x_rawCharacters, x_writing⟩ := u
  obtain ⟨y_records, y_drafted, y_length, y_readRecords, y_readFields, y_readSize, y_readFirst, y_readOver, y_readEven, y_pos, y_end, y_dialect, y_out, y_chars, y_sizes, y_counts, y_draft, y_raw, y_readChars, y_readSizes, y_readCounts⟩ := v
  exact ⟨hY.2.1.1.trans hX.2.1.1.symm, I'⟩
theorem i_vc_scrap {k : Nat} {u : SX} {v : SY} (I : i_Rel k u v) (hk : k + 4 ≤ 2048) : wpX_scrap (fun u' => wpY_scrap (fun v' => i_Rel (k + 4) u' v') v) u := by
  obtain ⟨dn, rn, ln, D, C, Z, K, R, hX, hY⟩ := I
  obtain ⟨x_draftSize, x_recordCount, x_rawCount, x_writingCount, x_scanState, x_scanSound, x_scanRecords, x_scanFields, x_scanSize, x_scanMostFields, x_scanLongest, x_scanUneven, x_draftCharacters, x_fieldCounts, x_fieldSizes, x_characters, x_rawCharacters, x_writing⟩ := u
  obtain ⟨y_records, y_drafted, y_length, y_readRecords, y_readFields, y_readSize, y_readFirst, y_readOver, y_readEven, y_pos, y_end, y_dialect, y_out, y_chars, y_sizes, y_counts, y_draft, y_raw, y_readChars, y_readSizes, y_readCounts⟩ := v
  exact ⟨0, rn, ln, D, C, Z, K, R, ⟨cd_tx0, hX.2⟩, ⟨cd_tx0, hY.2⟩⟩
theorem i_vc_clear {k : Nat} {u : SX} {v : SY} (I : i_Rel k u v) (hk : k + 4 ≤ 2048) : wpX_clear (fun u' => wpY_clear (fun v' => i_Rel (k + 4) u' v') v) u := by
  obtain ⟨dn, rn, ln, D, C, Z, K, R, hX, hY⟩ := I
  obtain ⟨x_draftSize, x_recordCount, x_rawCount, x_writingCount, x_scanState, x_scanSound, x_scanRecords, x_scanFields, x_scanSize, x_scanMostFields, x_scanLongest, x_scanUneven, x_draftCharacters, x_fieldCounts, x_fieldSizes, x_characters, x_rawCharacters, x_writing⟩ := u
  obtain ⟨y_records, y_drafted, y_length, y_readRecords, y_readFields, y_readSize, y_readFirst, y_readOver, y_readEven, y_pos, y_end, y_dialect, y_out, y_chars, y_sizes, y_counts, y_draft, y_raw, y_readChars, y_readSizes, y_readCounts⟩ := v
  exact ⟨dn, 0, ln, D, C, Z, K, R, ⟨hX.1, ⟨rfl, Nat.zero_le 6⟩, cd_tb0, hX.2.2.2⟩, ⟨hY.1, ⟨rfl, Nat.zero_le 6⟩, cd_tb0, hY.2.2.2⟩⟩
theorem i_vc_rawClear {k : Nat} {u : SX} {v : SY} (I : i_Rel k u v) (hk : k + 4 ≤ 2048) : wpX_rawClear (fun u' => wpY_rawClear (fun v' => i_Rel (k + 4) u' v') v) u := by
  obtain ⟨dn, rn, ln, D, C, Z, K, R, hX, hY⟩ := I
  obtain ⟨x_draftSize, x_recordCount, x_rawCount, x_writingCount, x_scanState, x_scanSound, x_scanRecords, x_scanFields, x_scanSize, x_scanMostFields, x_scanLongest, x_scanUneven, x_draftCharacters, x_fieldCounts, x_fieldSizes, x_characters, x_rawCharacters, x_writing⟩ := u
  obtain ⟨y_records, y_drafted, y_length, y_readRecords, y_readFields, y_readSize, y_readFirst, y_readOver, y_readEven, y_pos, y_end, y_dialect, y_out, y_chars, y_sizes, y_counts, y_draft, y_raw, y_readChars, y_readSizes, y_readCounts⟩ := v
  exact ⟨dn, rn, 0, D, C, Z, K, R, ⟨hX.1, hX.2.1, hX.2.2.1, cd_tx0⟩, ⟨hY.1, hY.2.1, hY.2.2.1, cd_tx0⟩⟩
theorem i_vc_rawAt {k : Nat} {u : SX} {v : SY} (I : i_Rel k u v) (hk : k + 4 ≤ 2048) (v1 : Int32) : wpX_rawAt (fun r => wpY_rawAt (fun r' => r' = r ∧ i_Rel (k + 4) u v) v v1) u v1 := by
  have I' := I
  obtain ⟨dn, rn, ln, D, C, Z, K, R, hX, hY⟩ := I
  obtain ⟨x_draftSize, x_recordCount, x_rawCount, x_writingCount, x_scanState, x_scanSound, x_scanRecords, x_scanFields, x_scanSize, x_scanMostFields, x_scanLongest, x_scanUneven, x_draftCharacters, x_fieldCounts, x_fieldSizes, x_characters, x_rawCharacters, x_writing⟩ := u
  obtain ⟨y_records, y_drafted, y_length, y_readRecords, y_readFields, y_readSize, y_readFirst, y_readOver, y_readEven, y_pos, y_end, y_dialect, y_out, y_chars, y_sizes, y_counts, y_draft, y_raw, y_readChars, y_readSizes, y_readCounts⟩ := v
  obtain ⟨a4, a5, a6, ⟨a1, rfl, a3⟩⟩ := hX
  obtain ⟨b4, b5, b6, ⟨b1, rfl, b3⟩⟩ := hY
  unfold wpX_rawAt wpY_rawAt
  dsimp only
  rcases pk_ix v1 (n := ln) (by omega) with h | h | ⟨c, hc, rfl⟩
  · exact br_t h (br_t h ⟨rfl, I'⟩)
  · have g := ar_ge (by omega) h
    exact br_f g.1 (br_t h (br_f g.1 (br_t h ⟨rfl, I'⟩)))
  · have hp : ¬ nI c < 0 := nI_pos (by omega)
    have hn : ¬ nI ln ≤ nI c := nI_ge hc (by omega)
    refine br_f hp (br_f hn ⟨pk_in c 96 (by omega), br_f hp (br_f hn ⟨pk_in c 98 (by omega), ?_⟩)⟩)
    rw [nI_clamp (by omega), (a3 c hc).2, (b3 c hc).2]
    exact ⟨rfl, I'⟩
end
