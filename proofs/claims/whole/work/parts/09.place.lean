/-! fields, size, at, and the methods that put the draft -/
section
variable {x_draftSize x_recordCount x_rawCount x_writingCount x_scanState x_scanSound x_scanRecords x_scanFields x_scanSize x_scanMostFields x_scanLongest x_scanUneven : Int32} {x_draftCharacters x_fieldCounts x_fieldSizes x_characters x_rawCharacters x_writing : Nat → Int32}
variable {y_records y_drafted y_length y_readRecords y_readFields y_readSize y_readFirst y_readOver y_readEven y_pos y_end y_dialect y_out : Int32} {y_chars y_sizes y_counts y_draft y_raw y_readChars y_readSizes y_readCounts : Nat → Int32}
variable {dn rn ln : Nat} {D C Z K R : Nat → Nat}
/-- there is a field f of record r -/
def ar_F (rn : Nat) (C : Nat → Nat) (r f : Int32) : Prop := ∃ i j, i < rn ∧ j < C i ∧ r = nI i ∧ f = nI j
theorem xr_t {post : Int32 → Prop} {i : Nat} (hi : i < rn) (hr : rn ≤ 6) (h : post 1) : wpX_hasRecord post (x_draftSize, nI rn, x_rawCount, x_writingCount, x_scanState, x_scanSound, x_scanRecords, x_scanFields, x_scanSize, x_scanMostFields, x_scanLongest, x_scanUneven, x_draftCharacters, x_fieldCounts, x_fieldSizes, x_characters, x_rawCharacters, x_writing) (nI i) :=
  br_f (nI_pos (by omega)) (br_f (nI_ge hi (by omega)) h)
theorem xr_f {post : Int32 → Prop} {r : Int32} (hr : rn ≤ 6) (hn : ¬ ∃ i, i < rn ∧ r = nI i) (h : post 0) : wpX_hasRecord post (x_draftSize, nI rn, x_rawCount, x_writingCount, x_scanState, x_scanSound, x_scanRecords, x_scanFields, x_scanSize, x_scanMostFields, x_scanLongest, x_scanUneven, x_draftCharacters, x_fieldCounts, x_fieldSizes, x_characters, x_rawCharacters, x_writing) r := by
  unfold wpX_hasRecord
  dsimp only
  rcases pk_ix r (n := rn) (by omega) with z | z | ⟨j, hj, rfl⟩
  · exact br_t z h
  · exact br_f (ar_ge (by omega) z).1 (br_t z h)
  · exact absurd ⟨j, hj, rfl⟩ hn
theorem xf_t {post : Int32 → Prop} {i j : Nat} (hi : i < rn) (hr : rn ≤ 6) (ht : cd_tb rn C Z K x_fieldCounts x_fieldSizes x_characters) (hj : j < C i) (h : post 1) : wpX_hasField post (x_draftSize, nI rn, x_rawCount, x_writingCount, x_scanState, x_scanSound, x_scanRecords, x_scanFields, x_scanSize, x_scanMostFields, x_scanLongest, x_scanUneven, x_draftCharacters, x_fieldCounts, x_fieldSizes, x_characters, x_rawCharacters, x_writing) (nI i) (nI j) := by
  obtain ⟨t1, t2, t3, t4⟩ := ht i hi
  unfold wpX_hasField
  dsimp only
  refine xr_t hi hr (br_f (by decide) (br_f (nI_pos (by omega)) ⟨pk_in i 6 (by omega), ?_⟩))
  rw [nI_clamp (by omega), t3]
  exact br_f (nI_ge hj (by omega)) h
theorem xf_f {post : Int32 → Prop} {r f : Int32} (hr : rn ≤ 6) (ht : cd_tb rn C Z K x_fieldCounts x_fieldSizes x_characters) (hn : ¬ ar_F rn C r f) (h : post 0) : wpX_hasField post (x_draftSize, nI rn, x_rawCount, x_writingCount, x_scanState, x_scanSound, x_scanRecords, x_scanFields, x_scanSize, x_scanMostFields, x_scanLongest, x_scanUneven, x_draftCharacters, x_fieldCounts, x_fieldSizes, x_characters, x_rawCharacters, x_writing) r f := by
  unfold wpX_hasField
  dsimp only
  by_cases e : ∃ i, i < rn ∧ r = nI i
  · obtain ⟨i, hi, rfl⟩ := e
    obtain ⟨t1, t2, t3, t4⟩ := ht i hi
    refine xr_t hi hr (br_f (by decide) ?_)
    rw [nI_clamp (by omega), t3]
    rcases pk_ix f (n := C i) (by omega) with z | z | ⟨j, hj, rfl⟩
    · exact br_t z h
    · exact br_f (ar_ge (by omega) z).1 ⟨pk_in i 6 (by omega), br_t z h⟩
    · exact absurd ⟨i, j, hi, hj, rfl, rfl⟩ hn
  · exact xr_f hr e (br_t rfl h)
theorem yf_t {post : Int32 → Prop} {i j : Nat} (hi : i < rn) (hr : rn ≤ 6) (ht : cd_tb rn C Z K y_counts y_sizes y_chars) (hj : j < C i) (h : post 1) : wpY_isField post (nI rn, y_drafted, y_length, y_readRecords, y_readFields, y_readSize, y_readFirst, y_readOver, y_readEven, y_pos, y_end, y_dialect, y_out, y_chars, y_sizes, y_counts, y_draft, y_raw, y_readChars, y_readSizes, y_readCounts) (nI i) (nI j) := by
  obtain ⟨t1, t2, t3, t4⟩ := ht i hi
  unfold wpY_isField
  dsimp only
  refine br_f (nI_pos (by omega)) (br_f (nI_ge hi (by omega)) (br_f (nI_pos (by omega)) ⟨pk_in i 6 (by omega), ?_⟩))
  rw [nI_clamp (by omega), t3]
  exact br_f (nI_ge hj (by omega)) h
theorem yf_f {post : Int32 → Prop} {r f : Int32} (hr : rn ≤ 6) (ht : cd_tb rn C Z K y_counts y_sizes y_chars) (hn : ¬ ar_F rn C r f) (h : post 0) : wpY_isField post (nI rn, y_drafted, y_length, y_readRecords, y_readFields, y_readSize, y_readFirst, y_readOver, y_readEven, y_pos, y_end, y_dialect, y_out, y_chars, y_sizes, y_counts, y_draft, y_raw, y_readChars, y_readSizes, y_readCounts) r f := by
  unfold wpY_isField
  dsimp only
  rcases pk_ix r (n := rn) (by omega) with z | z | ⟨i, hi, rfl⟩
  · exact br_t z h
  · exact br_f (ar_ge (by omega) z).1 (br_t z h)
  · obtain ⟨t1, t2, t3, t4⟩ := ht i hi
    refine br_f (nI_pos (by omega)) (br_f (nI_ge hi (by omega)) ?_)
    rw [nI_clamp (by omega), t3]
    rcases pk_ix f (n := C i) (by omega) with z | z | ⟨j, hj, rfl⟩
    · exact br_t z h
    · exact br_f (ar_ge (by omega) z).1 ⟨pk_in i 6 (by omega), br_t z h⟩
    · exact absurd ⟨i, j, hi, hj, rfl, rfl⟩ hn
theorem i_vc_fields {k : Nat} {u : SX} {v : SY} (I : i_Rel k u v) (hk : k + 4 ≤ 2048) (v1 : Int32) : wpX_fields (fun r => wpY_fields (fun r' => r' = r ∧ i_Rel (k + 4) u v) v v1) u v1 := by
  have I' := I
  obtain ⟨dn, rn, ln, D, C, Z, K, R, hX, hY⟩ := I
  obtain ⟨x_draftSize, x_recordCount, x_rawCount, x_writingCount, x_scanState, x_scanSound, x_scanRecords, x_scanFields, x_scanSize, x_scanMostFields, x_scanLongest, x_scanUneven, x_draftCharacters, x_fieldCounts, x_fieldSizes, x_characters, x_rawCharacters, x_writing⟩ := u
  obtain ⟨y_records, y_drafted, y_length, y_readRecords, y_readFields, y_readSize, y_readFirst, y_readOver, y_readEven, y_pos, y_end, y_dialect, y_out, y_chars, y_sizes, y_counts, y_draft, y_raw, y_readChars, y_readSizes, y_readCounts⟩ := v
  obtain ⟨a1, ⟨rfl, a2⟩, a3, a4⟩ := hX
  obtain ⟨b1, ⟨rfl, b2⟩, b3, b4⟩ := hY
  unfold wpX_fields wpY_fields
  dsimp only
  rcases pk_ix v1 (n := rn) (by omega) with z | z | ⟨i, hi, rfl⟩
  · exact xr_f a2 (fun ⟨j, hj, e⟩ => nI_pos (n := j) (by omega) (e ▸ z)) (br_t rfl (br_t z ⟨rfl, I'⟩))
  · have g := ar_ge (by omega) z
    exact xr_f a2 (fun ⟨j, hj, e⟩ => g.2 (e ▸ nI_lt hj (by omega))) (br_t rfl (br_f g.1 (br_t z ⟨rfl, I'⟩)))
  · refine xr_t hi a2 (br_f (by decide) ⟨pk_in i 6 (by omega), br_f (nI_pos (by omega)) (br_f (nI_ge hi (by omega)) ⟨pk_in i 6 (by omega), ?_⟩)⟩)
    rw [nI_clamp (by omega), (a3 i hi).2.2.1, (b3 i hi).2.2.1]
    exact ⟨rfl, I'⟩
theorem ar_5 (i j : Nat) : nI i * 5 + nI j = nI (5 * i + j) := by rw [cl_m5, nI_add, Nat.mul_comm]
theorem ar_5' (i j : Nat) : 5 * nI i + nI j = nI (5 * i + j) := by rw [cl_x5, nI_add]
theorem ar_6 (i j : Nat) : nI i * 6 + nI j = nI (6 * i + j) := by rw [cl_m6, nI_add, Nat.mul_comm]
theorem ar_6' (i j : Nat) : 6 * nI i + nI j = nI (6 * i + j) := by rw [cl_x6, nI_add]
theorem i_vc_size {k : Nat} {u : SX} {v : SY} (I : i_Rel k u v) (hk : k + 4 ≤ 2048) (v1 : Int32) (v2 : Int32) : wpX_size (fun r => wpY_size (fun r' => r' = r ∧ i_Rel (k + 4) u v) v v1 v2) u v1 v2 := by
  have I' := I
  obtain ⟨dn, rn, ln, D, C, Z, K, R, hX, hY⟩ := I
  obtain ⟨x_draftSize, x_recordCount, x_rawCount, x_writingCount, x_scanState, x_scanSound, x_scanRecords, x_scanFields, x_scanSize, x_scanMostFields, x_scanLongest, x_scanUneven, x_draftCharacters, x_fieldCounts, x_fieldSizes, x_characters, x_rawCharacters, x_writing⟩ := u
  obtain ⟨y_records, y_drafted, y_length, y_readRecords, y_readFields, y_readSize, y_readFirst, y_readOver, y_readEven, y_pos, y_end, y_dialect, y_out, y_chars, y_sizes, y_counts, y_draft, y_raw, y_readChars, y_readSizes, y_readCounts⟩ := v
  obtain ⟨a1, ⟨rfl, a2⟩, a3, a4⟩ := hX
  obtain ⟨b1, ⟨rfl, b2⟩, b3, b4⟩ := hY
  unfold wpX_size wpY_size
  dsimp only
  by_cases e : ar_F rn C v1 v2
  · obtain ⟨i, j, hi, hj, rfl, rfl⟩ := e
    have c5 := (a3 i hi).2.1
    rw [ar_5, ar_5', nI_clamp (by omega)]
    refine xf_t hi a2 a3 hj (br_f (by decide) ⟨pk_in (5 * i + j) 30 (by omega), yf_t hi b2 b3 hj (br_f (by decide) ⟨pk_in (5 * i + j) 30 (by omega), ?_⟩)⟩)
    rw [((a3 i hi).2.2.2 j hj).2.1, ((b3 i hi).2.2.2 j hj).2.1]
    exact ⟨rfl, I'⟩
  · exact xf_f a2 a3 e (br_t rfl (yf_f b2 b3 e (br_t rfl ⟨rfl, I'⟩)))
theorem i_vc_at {k : Nat} {u : SX} {v : SY} (I : i_Rel k u v) (hk : k + 4 ≤ 2048) (v1 : Int32) (v2 : Int32) (v3 : Int32) : wpX_at (fun r => wpY_at (fun r' => r' = r ∧ i_Rel (k + 4) u v) v v1 v2 v3) u v1 v2 v3 := by
  have I' := I
  obtain ⟨dn, rn, ln, D, C, Z, K, R, hX, hY⟩ := I
  obtain ⟨x_draftSize, x_recordCount, x_rawCount, x_writingCount, x_scanState, x_scanSound, x_scanRecords, x_scanFields, x_scanSize, x_scanMostFields, x_scanLongest, x_scanUneven, x_draftCharacters, x_fieldCounts, x_fieldSizes, x_characters, x_rawCharacters, x_writing⟩ := u
  obtain ⟨y_records, y_drafted, y_length, y_readRecords, y_readFields, y_readSize, y_readFirst, y_readOver, y_readEven, y_pos, y_end, y_dialect, y_out, y_chars, y_sizes, y_counts, y_draft, y_raw, y_readChars, y_readSizes, y_readCounts⟩ := v
  obtain ⟨a1, ⟨rfl, a2⟩, a3, a4⟩ := hX
  obtain ⟨b1, ⟨rfl, b2⟩, b3, b4⟩ := hY
  unfold wpX_at wpY_at
  dsimp only
  by_cases e : ar_F rn C v1 v2
  · obtain ⟨i, j, hi, hj, rfl, rfl⟩ := e
    have c5 := (a3 i hi).2.1
    obtain ⟨z1, z2, z3⟩ := (a3 i hi).2.2.2 j hj
    obtain ⟨w1, w2, w3⟩ := (b3 i hi).2.2.2 j hj
    refine xf_t hi a2 a3 hj (br_f (by decide) (nm_r (ar_5 i j) ?_))
    rw [ar_5', nI_clamp (by omega), z2]
    rcases pk_ix v3 (n := Z (5 * i + j)) (by omega) with z | z | ⟨l, hl, rfl⟩
    · exact br_t z (yf_t hi b2 b3 hj (br_f (by decide) (br_t z ⟨rfl, I'⟩)))
    · have g := ar_ge (by omega) z
      refine br_f g.1 ⟨pk_in (5 * i + j) 30 (by omega), br_f g.2 (yf_t hi b2 b3 hj (br_f (by decide) (br_f g.1 ⟨pk_in (5 * i + j) 30 (by omega), ?_⟩)))⟩
      rw [w2]
      exact br_t z ⟨rfl, I'⟩
    · have hp : ¬ nI l < 0 := nI_pos (by omega)
      rw [ar_6, ar_6', nI_clamp (by omega)]
      refine br_f hp ⟨pk_in (5 * i + j) 30 (by omega), br_t (nI_lt hl (by omega)) ⟨pk_in (6 * (5 * i + j) + l) 180 (by omega), yf_t hi b2 b3 hj (br_f (by decide) (br_f hp ⟨pk_in (5 * i + j) 30 (by omega), ?_⟩))⟩⟩
      rw [w2, (z3 l hl).2, (w3 l hl).2]
      exact br_f (nI_ge hl (by omega)) ⟨pk_in (6 * (5 * i + j) + l) 180 (by omega), rfl, I'⟩
  · exact xf_f a2 a3 e (br_t rfl (yf_f b2 b3 e (br_t rfl ⟨rfl, I'⟩)))
theorem xp_loop {post : SX → Prop} {k : Nat} (hk : k < 30) (hd : dn ≤ 6) (hD : ∀ i, i < dn → D i ≤ 9 ∧ x_draftCharacters i = nI (D i))
    (H : ∀ ch : Nat → Int32, cd_pa x_characters ch k dn D → post (0, x_recordCount, x_rawCount, x_writingCount, x_scanState, x_scanSound, x_scanRecords, x_scanFields, x_scanSize, x_scanMostFields, x_scanLongest, x_scanUneven, x_draftCharacters, x_fieldCounts, upd x_fieldSizes k (nI dn), ch, x_rawCharacters, x_writing)) :
    ∀ (e i n : Nat) (ch : Nat → Int32), i + e = dn → e < n → cd_pa x_characters ch k i D →
      wX_placeDraft_9 post (nI k) (nI dn) x_recordCount x_rawCount x_writingCount x_scanState x_scanSound x_scanRecords x_scanFields x_scanSize x_scanMostFields x_scanLongest x_scanUneven n (nI i) x_draftCharacters x_fieldCounts x_fieldSizes ch x_rawCharacters x_writing := by
  intro e
  induction e with
  | zero =>
    intro i n ch hi hn hc
    obtain ⟨n, rfl⟩ : ∃ m, n = m + 1 := ⟨n - 1, by omega⟩
    have ei : i = dn := by omega
    subst ei
    rw [wX_placeDraft_9]
    exact pk_le i i (fun _ => ⟨pk_in k 30 hk, nm_r (e' := upd x_fieldSizes k (nI i)) (by rw [nI_clamp (by omega)]) (H ch hc)⟩) (fun z => absurd z (by omega))
  | succ e ih =>
    intro i n ch hi hn hc
    obtain ⟨n, rfl⟩ : ∃ m, n = m + 1 := ⟨n - 1, by omega⟩
    rw [wX_placeDraft_9]
    refine pk_le dn i (fun z => absurd z (by omega)) (fun _ => ⟨pk_in i 6 (by omega), pk_in (6 * k + i) 180 (by omega) (ar_6 k i), nm_r (e' := upd ch (6 * k + i) (nI (D i))) (by rw [ar_6, nI_clamp (by omega), nI_clamp (by omega), (hD i (by omega)).2]) (nm_r (nI_1 i) ?_)⟩)
    refine ih (i + 1) n _ (by omega) (by omega) ⟨fun l hl => ?_, fun l hl => ?_⟩
    · by_cases el : l = i
      · subst el
        exact pk_us
      · rw [pk_un (by omega)]
        exact hc.1 l (by omega)
    · rw [pk_un (by omega)]
      exact hc.2 l (by omega)
theorem xp_place {post : SX → Prop} {r f : Nat} (hk : 5 * r + f < 30) (hd : cd_tx 6 9 dn D x_draftSize x_draftCharacters)
    (H : ∀ ch : Nat → Int32, cd_pa x_characters ch (5 * r + f) dn D → post (0, x_recordCount, x_rawCount, x_writingCount, x_scanState, x_scanSound, x_scanRecords, x_scanFields, x_scanSize, x_scanMostFields, x_scanLongest, x_scanUneven, x_draftCharacters, x_fieldCounts, upd x_fieldSizes (5 * r + f) (nI dn), ch, x_rawCharacters, x_writing)) :
    wpX_placeDraft post (x_draftSize, x_recordCount, x_rawCount, x_writingCount, x_scanState, x_scanSound, x_scanRecords, x_scanFields, x_scanSize, x_scanMostFields, x_scanLongest, x_scanUneven, x_draftCharacters, x_fieldCounts, x_fieldSizes, x_characters, x_rawCharacters, x_writing) (nI r) (nI f) := by
  obtain ⟨d1, rfl, d3⟩ := hd
  exact nm_r (ar_5 r f) ⟨dn + 1, xp_loop hk d1 d3 H dn 0 (dn + 1) x_characters (by omega) (by omega) ⟨fun i h => absurd h (Nat.not_lt_zero i), fun j _ => rfl⟩⟩
theorem yp_loop {post : SY → Prop} {k : Nat} (hk : k < 30) (hd : dn ≤ 6) (hD : ∀ i, i < dn → D i ≤ 9 ∧ y_draft i = nI (D i))
    (H : ∀ ch : Nat → Int32, cd_pa y_chars ch k dn D → post (y_records, 0, y_length, y_readRecords, y_readFields, y_readSize, y_readFirst, y_readOver, y_readEven, y_pos, y_end, y_dialect, y_out, ch, upd y_sizes k (nI dn), y_counts, y_draft, y_raw, y_readChars, y_readSizes, y_readCounts)) :
    ∀ (e i n : Nat) (ch : Nat → Int32), i + e = dn → e < n → cd_pa y_chars ch k i D →
      wY_putDraft_2 post (nI k) y_records (nI dn) y_length y_readRecords y_readFields y_readSize y_readFirst y_readOver y_readEven y_pos y_end y_dialect y_out n (nI i) ch y_sizes y_counts y_draft y_raw y_readChars y_readSizes y_readCounts := by
  intro e
  induction e with
  | zero =>
    intro i n ch hi hn hc
    obtain ⟨n, rfl⟩ : ∃ m, n = m + 1 := ⟨n - 1, by omega⟩
    have ei : i = dn := by omega
    subst ei
    rw [wY_putDraft_2]
    exact pk_le i i (fun _ => ⟨pk_in k 30 hk, nm_r (e' := upd y_sizes k (nI i)) (by rw [nI_clamp (by omega)]) (H ch hc)⟩) (fun z => absurd z (by omega))
  | succ e ih =>
    intro i n ch hi hn hc
    obtain ⟨n, rfl⟩ : ∃ m, n = m + 1 := ⟨n - 1, by omega⟩
    rw [wY_putDraft_2]
    refine pk_le dn i (fun z => absurd z (by omega)) (fun _ => ⟨pk_in i 6 (by omega), pk_in (6 * k + i) 180 (by omega) (ar_6' k i), nm_r (e' := upd ch (6 * k + i) (nI (D i))) (by rw [ar_6', nI_clamp (by omega), nI_clamp (by omega), (hD i (by omega)).2]) (nm_r (nI_1 i) ?_)⟩)
    refine ih (i + 1) n _ (by omega) (by omega) ⟨fun l hl => ?_, fun l hl => ?_⟩
    · by_cases el : l = i
      · subst el
        exact pk_us
      · rw [pk_un (by omega)]
        exact hc.1 l (by omega)
    · rw [pk_un (by omega)]
      exact hc.2 l (by omega)
theorem yp_place {post : SY → Prop} {k : Nat} (hk : k < 30) (hd : cd_tx 6 9 dn D y_drafted y_draft)
    (H : ∀ ch : Nat → Int32, cd_pa y_chars ch k dn D → post (y_records, 0, y_length, y_readRecords, y_readFields, y_readSize, y_readFirst, y_readOver, y_readEven, y_pos, y_end, y_dialect, y_out, ch, upd y_sizes k (nI dn), y_counts, y_draft, y_raw, y_readChars, y_readSizes, y_readCounts)) :
    wpY_putDraft post (y_records, y_drafted, y_length, y_readRecords, y_readFields, y_readSize, y_readFirst, y_readOver, y_readEven, y_pos, y_end, y_dialect, y_out, y_chars, y_sizes, y_counts, y_draft, y_raw, y_readChars, y_readSizes, y_readCounts) (nI k) := by
  obtain ⟨d1, rfl, d3⟩ := hd
  exact ⟨dn + 1, yp_loop hk d1 d3 H dn 0 (dn + 1) y_chars (by omega) (by omega) ⟨fun i h => absurd h (Nat.not_lt_zero i), fun j _ => rfl⟩⟩
theorem xo_R {post : SX → Prop} (hr : rn < 6) (H : post (x_draftSize, nI (rn + 1), x_rawCount, x_writingCount, x_scanState, x_scanSound, x_scanRecords, x_scanFields, x_scanSize, x_scanMostFields, x_scanLongest, x_scanUneven, x_draftCharacters, upd x_fieldCounts rn (nI 1), upd x_fieldSizes (5 * rn) (nI 0), x_characters, x_rawCharacters, x_writing)) :
    wpX_openRecord post (x_draftSize, nI rn, x_rawCount, x_writingCount, x_scanState, x_scanSound, x_scanRecords, x_scanFields, x_scanSize, x_scanMostFields, x_scanLongest, x_scanUneven, x_draftCharacters, x_fieldCounts, x_fieldSizes, x_characters, x_rawCharacters, x_writing) := by
  unfold wpX_openRecord
  dsimp only
  refine pk_le 6 rn (fun z => absurd z (by omega)) (fun _ => ⟨pk_in rn 6 hr, nm_r (e' := upd x_fieldCounts rn (nI 1)) (by rw [nI_clamp (by omega)]; rfl) ⟨pk_in (rn * 5) 30 (by omega) (cl_m5 rn), nm_r (e' := upd x_fieldSizes (5 * rn) (nI 0)) ?_ (nm_r (nI_1 rn) H)⟩⟩)
  rw [cl_m5, nI_clamp (by omega), Nat.mul_comm]
  rfl
theorem xo_F {post : SX → Prop} {m : Nat} (hm : m < 6) (hc : x_fieldCounts m = nI (C m)) (h5 : C m < 5) (H : post (x_draftSize, nI (m + 1), x_rawCount, x_writingCount, x_scanState, x_scanSound, x_scanRecords, x_scanFields, x_scanSize, x_scanMostFields, x_scanLongest, x_scanUneven, x_draftCharacters, upd x_fieldCounts m (nI (C m + 1)), upd x_fieldSizes (5 * m + C m) (nI 0), x_characters, x_rawCharacters, x_writing)) :
    wpX_openField post (x_draftSize, nI (m + 1), x_rawCount, x_writingCount, x_scanState, x_scanSound, x_scanRecords, x_scanFields, x_scanSize, x_scanMostFields, x_scanLongest, x_scanUneven, x_draftCharacters, x_fieldCounts, x_fieldSizes, x_characters, x_rawCharacters, x_writing) := by
  unfold wpX_openField
  dsimp only
  have em : (nI m).toNatClampNeg = m := nI_clamp (by omega)
  refine nm_r (nI_pred m) (br_f (nI_pos (by omega)) ⟨pk_in m 6 hm, ?_⟩)
  rw [em, hc]
  refine pk_le 5 (C m) (fun z => absurd z (by omega)) (fun _ => ⟨pk_in m 6 hm, pk_in (5 * m + C m) 30 (by omega) (ar_5 m (C m)), nm_r (e' := upd x_fieldSizes (5 * m + C m) (nI 0)) ?_ ⟨pk_in m 6 hm, pk_in m 6 hm, nm_r (e' := upd x_fieldCounts m (nI (C m + 1))) (by rw [nI_1]) H⟩⟩)
  rw [ar_5, nI_clamp (by omega)]
  rfl
theorem i_vc_addRow {k : Nat} {u : SX} {v : SY} (I : i_Rel k u v) (hk : k + 4 ≤ 2048) : wpX_addRow (fun r u' => wpY_addRow (fun r' v' => r' = r ∧ i_Rel (k + 4) u' v') v) u := by
  have I' := I
  obtain ⟨dn, rn, ln, D, C, Z, K, R, hX, hY⟩ := I
  obtain ⟨x_draftSize, x_recordCount, x_rawCount, x_writingCount, x_scanState, x_scanSound, x_scanRecords, x_scanFields, x_scanSize, x_scanMostFields, x_scanLongest, x_scanUneven, x_draftCharacters, x_fieldCounts, x_fieldSizes, x_characters, x_rawCharacters, x_writing⟩ := u
  obtain ⟨y_records, y_drafted, y_length, y_readRecords, y_readFields, y_readSize, y_readFirst, y_readOver, y_readEven, y_pos, y_end, y_dialect, y_out, y_chars, y_sizes, y_counts, y_draft, y_raw, y_readChars, y_readSizes, y_readCounts⟩ := v
  obtain ⟨a1, ⟨rfl, a2⟩, a3, a4⟩ := hX
  obtain ⟨b1, ⟨rfl, b2⟩, b3, b4⟩ := hY
  unfold wpX_addRow wpY_addRow
  dsimp only
  refine pk_lt rn 6 (fun h6 => ?_) (fun h6 => pk_eq rn 6 (fun _ => ⟨rfl, I'⟩) (fun e => absurd (by omega) e))
  refine xo_R h6 ?_
  dsimp only
  rw [nI_pred rn]
  refine xp_place (r := rn) (f := 0) (by omega) a1 (fun ch hch => ?_)
  dsimp only
  refine pk_eq rn 6 (fun e => absurd e (by omega)) (fun _ => ?_)
  rw [cl_x5]
  refine yp_place (k := 5 * rn) (by omega) b1 (fun ch' hch' => ?_)
  dsimp only
  refine ⟨pk_in rn 6 h6, nm_r (e' := upd y_counts rn (nI 1)) (by rw [nI_clamp (by omega)]; rfl) (nm_r (nI_1 rn) ?_)⟩
  refine ⟨rfl, 0, rn + 1, ln, D, cd_up C rn 1, cd_up Z (5 * rn) dn, cd_pk K (5 * rn) dn D, R, ⟨cd_tx0, ⟨rfl, h6⟩, ?_, a4⟩, ⟨cd_tx0, ⟨rfl, h6⟩, ?_, b4⟩⟩
  · have hch2 : cd_pa x_characters ch (5 * rn) dn D := hch
    have t := cd_tbP (cd_tbR a3) a1.1 (fun i hi => (a1.2.2 i hi).1) hch2
    rw [cd_uu] at t
    exact t
  · exact cd_tbN (cd_tbP b3 b1.1 (fun i hi => (b1.2.2 i hi).1) hch') (cd_fdP0 b1.1 (fun i hi => (b1.2.2 i hi).1) hch')
theorem i_vc_field {k : Nat} {u : SX} {v : SY} (I : i_Rel k u v) (hk : k + 4 ≤ 2048) : wpX_field (fun r u' => wpY_field (fun r' v' => r' = r ∧ i_Rel (k + 4) u' v') v) u := by
  have I' := I
  obtain ⟨dn, rn, ln, D, C, Z, K, R, hX, hY⟩ := I
  obtain ⟨x_draftSize, x_recordCount, x_rawCount, x_writingCount, x_scanState, x_scanSound, x_scanRecords, x_scanFields, x_scanSize, x_scanMostFields, x_scanLongest, x_scanUneven, x_draftCharacters, x_fieldCounts, x_fieldSizes, x_characters, x_rawCharacters, x_writing⟩ := u
  obtain ⟨y_records, y_drafted, y_length, y_readRecords, y_readFields, y_readSize, y_readFirst, y_readOver, y_readEven, y_pos, y_end, y_dialect, y_out, y_chars, y_sizes, y_counts, y_draft, y_raw, y_readChars, y_readSizes, y_readCounts⟩ := v
  obtain ⟨a1, ⟨rfl, a2⟩, a3, a4⟩ := hX
  obtain ⟨b1, ⟨rfl, b2⟩, b3, b4⟩ := hY
  unfold wpX_field wpY_field
  dsimp only
  refine pk_eq rn 0 (fun e => pk_eq rn 0 (fun _ => ⟨rfl, I'⟩) (fun z => absurd e z)) (fun e => ?_)
  obtain ⟨m, rfl⟩ : ∃ m, rn = m + 1 := ⟨rn - 1, by omega⟩
  have em : (nI m).toNatClampNeg = m := nI_clamp (by omega)
  obtain ⟨t1, t2, t3, t4⟩ := a3 m (by omega)
  obtain ⟨s1, s2, s3, s4⟩ := b3 m (by omega)
  refine nm_r (nI_pred m) ⟨pk_in m 6 (by omega), ?_⟩
  rw [em, t3]
  refine pk_lt (C m) 5 (fun h5 => ?_) (fun h5 => ?_)
  · refine xo_F (by omega) t3 h5 ?_
    dsimp only
    refine ⟨pk_in m 6 (by omega), ?_⟩
    rw [pk_us, nI_pred (C m)]
    refine xp_place (r := m) (f := C m) (by omega) a1 (fun ch hch => ?_)
    dsimp only
    refine ⟨pk_in m 6 (by omega), ?_⟩
    rw [pk_us]
    refine pk_eq (m + 1) 0 (fun z => absurd z e) (fun _ => nm_r (nI_pred m) ⟨pk_in m 6 (by omega), ?_⟩)
    rw [em, s3, ar_5']
    refine pk_eq (C m) 5 (fun z => absurd z (by omega)) (fun _ => ⟨pk_in m 6 (by omega), ?_⟩)
    refine yp_place (k := 5 * m + C m) (by omega) b1 (fun ch' hch' => ?_)
    dsimp only
    refine ⟨pk_in m 6 (by omega), pk_in m 6 (by omega), nm_r (e' := upd y_counts m (nI (C m + 1))) (by rw [s3, nI_1]) ⟨pk_in m 6 (by omega), ?_⟩⟩
    rw [pk_us]
    refine ⟨rfl, 0, m + 1, ln, D, cd_up C m (C m + 1), cd_up Z (5 * m + C m) dn, cd_pk K (5 * m + C m) dn D, R, ⟨cd_tx0, ⟨rfl, a2⟩, ?_, a4⟩, ⟨cd_tx0, ⟨rfl, b2⟩, ?_, b4⟩⟩
    · have t := cd_tbP (cd_tbF a3 h5) a1.1 (fun i hi => (a1.2.2 i hi).1) hch
      rw [cd_uu] at t
      exact t
    · exact cd_tbG (cd_tbP b3 b1.1 (fun i hi => (b1.2.2 i hi).1) hch') h5 (cd_fdP0 b1.1 (fun i hi => (b1.2.2 i hi).1) hch')
  · refine pk_eq (m + 1) 0 (fun z => absurd z e) (fun _ => nm_r (nI_pred m) ⟨pk_in m 6 (by omega), ?_⟩)
    rw [em, s3]
    exact pk_eq (C m) 5 (fun _ => ⟨rfl, I'⟩) (fun z => absurd (by omega) z)
theorem i_vc_put {k : Nat} {u : SX} {v : SY} (I : i_Rel k u v) (hk : k + 4 ≤ 2048) (v1 : Int32) (v2 : Int32) : wpX_put (fun r u' => wpY_put (fun r' v' => r' = r ∧ i_Rel (k + 4) u' v') v v1 v2) u v1 v2 := by
  have I' := I
  obtain ⟨dn, rn, ln, D, C, Z, K, R, hX, hY⟩ := I
  obtain ⟨x_draftSize, x_recordCount, x_rawCount, x_writingCount, x_scanState, x_scanSound, x_scanRecords, x_scanFields, x_scanSize, x_scanMostFields, x_scanLongest, x_scanUneven, x_draftCharacters, x_fieldCounts, x_fieldSizes, x_characters, x_rawCharacters, x_writing⟩ := u
  obtain ⟨y_records, y_drafted, y_length, y_readRecords, y_readFields, y_readSize, y_readFirst, y_readOver, y_readEven, y_pos, y_end, y_dialect, y_out, y_chars, y_sizes, y_counts, y_draft, y_raw, y_readChars, y_readSizes, y_readCounts⟩ := v
  obtain ⟨a1, ⟨rfl, a2⟩, a3, a4⟩ := hX
  obtain ⟨b1, ⟨rfl, b2⟩, b3, b4⟩ := hY
  unfold wpX_put wpY_put
  dsimp only
  by_cases e : ar_F rn C v1 v2
  · obtain ⟨i, j, hi, hj, rfl, rfl⟩ := e
    have c5 := (a3 i hi).2.1
    refine xf_t hi a2 a3 hj (br_f (by decide) ?_)
    refine xp_place (r := i) (f := j) (by omega) a1 (fun ch hch => ?_)
    dsimp only
    rw [ar_5, nI_clamp (by omega), pk_us]
    refine ⟨pk_in (5 * i + j) 30 (by omega), yf_t hi b2 b3 hj (br_f (by decide) ?_)⟩
    rw [ar_5']
    refine yp_place (k := 5 * i + j) (by omega) b1 (fun ch' hch' => ?_)
    dsimp only
    rw [nI_clamp (by omega), pk_us]
    refine ⟨pk_in (5 * i + j) 30 (by omega), rfl, 0, rn, ln, D, C, cd_up Z (5 * i + j) dn, cd_pk K (5 * i + j) dn D, R, ⟨cd_tx0, ⟨rfl, a2⟩, ?_, a4⟩, ⟨cd_tx0, ⟨rfl, b2⟩, ?_, b4⟩⟩
    · exact cd_tbP a3 a1.1 (fun i hi => (a1.2.2 i hi).1) hch
    · exact cd_tbP b3 b1.1 (fun i hi => (b1.2.2 i hi).1) hch'
  · exact xf_f a2 a3 e (br_t rfl (yf_f b2 b3 e (br_t rfl ⟨rfl, I'⟩)))
end
