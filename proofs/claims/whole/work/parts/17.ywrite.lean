/-! writing: the reference; written, write -/
/-- what the reference has written: with st it stores, without it the raw text stays -/
def yw_I (st : Bool) (raw0 : Nat → Int32) (w : cd_O) (out : Int32) (raw : Nat → Int32) : Prop :=
  w.1 ≤ 456 ∧ out = nI w.1 ∧ (st = true → ∀ j, j < w.1 → j < 96 → raw j = nI (w.2 j)) ∧ (st = false → raw = raw0)
section
variable {x_draftSize x_recordCount x_rawCount x_writingCount x_scanState x_scanSound x_scanRecords x_scanFields x_scanSize x_scanMostFields x_scanLongest x_scanUneven : Int32} {x_draftCharacters x_fieldCounts x_fieldSizes x_characters x_rawCharacters x_writing : Nat → Int32}
variable {y_records y_drafted y_length y_readRecords y_readFields y_readSize y_readFirst y_readOver y_readEven y_pos y_end y_dialect y_out : Int32} {y_chars y_sizes y_counts y_draft y_raw y_readChars y_readSizes y_readCounts : Nat → Int32}
variable {dn rn ln d : Nat} {D C Z K R : Nat → Nat} {st : Bool} {raw0 : Nat → Int32}
theorem yw_emit {post : SY → Prop} {w : cd_O} {c : Nat} (hw : yw_I st raw0 w y_out y_raw) (h : w.1 < 456)
    (H : ∀ (o : Int32) (a : Nat → Int32), yw_I st raw0 (cw_em w c) o a → post (y_records, y_drafted, y_length, y_readRecords, y_readFields, y_readSize, y_readFirst, y_readOver, y_readEven, y_pos, y_end, y_dialect, o, y_chars, y_sizes, y_counts, y_draft, a, y_readChars, y_readSizes, y_readCounts)) : wpY_emit post (y_records, y_drafted, y_length, y_readRecords, y_readFields, y_readSize, y_readFirst, y_readOver, y_readEven, y_pos, y_end, y_dialect, y_out, y_chars, y_sizes, y_counts, y_draft, y_raw, y_readChars, y_readSizes, y_readCounts) (nI c) (cd_b st) := by
  obtain ⟨h1, rfl, h3, h4⟩ := hw
  unfold wpY_emit
  dsimp only
  cases st with
  | false => exact br_t rfl (nm_r (nI_1 w.1) (H _ _ ⟨h, rfl, fun z => absurd z (by decide), h4⟩))
  | true =>
    refine br_f (by decide) (pk_le 96 w.1 (fun z => nm_r (nI_1 w.1) (H _ _ ⟨h, rfl, fun _ j h5 h6 => ?_, fun z => absurd z (by decide)⟩)) (fun z => ⟨pk_in w.1 98 (by omega), nm_r (e' := upd y_raw w.1 (nI c)) (by rw [nI_clamp (by omega)]) (nm_r (nI_1 w.1) (H _ _ ⟨h, rfl, fun _ j h5 h6 => ?_, fun z => absurd z (by decide)⟩))⟩))
    · show y_raw j = nI (cd_up w.2 w.1 c j)
      rw [cd_un (by omega)]
      exact h3 rfl j (by omega) h6
    · show upd y_raw w.1 (nI c) j = nI (cd_up w.2 w.1 c j)
      by_cases e : j = w.1
      · rw [e, cd_us, pk_us]
      · rw [cd_un e, pk_un e]
        have h5' : j < w.1 + 1 := h5
        exact h3 rfl j (by omega) h6
theorem yw_nq {post : Int32 → Prop} {r f : Nat} (hd : d < 8) (hr : r < 6) (hf5 : f < 5) (hc : y_counts r = nI (C r)) (hc1 : 1 ≤ C r) (hc5 : C r ≤ 5) (hf : cd_fd Z K y_sizes y_chars (5 * r + f))
    (H : post (cd_b (!cw_q (cd_sp d) C Z K r f))) :
    ∀ (e i n : Nat), i + e = Z (5 * r + f) → e < n → cw_nq (cd_sp d) K (6 * (5 * r + f)) i = false → wY_isPlainField_2 post (nI (5 * r + f)) y_records y_drafted y_length y_readRecords y_readFields y_readSize y_readFirst y_readOver y_readEven y_pos y_end (nI d) y_out y_chars y_sizes y_counts y_draft y_raw y_readChars y_readSizes y_readCounts n (nI i) := by
  obtain ⟨z6, zs, zc⟩ := hf
  have ek : (nI (5 * r + f)).toNatClampNeg = 5 * r + f := nI_clamp (by omega)
  have ed : nI (5 * r + f) / 5 = nI r := by
    have h := pk_div (a := 5 * r + f) (d := 5) (by omega) (by decide) (by decide)
    rw [show (5 * r + f) / 5 = r by omega] at h
    exact h
  have er : (nI r).toNatClampNeg = r := nI_clamp (by omega)
  have hT : cw_nq (cd_sp d) K (6 * (5 * r + f)) (Z (5 * r + f)) = true → post 0 := by
    intro z
    unfold cw_q at H
    rw [z, Bool.true_or] at H
    exact H
  intro e
  induction e with
  | zero =>
    intro i n hi hn hq
    obtain ⟨n, rfl⟩ : ∃ m, n = m + 1 := ⟨n - 1, by omega⟩
    have ei : i = Z (5 * r + f) := by omega
    rw [ei] at hq
    unfold cw_q at H
    rw [hq, Bool.false_or] at H
    rw [wY_isPlainField_2]
    rw [ek, zs, ed, er, hc]
    refine ⟨pk_in (5 * r + f) 30 (by omega), pk_le (Z (5 * r + f)) i (fun _ => ⟨pk_in (5 * r + f) 30 (by omega), pk_lt 0 (Z (5 * r + f)) (fun z0 => ?_) (fun z0 => ⟨by decide, pk_in r 6 hr, pk_le (C r) 1 (fun c1 => ?_) (fun c1 => ?_)⟩)⟩) (fun z => absurd z (by omega))⟩
    · rw [decide_eq_false (by omega), Bool.false_and] at H
      exact H
    · rw [decide_eq_true (by omega), decide_eq_true (by omega)] at H
      exact H
    · rw [decide_eq_false (p := C r = 1) (by omega), Bool.and_false] at H
      exact H
  | succ e ih =>
    intro i n hi hn hq
    obtain ⟨n, rfl⟩ : ∃ m, n = m + 1 := ⟨n - 1, by omega⟩
    obtain ⟨k9, kc⟩ := zc i (by omega)
    rw [wY_isPlainField_2]
    rw [ek, zs]
    refine ⟨pk_in (5 * r + f) 30 (by omega), pk_le (Z (5 * r + f)) i (fun z => absurd z (by omega)) (fun _ => ⟨pk_in (6 * (5 * r + f) + i) 180 (by omega) (ar_6' _ _), nm_r (e' := nI (K (6 * (5 * r + f) + i))) (by rw [ar_6', nI_clamp (by omega), kc]) ?_⟩)⟩
    refine yr_pl hd (by omega) (fun c1 c2 => br_f (by decide) (nm_r (nI_1 i) ?_)) (fun z => br_t rfl (hT (cw_nqm (i := i + 1) (by omega) (cw_nqt z))))
    exact ih (i + 1) n (by omega) (by omega) (cw_nqf hq c1 c2)
theorem yw_ch {post : SY → Prop} {k : Nat} {qt : Bool} {w : cd_O} (hd : d < 8) (hk : k < 30) (hf : cd_fd Z K y_sizes y_chars k) (hw : w.1 + 13 ≤ 456)
    (H : ∀ (o : Int32) (a : Nat → Int32), yw_I st raw0 (cw_o qt (cw_ch (cw_bq d) K (6 * k) w (Z k)) 7) o a → post (y_records, y_drafted, y_length, y_readRecords, y_readFields, y_readSize, y_readFirst, y_readOver, y_readEven, y_pos, y_end, nI d, o, y_chars, y_sizes, y_counts, y_draft, a, y_readChars, y_readSizes, y_readCounts)) :
    ∀ (e i n : Nat) (o : Int32) (a : Nat → Int32), i + e = Z k → e < n → yw_I st raw0 (cw_ch (cw_bq d) K (6 * k) w i) o a →
      wY_writeField_20 post (nI k) (cd_b st) (cd_b (!qt)) n (nI i) y_records y_drafted y_length y_readRecords y_readFields y_readSize y_readFirst y_readOver y_readEven y_pos y_end (nI d) o y_chars y_sizes y_counts y_draft a y_readChars y_readSizes y_readCounts := by
  obtain ⟨z6, zs, zc⟩ := hf
  have ek : (nI k).toNatClampNeg = k := nI_clamp (by omega)
  intro e
  induction e with
  | zero =>
    intro i n o a hi hn hx
    obtain ⟨n, rfl⟩ : ∃ m, n = m + 1 := ⟨n - 1, by omega⟩
    have ei : i = Z k := by omega
    have hb := cw_chb (cw_bq d) K (6 * k) w i
    rw [wY_writeField_20]
    dsimp only
    rw [ek, zs]
    refine ⟨pk_in k 30 hk, pk_le (Z k) i (fun _ => ?_) (fun z => absurd z (by omega))⟩
    rw [ei] at hx hb
    cases qt with
    | false => exact br_f (by decide) (H o a hx)
    | true => exact br_t rfl (yw_emit (c := 7) hx (by omega) (fun o' a' h' => H o' a' h'))
  | succ e ih =>
    intro i n o a hi hn hx
    obtain ⟨n, rfl⟩ : ∃ m, n = m + 1 := ⟨n - 1, by omega⟩
    obtain ⟨k9, kc⟩ := zc i (by omega)
    have hb := cw_chb (cw_bq d) K (6 * k) w i
    have es : cw_ch (cw_bq d) K (6 * k) w (i + 1) = cw_em (if K (6 * k + i) = 7 then cw_em (cw_ch (cw_bq d) K (6 * k) w i) (cw_bq d) else cw_ch (cw_bq d) K (6 * k) w i) (K (6 * k + i)) := rfl
    rw [wY_writeField_20]
    dsimp only
    rw [ek, zs]
    refine ⟨pk_in k 30 hk, pk_le (Z k) i (fun z => absurd z (by omega)) (fun _ => ⟨pk_in (6 * k + i) 180 (by omega) (ar_6' _ _), nm_r (e' := nI (K (6 * k + i))) (by rw [ar_6', nI_clamp (by omega), kc]) ?_⟩)⟩
    have h73 : ∀ (w' : cd_O) (o' : Int32) (a' : Nat → Int32), w'.1 < 456 → cw_em w' (K (6 * k + i)) = cw_ch (cw_bq d) K (6 * k) w (i + 1) → yw_I st raw0 w' o' a' →
        wY_writeField_73 post (wY_writeField_20 post (nI k) (cd_b st) (cd_b (!qt)) n) (nI k) (cd_b st) (cd_b (!qt)) (nI i) (nI (K (6 * k + i))) y_records y_drafted y_length y_readRecords y_readFields y_readSize y_readFirst y_readOver y_readEven y_pos y_end (nI d) o' y_chars y_sizes y_counts y_draft a' y_readChars y_readSizes y_readCounts := by
      intro w' o' a' hw' ee hx'
      refine yw_emit hx' hw' (fun o2 a2 h2 => ?_)
      dsimp only
      rw [ee] at h2
      exact nm_r (nI_1 i) (ih (i + 1) n o2 a2 (by omega) (by omega) h2)
    refine pk_eq (K (6 * k + i)) 7 (fun c7 => ?_) (fun n7 => ?_)
    · have h69 : wY_writeField_69 post (wY_writeField_20 post (nI k) (cd_b st) (cd_b (!qt)) n) (nI k) (cd_b st) (cd_b (!qt)) (nI i) (nI (K (6 * k + i))) (nI (cw_bq d)) y_records y_drafted y_length y_readRecords y_readFields y_readSize y_readFirst y_readOver y_readEven y_pos y_end (nI d) o y_chars y_sizes y_counts y_draft a y_readChars y_readSizes y_readCounts := by
        refine yw_emit hx (by omega) (fun o' a' h' => ?_)
        dsimp only
        refine h73 (cw_em (cw_ch (cw_bq d) K (6 * k) w i) (cw_bq d)) o' a' ?_ ?_ h'
        · rw [cw_em1]
          omega
        · rw [es, if_pos c7]
      have bq : cw_bq d = if cd_es d = true then 10 else 7 := rfl
      rcases cd_a4 d hd with ⟨z, e⟩ | ⟨z, e⟩
      · rw [show cw_bq d = 7 by rw [bq, e]; rfl] at h69
        exact br_t z h69
      · rw [show cw_bq d = 10 by rw [bq, e]; rfl] at h69
        exact br_f z h69
    · refine h73 (cw_ch (cw_bq d) K (6 * k) w i) o a (by omega) ?_ hx
      rw [es, if_neg n7]
theorem yw_field {post : SY → Prop} {r f : Nat} {w : cd_O} (hd : d < 8) (hr : r < 6) (hf5 : f < 5) (hc : y_counts r = nI (C r)) (hc1 : 1 ≤ C r) (hc5 : C r ≤ 5) (hf : cd_fd Z K y_sizes y_chars (5 * r + f)) (hw : w.1 + 14 ≤ 456)
    (hx : yw_I st raw0 w y_out y_raw)
    (H : ∀ (o : Int32) (a : Nat → Int32), yw_I st raw0 (cw_f d C Z K r f w) o a → post (y_records, y_drafted, y_length, y_readRecords, y_readFields, y_readSize, y_readFirst, y_readOver, y_readEven, y_pos, y_end, nI d, o, y_chars, y_sizes, y_counts, y_draft, a, y_readChars, y_readSizes, y_readCounts)) :
    wpY_writeField post (y_records, y_drafted, y_length, y_readRecords, y_readFields, y_readSize, y_readFirst, y_readOver, y_readEven, y_pos, y_end, nI d, y_out, y_chars, y_sizes, y_counts, y_draft, y_raw, y_readChars, y_readSizes, y_readCounts) (nI (5 * r + f)) (cd_b st) := by
  unfold wpY_writeField
  dsimp only
  unfold wpY_isPlainField
  dsimp only
  refine ⟨Z (5 * r + f) + 1, yw_nq hd hr hf5 hc hc1 hc5 hf ?_ (Z (5 * r + f)) 0 (Z (5 * r + f) + 1) (by omega) (by omega) rfl⟩
  unfold cw_f at H
  cases hq : cw_q (cd_sp d) C Z K r f with
  | false =>
    rw [hq] at H
    exact br_f (by decide) ⟨Z (5 * r + f) + 1, yw_ch (qt := false) (w := w) hd (by omega) hf (by omega) H (Z (5 * r + f)) 0 (Z (5 * r + f) + 1) _ _ (by omega) (by omega) hx⟩
  | true =>
    rw [hq] at H
    refine br_t rfl (yw_emit (c := 7) hx (by omega) (fun o a h' => ?_))
    dsimp only
    exact ⟨Z (5 * r + f) + 1, yw_ch (qt := true) (w := cw_em w 7) hd (by omega) hf (by rw [cw_em1]; omega) H (Z (5 * r + f)) 0 (Z (5 * r + f) + 1) _ _ (by omega) (by omega) h'⟩
theorem yw_rec {post : SY → Prop} {J : Int32 → Int32 → Int32 → Int32 → Int32 → Int32 → Int32 → Int32 → Int32 → Int32 → Int32 → Int32 → Int32 → Int32 → (Nat → Int32) → (Nat → Int32) → (Nat → Int32) → (Nat → Int32) → (Nat → Int32) → (Nat → Int32) → (Nat → Int32) → (Nat → Int32) → Prop} {r : Nat} {w : cd_O} (hd : d < 8) (hr : r < 6) (hc : y_counts r = nI (C r)) (hc1 : 1 ≤ C r) (hc5 : C r ≤ 5) (hf : ∀ f, f < C r → cd_fd Z K y_sizes y_chars (5 * r + f)) (hw : w.1 + 76 ≤ 456)
    (H : ∀ (o : Int32) (a : Nat → Int32), yw_I st raw0 (cw_e d (cw_r d C Z K r w (C r))) o a → J (nI (r + 1)) y_records y_drafted y_length y_readRecords y_readFields y_readSize y_readFirst y_readOver y_readEven y_pos y_end (nI d) o y_chars y_sizes y_counts y_draft a y_readChars y_readSizes y_readCounts) :
    ∀ (e f n : Nat) (o : Int32) (a : Nat → Int32), f + e = C r → e < n → yw_I st raw0 (cw_r d C Z K r w f) o a →
      wY_writeAll_23 post J (nI d) (cd_b st) (nI r) n (nI f) y_records y_drafted y_length y_readRecords y_readFields y_readSize y_readFirst y_readOver y_readEven y_pos y_end (nI d) o y_chars y_sizes y_counts y_draft a y_readChars y_readSizes y_readCounts := by
  have hsp := cd_spr d
  have er : (nI r).toNatClampNeg = r := nI_clamp (by omega)
  intro e
  induction e with
  | zero =>
    intro f n o a hi hn hx
    obtain ⟨n, rfl⟩ : ∃ m, n = m + 1 := ⟨n - 1, by omega⟩
    have ef : f = C r := by omega
    have hb := cw_rb (d := d) (C := C) (Z := Z) (K := K) (r := r) w f (fun g hg => (hf g (by omega)).1)
    rw [ef] at hx hb
    rw [wY_writeAll_23]
    dsimp only
    rw [er, hc]
    refine ⟨pk_in r 6 hr, pk_le (C r) f (fun _ => ?_) (fun z => absurd z (by omega))⟩
    unfold cw_e at H
    have h78 : ∀ (w' : cd_O) (o' : Int32) (a' : Nat → Int32), w'.1 < 456 → w' = cw_o (cd_cr d) (cw_r d C Z K r w (C r)) 8 → yw_I st raw0 w' o' a' → wY_writeAll_78 post J (nI d) (cd_b st) (nI r) y_records y_drafted y_length y_readRecords y_readFields y_readSize y_readFirst y_readOver y_readEven y_pos y_end (nI d) o' y_chars y_sizes y_counts y_draft a' y_readChars y_readSizes y_readCounts := by
      intro w' o' a' hw' ee hx'
      refine yw_emit (c := 9) hx' hw' (fun o2 a2 h2 => ?_)
      dsimp only
      rw [ee] at h2
      exact nm_r (nI_1 r) (H o2 a2 h2)
    rcases cd_a2 d hd with ⟨z, hcr⟩ | ⟨z, hcr⟩
    · refine br_t z (yw_emit (c := 8) hx (by omega) (fun o' a' h' => ?_))
      dsimp only
      exact h78 (cw_em (cw_r d C Z K r w (C r)) 8) o' a' (by rw [cw_em1]; omega) (by rw [hcr]; rfl) h'
    · exact br_f z (h78 (cw_r d C Z K r w (C r)) o a (by omega) (by rw [hcr]; rfl) hx)
  | succ e ih =>
    intro f n o a hi hn hx
    obtain ⟨n, rfl⟩ : ∃ m, n = m + 1 := ⟨n - 1, by omega⟩
    have hb := cw_rb (d := d) (C := C) (Z := Z) (K := K) (r := r) w f (fun g hg => (hf g (by omega)).1)
    have es : cw_r d C Z K r w (f + 1) = cw_f d C Z K r f (if f = 0 then cw_r d C Z K r w f else cw_em (cw_r d C Z K r w f) (cd_sp d)) := rfl
    rw [wY_writeAll_23]
    dsimp only
    rw [er, hc]
    refine ⟨pk_in r 6 hr, pk_le (C r) f (fun z => absurd z (by omega)) (fun _ => ?_)⟩
    have h48 : ∀ (w' : cd_O) (o' : Int32) (a' : Nat → Int32), w'.1 + 14 ≤ 456 → cw_f d C Z K r f w' = cw_r d C Z K r w (f + 1) → yw_I st raw0 w' o' a' →
        wY_writeAll_48 post J (wY_writeAll_23 post J (nI d) (cd_b st) (nI r) n) (nI d) (cd_b st) (nI r) (nI f) y_records y_drafted y_length y_readRecords y_readFields y_readSize y_readFirst y_readOver y_readEven y_pos y_end (nI d) o' y_chars y_sizes y_counts y_draft a' y_readChars y_readSizes y_readCounts := by
      intro w' o' a' hw' ee hx'
      unfold wY_writeAll_48
      rw [ar_5']
      refine yw_field (w := w') hd hr (by omega) hc hc1 hc5 (hf f (by omega)) hw' hx' (fun o2 a2 h2 => ?_)
      dsimp only
      rw [ee] at h2
      exact nm_r (nI_1 f) (ih (f + 1) n o2 a2 (by omega) (by omega) h2)
    refine pk_le f 0 (fun f0 => ?_) (fun f0 => ?_)
    · exact h48 (cw_r d C Z K r w f) o a (by omega) (by rw [es, if_pos (by omega)]) hx
    · refine yr_sp hd ?_
      refine yw_emit hx (by omega) (fun o' a' h' => ?_)
      dsimp only
      exact h48 (cw_em (cw_r d C Z K r w f) (cd_sp d)) o' a' (by rw [cw_em1]; omega) (by rw [es, if_neg (by omega)]) h'
theorem yw_all {post : SY → Prop} (hd : d < 8) (hr : rn ≤ 6) (ht : cd_tb rn C Z K y_counts y_sizes y_chars)
    (H : ∀ (o : Int32) (a : Nat → Int32), yw_I st raw0 (cw_a d C Z K rn) o a → post (nI rn, y_drafted, y_length, y_readRecords, y_readFields, y_readSize, y_readFirst, y_readOver, y_readEven, y_pos, y_end, nI d, o, y_chars, y_sizes, y_counts, y_draft, a, y_readChars, y_readSizes, y_readCounts)) :
    ∀ (e r n : Nat) (o : Int32) (a : Nat → Int32), r + e = rn → e < n → yw_I st raw0 (cw_a d C Z K r) o a →
      wY_writeAll_12 post (nI d) (cd_b st) n (nI r) (nI rn) y_drafted y_length y_readRecords y_readFields y_readSize y_readFirst y_readOver y_readEven y_pos y_end (nI d) o y_chars y_sizes y_counts y_draft a y_readChars y_readSizes y_readCounts := by
  intro e
  induction e with
  | zero =>
    intro r n o a hi hn hx
    obtain ⟨n, rfl⟩ : ∃ m, n = m + 1 := ⟨n - 1, by omega⟩
    have ef : r = rn := by omega
    rw [ef] at hx
    rw [wY_writeAll_12]
    exact pk_le rn r (fun _ => H o a hx) (fun z => absurd z (by omega))
  | succ e ih =>
    intro r n o a hi hn hx
    obtain ⟨n, rfl⟩ : ∃ m, n = m + 1 := ⟨n - 1, by omega⟩
    obtain ⟨t1, t2, t3, t4⟩ := ht r (by omega)
    have hb := cw_ab (d := d) ht r (by omega)
    rw [wY_writeAll_12]
    refine pk_le rn r (fun z => absurd z (by omega)) (fun _ => ⟨C r + 1, ?_⟩)
    exact yw_rec (w := cw_a d C Z K r) hd (by omega) t3 t1 t2 t4 (by omega) (fun o' a' h' => ih (r + 1) n o' a' (by omega) (by omega) h') (C r) 0 (C r + 1) o a (by omega) (by omega) hx
theorem yw_write {post : SY → Prop} (hd : d < 8) (hr : y_records = nI rn) (hr6 : rn ≤ 6) (ht : cd_tb rn C Z K y_counts y_sizes y_chars)
    (H : ∀ (o : Int32) (a : Nat → Int32), yw_I st y_raw (cw_a d C Z K rn) o a → post (nI rn, y_drafted, y_length, y_readRecords, y_readFields, y_readSize, y_readFirst, y_readOver, y_readEven, y_pos, y_end, nI d, o, y_chars, y_sizes, y_counts, y_draft, a, y_readChars, y_readSizes, y_readCounts)) :
    wpY_writeAll post (y_records, y_drafted, y_length, y_readRecords, y_readFields, y_readSize, y_readFirst, y_readOver, y_readEven, y_pos, y_end, y_dialect, y_out, y_chars, y_sizes, y_counts, y_draft, y_raw, y_readChars, y_readSizes, y_readCounts) (nI d) (cd_b st) := by
  subst hr
  exact ⟨rn + 1, yw_all hd hr6 ht H rn 0 (rn + 1) _ _ (by omega) (by omega) ⟨Nat.zero_le _, rfl, fun _ j hj => absurd hj (Nat.not_lt_zero j), fun _ => rfl⟩⟩
theorem i_vc_written {k : Nat} {u : SX} {v : SY} (I : i_Rel k u v) (hk : k + 4 ≤ 2048) (v1 : Int32) : wpX_written (fun r u' => wpY_written (fun r' v' => r' = r ∧ i_Rel (k + 4) u' v') v v1) u v1 := by
  have I' := I
  obtain ⟨dn, rn, ln, D, C, Z, K, R, hX, hY⟩ := I
  obtain ⟨x_draftSize, x_recordCount, x_rawCount, x_writingCount, x_scanState, x_scanSound, x_scanRecords, x_scanFields, x_scanSize, x_scanMostFields, x_scanLongest, x_scanUneven, x_draftCharacters, x_fieldCounts, x_fieldSizes, x_characters, x_rawCharacters, x_writing⟩ := u
  obtain ⟨y_records, y_drafted, y_length, y_readRecords, y_readFields, y_readSize, y_readFirst, y_readOver, y_readEven, y_pos, y_end, y_dialect, y_out, y_chars, y_sizes, y_counts, y_draft, y_raw, y_readChars, y_readSizes, y_readCounts⟩ := v
  obtain ⟨a1, ⟨a2, a2'⟩, a3, a4⟩ := hX
  obtain ⟨b1, ⟨b2, b2'⟩, b3, b4⟩ := hY
  unfold wpX_written wpY_written
  dsimp only
  rcases ar_d v1 with hx | ⟨d, hd, rfl⟩
  · exact xd_f hx (br_t rfl (yd_f hx (br_t rfl ⟨rfl, I'⟩)))
  · refine xd_t hd (br_f (by decide) ?_)
    refine xw_compose hd a2 a2' a3 (fun wc wr hw => ?_)
    dsimp only
    refine yd_t hd (br_f (by decide) ?_)
    refine yw_write (st := false) hd b2 b2' b3 (fun o a ho => ?_)
    dsimp only
    obtain ⟨o1, o2, o3, o4⟩ := ho
    have ea : a = y_raw := o4 rfl
    subst ea
    exact ⟨o2.trans hw.2.1.symm, dn, rn, ln, D, C, Z, K, R, ⟨a1, ⟨rfl, a2'⟩, a3, a4⟩, ⟨b1, ⟨rfl, b2'⟩, b3, b4⟩⟩
theorem i_vc_write {k : Nat} {u : SX} {v : SY} (I : i_Rel k u v) (hk : k + 4 ≤ 2048) (v1 : Int32) : wpX_write (fun r u' => wpY_write (fun r' v' => r' = r ∧ i_Rel (k + 4) u' v') v v1) u v1 := by
  have I' := I
  obtain ⟨dn, rn, ln, D, C, Z, K, R, hX, hY⟩ := I
  obtain ⟨x_draftSize, x_recordCount, x_rawCount, x_writingCount, x_scanState, x_scanSound, x_scanRecords, x_scanFields, x_scanSize, x_scanMostFields, x_scanLongest, x_scanUneven, x_draftCharacters, x_fieldCounts, x_fieldSizes, x_characters, x_rawCharacters, x_writing⟩ := u
  obtain ⟨y_records, y_drafted, y_length, y_readRecords, y_readFields, y_readSize, y_readFirst, y_readOver, y_readEven, y_pos, y_end, y_dialect, y_out, y_chars, y_sizes, y_counts, y_draft, y_raw, y_readChars, y_readSizes, y_readCounts⟩ := v
  obtain ⟨a1, ⟨a2, a2'⟩, a3, a4⟩ := hX
  obtain ⟨b1, ⟨b2, b2'⟩, b3, b4⟩ := hY
  unfold wpX_write wpY_write
  dsimp only
  rcases ar_d v1 with hx | ⟨d, hd, rfl⟩
  · exact xd_f hx (br_t rfl (yd_f hx (br_t rfl ⟨rfl, I'⟩)))
  · refine xd_t hd (br_f (by decide) ?_)
    refine xw_compose hd a2 a2' a3 (fun wc wr hw => ?_)
    dsimp only
    obtain ⟨w1, rfl, w3⟩ := hw
    refine pk_le (cw_a d C Z K rn).1 96 (fun h96 => ⟨(cw_a d C Z K rn).1 + 1, ?_⟩) (fun h96 => ?_)
    · refine xw_copy h96 w3 (fun rw' hrw => ?_) (cw_a d C Z K rn).1 0 ((cw_a d C Z K rn).1 + 1) x_rawCharacters (by omega) (by omega) (fun j hj => absurd hj (Nat.not_lt_zero j))
      refine yd_t hd (br_f (by decide) ?_)
      refine yw_write (st := false) hd b2 b2' b3 (fun o a ho => ?_)
      dsimp only
      obtain ⟨o1, rfl, o3, o4⟩ := ho
      refine pk_le (cw_a d C Z K rn).1 96 (fun _ => ?_) (fun z => absurd z (by omega))
      refine yw_write (st := true) hd rfl b2' b3 (fun o' a' ho' => ?_)
      dsimp only
      obtain ⟨p1, rfl, p3, p4⟩ := ho'
      exact ⟨rfl, dn, rn, (cw_a d C Z K rn).1, D, C, Z, K, (cw_a d C Z K rn).2, ⟨a1, ⟨rfl, a2'⟩, a3, hrw⟩, ⟨b1, ⟨rfl, b2'⟩, b3, ⟨h96, rfl, fun i hi => ⟨(w3 i hi).1, p3 rfl i hi (by omega)⟩⟩⟩⟩
    · refine yd_t hd (br_f (by decide) ?_)
      refine yw_write (st := false) hd b2 b2' b3 (fun o a ho => ?_)
      dsimp only
      obtain ⟨o1, rfl, o3, o4⟩ := ho
      have ea : a = y_raw := o4 rfl
      subst ea
      exact pk_le (cw_a d C Z K rn).1 96 (fun z => absurd z (by omega)) (fun _ => ⟨rfl, dn, rn, ln, D, C, Z, K, R, ⟨a1, ⟨rfl, a2'⟩, a3, a4⟩, ⟨b1, ⟨rfl, b2'⟩, b3, b4⟩⟩)
end
