/-! writing: the component -/
theorem cw_nqm {s b i n : Nat} {K : Nat → Nat} (hi : i ≤ n) (h : cw_nq s K b i = true) : cw_nq s K b n = true := by
  induction n with
  | zero =>
    have e : i = 0 := by omega
    rw [e] at h
    exact h
  | succ n ih =>
    by_cases e : i = n + 1
    · rw [← e]
      exact h
    · show (cw_nq s K b n || _) = true
      rw [ih (by omega), Bool.true_or]
theorem cw_nqt {s b i : Nat} {K : Nat → Nat} (h : K (b + i) = s ∨ 7 ≤ K (b + i)) : cw_nq s K b (i + 1) = true := by
  show (cw_nq s K b i || (decide (K (b + i) = s) || decide (7 ≤ K (b + i)))) = true
  rcases h with h | h
  · rw [decide_eq_true h, Bool.true_or, Bool.or_true]
  · rw [decide_eq_true h, Bool.or_true, Bool.or_true]
theorem cw_nqf {s b i : Nat} {K : Nat → Nat} (h0 : cw_nq s K b i = false) (h1 : K (b + i) ≠ s) (h2 : K (b + i) < 7) : cw_nq s K b (i + 1) = false := by
  show (cw_nq s K b i || (decide (K (b + i) = s) || decide (7 ≤ K (b + i)))) = false
  rw [h0, decide_eq_false h1, decide_eq_false (by omega)]
  rfl
section
variable {x_draftSize x_recordCount x_rawCount x_writingCount x_scanState x_scanSound x_scanRecords x_scanFields x_scanSize x_scanMostFields x_scanLongest x_scanUneven : Int32} {x_draftCharacters x_fieldCounts x_fieldSizes x_characters x_rawCharacters x_writing : Nat → Int32}
variable {dn rn ln d : Nat} {C Z K : Nat → Nat}
theorem xw_emit {post : SX → Prop} {w : cd_O} {c : Nat} (hw : cd_tx 456 10 w.1 w.2 x_writingCount x_writing) (h : w.1 < 456) (hc : c ≤ 10)
    (H : ∀ (wc : Int32) (wr : Nat → Int32), cd_tx 456 10 (cw_em w c).1 (cw_em w c).2 wc wr → post (x_draftSize, x_recordCount, x_rawCount, wc, x_scanState, x_scanSound, x_scanRecords, x_scanFields, x_scanSize, x_scanMostFields, x_scanLongest, x_scanUneven, x_draftCharacters, x_fieldCounts, x_fieldSizes, x_characters, x_rawCharacters, wr)) : wpX_emit post (x_draftSize, x_recordCount, x_rawCount, x_writingCount, x_scanState, x_scanSound, x_scanRecords, x_scanFields, x_scanSize, x_scanMostFields, x_scanLongest, x_scanUneven, x_draftCharacters, x_fieldCounts, x_fieldSizes, x_characters, x_rawCharacters, x_writing) (nI c) := by
  obtain ⟨h1, rfl, h3⟩ := hw
  unfold wpX_emit
  dsimp only
  refine pk_le 456 w.1 (fun z => absurd z (by omega)) (fun _ => ⟨pk_in w.1 456 h, nm_r (e' := upd x_writing w.1 (nI c)) (by rw [nI_clamp (by omega)]) (nm_r (nI_1 w.1) (H _ _ ?_))⟩)
  exact cd_txU ⟨h1, rfl, h3⟩ h hc
theorem xw_nq {post : Int32 → Prop} {s r f : Nat} (hs : s < 100) (hr : r < 6) (hk : 5 * r + f < 30) (hc : x_fieldCounts r = nI (C r)) (hc5 : C r ≤ 5) (hf : cd_fd Z K x_fieldSizes x_characters (5 * r + f))
    (H : post (cd_b (cw_q s C Z K r f))) :
    ∀ (e i n : Nat), i + e = Z (5 * r + f) → e < n → cw_nq s K (6 * (5 * r + f)) i = false → wX_needsQuotes_10 post (nI s) (nI r) (nI (5 * r + f)) x_draftSize x_recordCount x_rawCount x_writingCount x_scanState x_scanSound x_scanRecords x_scanFields x_scanSize x_scanMostFields x_scanLongest x_scanUneven x_draftCharacters x_fieldCounts x_fieldSizes x_characters x_rawCharacters x_writing n (nI i) := by
  obtain ⟨z6, zs, zc⟩ := hf
  have ek : (nI (5 * r + f)).toNatClampNeg = 5 * r + f := nI_clamp (by omega)
  have er : (nI r).toNatClampNeg = r := nI_clamp (by omega)
  have hT : cw_nq s K (6 * (5 * r + f)) (Z (5 * r + f)) = true → post 1 := by
    intro z
    unfold cw_q at H
    rw [z, Bool.true_or] at H
    exact H
  intro e
  induction e with
  | zero =>
    intro i n hi hn hq
    obtain ⟨n, rfl⟩ : ∃ m, n = m + 1 := ⟨n - 1, by omega⟩
    have ei : i = Z (5 * r + f) := by omega
    rw [ei] at hq
    unfold cw_q at H
    rw [hq, Bool.false_or] at H
    rw [wX_needsQuotes_10]
    rw [ek, zs, er, hc]
    refine ⟨pk_in (5 * r + f) 30 hk, pk_le (Z (5 * r + f)) i (fun _ => ⟨pk_in (5 * r + f) 30 hk, pk_eq (Z (5 * r + f)) 0 (fun z0 => ⟨pk_in r 6 hr, pk_eq (C r) 1 (fun c1 => ?_) (fun c1 => ?_)⟩) (fun z0 => ?_)⟩) (fun z => absurd z (by omega))⟩
    · rw [decide_eq_true z0, decide_eq_true c1] at H
      exact H
    · rw [decide_eq_false c1, Bool.and_false] at H
      exact H
    · rw [decide_eq_false z0, Bool.false_and] at H
      exact H
  | succ e ih =>
    intro i n hi hn hq
    obtain ⟨n, rfl⟩ : ∃ m, n = m + 1 := ⟨n - 1, by omega⟩
    obtain ⟨k9, kc⟩ := zc i (by omega)
    rw [wX_needsQuotes_10]
    rw [ek, zs]
    refine ⟨pk_in (5 * r + f) 30 hk, pk_le (Z (5 * r + f)) i (fun z => absurd z (by omega)) (fun _ => ⟨pk_in (6 * (5 * r + f) + i) 180 (by omega) (ar_6 _ _), nm_r (e' := nI (K (6 * (5 * r + f) + i))) (by rw [ar_6, nI_clamp (by omega), kc]) ?_⟩)⟩
    have ht : (K (6 * (5 * r + f) + i) = s ∨ 7 ≤ K (6 * (5 * r + f) + i)) → post 1 := fun z => hT (cw_nqm (i := i + 1) (by omega) (cw_nqt z))
    refine pk_eq (K (6 * (5 * r + f) + i)) s (fun z => ht (Or.inl z)) (fun ns => pk_eq (K (6 * (5 * r + f) + i)) 7 (fun z => ht (by omega)) (fun n7 => pk_eq (K (6 * (5 * r + f) + i)) 8 (fun z => ht (by omega)) (fun n8 => pk_eq (K (6 * (5 * r + f) + i)) 9 (fun z => ht (by omega)) (fun n9 => nm_r (nI_1 i) ?_))))
    exact ih (i + 1) n (by omega) (by omega) (cw_nqf hq ns (by omega))
theorem xw_ch {post : SX → Prop} {q k : Nat} {qt : Bool} {w : cd_O} (hq : q ≤ 10) (hk : k < 30) (hf : cd_fd Z K x_fieldSizes x_characters k) (hw : w.1 + 13 ≤ 456)
    (H : ∀ (wc : Int32) (wr : Nat → Int32), cd_tx 456 10 (cw_o qt (cw_ch q K (6 * k) w (Z k)) 7).1 (cw_o qt (cw_ch q K (6 * k) w (Z k)) 7).2 wc wr → post (x_draftSize, x_recordCount, x_rawCount, wc, x_scanState, x_scanSound, x_scanRecords, x_scanFields, x_scanSize, x_scanMostFields, x_scanLongest, x_scanUneven, x_draftCharacters, x_fieldCounts, x_fieldSizes, x_characters, x_rawCharacters, wr)) :
    ∀ (e i n : Nat) (wc : Int32) (wr : Nat → Int32), i + e = Z k → e < n → cd_tx 456 10 (cw_ch q K (6 * k) w i).1 (cw_ch q K (6 * k) w i).2 wc wr →
      wX_composeField_62 post (nI k) (nI (Z k)) (nI q) (cd_b qt) n (nI i) x_draftSize x_recordCount x_rawCount wc x_scanState x_scanSound x_scanRecords x_scanFields x_scanSize x_scanMostFields x_scanLongest x_scanUneven x_draftCharacters x_fieldCounts x_fieldSizes x_characters x_rawCharacters wr := by
  obtain ⟨z6, zs, zc⟩ := hf
  intro e
  induction e with
  | zero =>
    intro i n wc wr hi hn hx
    obtain ⟨n, rfl⟩ : ∃ m, n = m + 1 := ⟨n - 1, by omega⟩
    have ei : i = Z k := by omega
    have hb := cw_chb q K (6 * k) w i
    rw [wX_composeField_62]
    refine pk_le (Z k) i (fun _ => ?_) (fun z => absurd z (by omega))
    rw [ei] at hx hb
    cases qt with
    | false => exact br_t rfl (H wc wr hx)
    | true => exact br_f (by decide) (xw_emit (c := 7) hx (by omega) (by omega) (fun wc' wr' h' => H wc' wr' h'))
  | succ e ih =>
    intro i n wc wr hi hn hx
    obtain ⟨n, rfl⟩ : ∃ m, n = m + 1 := ⟨n - 1, by omega⟩
    obtain ⟨k9, kc⟩ := zc i (by omega)
    have hb := cw_chb q K (6 * k) w i
    have es : cw_ch q K (6 * k) w (i + 1) = cw_em (if K (6 * k + i) = 7 then cw_em (cw_ch q K (6 * k) w i) q else cw_ch q K (6 * k) w i) (K (6 * k + i)) := rfl
    rw [wX_composeField_62]
    refine pk_le (Z k) i (fun z => absurd z (by omega)) (fun _ => ⟨pk_in (6 * k + i) 180 (by omega) (ar_6 _ _), nm_r (e' := nI (K (6 * k + i))) (by rw [ar_6, nI_clamp (by omega), kc]) ?_⟩)
    have h97 : ∀ (w' : cd_O) (wc' : Int32) (wr' : Nat → Int32), w'.1 < 456 → cw_em w' (K (6 * k + i)) = cw_ch q K (6 * k) w (i + 1) → cd_tx 456 10 w'.1 w'.2 wc' wr' →
        wX_composeField_97 post (wX_composeField_62 post (nI k) (nI (Z k)) (nI q) (cd_b qt) n) (nI k) (nI (Z k)) (nI q) (cd_b qt) (nI i) (nI (K (6 * k + i))) x_draftSize x_recordCount x_rawCount wc' x_scanState x_scanSound x_scanRecords x_scanFields x_scanSize x_scanMostFields x_scanLongest x_scanUneven x_draftCharacters x_fieldCounts x_fieldSizes x_characters x_rawCharacters wr' := by
      intro w' wc' wr' hw' ee hx'
      refine xw_emit hx' hw' (by omega) (fun wc2 wr2 h2 => ?_)
      dsimp only
      rw [ee] at h2
      exact nm_r (nI_1 i) (ih (i + 1) n wc2 wr2 (by omega) (by omega) h2)
    refine pk_eq (K (6 * k + i)) 7 (fun c7 => ?_) (fun n7 => ?_)
    · refine xw_emit hx (by omega) hq (fun wc' wr' h' => ?_)
      dsimp only
      refine h97 (cw_em (cw_ch q K (6 * k) w i) q) wc' wr' ?_ ?_ h'
      · rw [cw_em1]
        omega
      · rw [es, if_pos c7]
    · refine h97 (cw_ch q K (6 * k) w i) wc wr (by omega) ?_ hx
      rw [es, if_neg n7]
theorem xw_field {post : SX → Prop} {r f : Nat} {w : cd_O} (hd : d < 8) (hr : r < 6) (hk : 5 * r + f < 30) (hc : x_fieldCounts r = nI (C r)) (hc5 : C r ≤ 5) (hf : cd_fd Z K x_fieldSizes x_characters (5 * r + f)) (hw : w.1 + 14 ≤ 456)
    (hx : cd_tx 456 10 w.1 w.2 x_writingCount x_writing)
    (H : ∀ (wc : Int32) (wr : Nat → Int32), cd_tx 456 10 (cw_f d C Z K r f w).1 (cw_f d C Z K r f w).2 wc wr → post (x_draftSize, x_recordCount, x_rawCount, wc, x_scanState, x_scanSound, x_scanRecords, x_scanFields, x_scanSize, x_scanMostFields, x_scanLongest, x_scanUneven, x_draftCharacters, x_fieldCounts, x_fieldSizes, x_characters, x_rawCharacters, wr)) :
    wpX_composeField post (x_draftSize, x_recordCount, x_rawCount, x_writingCount, x_scanState, x_scanSound, x_scanRecords, x_scanFields, x_scanSize, x_scanMostFields, x_scanLongest, x_scanUneven, x_draftCharacters, x_fieldCounts, x_fieldSizes, x_characters, x_rawCharacters, x_writing) (nI d) (nI r) (nI f) := by
  have hsp := cd_spr d
  have ek : (nI (5 * r + f)).toNatClampNeg = 5 * r + f := nI_clamp (by omega)
  have h30 : wX_composeField_30 post (nI d) (nI r) (nI f) (nI (5 * r + f)) (nI (Z (5 * r + f))) (nI (cw_bq d)) x_draftSize x_recordCount x_rawCount x_writingCount x_scanState x_scanSound x_scanRecords x_scanFields x_scanSize x_scanMostFields x_scanLongest x_scanUneven x_draftCharacters x_fieldCounts x_fieldSizes x_characters x_rawCharacters x_writing := by
    have hbq : cw_bq d ≤ 10 := by unfold cw_bq; split <;> omega
    unfold wX_composeField_30
    refine xs_sp hd ?_
    unfold wpX_needsQuotes
    dsimp only
    refine nm_r (ar_5 r f) ⟨Z (5 * r + f) + 1, xw_nq (by omega) hr hk hc hc5 hf ?_ (Z (5 * r + f)) 0 (Z (5 * r + f) + 1) (by omega) (by omega) rfl⟩
    unfold cw_f at H
    cases hq : cw_q (cd_sp d) C Z K r f with
    | false =>
      rw [hq] at H
      exact br_t rfl ⟨Z (5 * r + f) + 1, xw_ch (qt := false) (w := w) hbq hk hf (by omega) H (Z (5 * r + f)) 0 (Z (5 * r + f) + 1) _ _ (by omega) (by omega) hx⟩
    | true =>
      rw [hq] at H
      refine br_f (by decide) (xw_emit (c := 7) hx (by omega) (by omega) (fun wc wr h' => ?_))
      dsimp only
      exact ⟨Z (5 * r + f) + 1, xw_ch (qt := true) (w := cw_em w 7) hbq hk hf (by rw [cw_em1]; omega) H (Z (5 * r + f)) 0 (Z (5 * r + f) + 1) _ _ (by omega) (by omega) h'⟩
  unfold wpX_composeField
  dsimp only
  refine nm_r (ar_5 r f) ⟨pk_in (5 * r + f) 30 hk, nm_r (e' := nI (Z (5 * r + f))) (by rw [ek, hf.2.1]) ?_⟩
  unfold cw_bq at h30
  refine xs_es hd (fun e => br_t rfl ?_) (fun e => br_f (by decide) ?_)
  · rw [e] at h30
    exact h30
  · rw [e] at h30
    exact h30
theorem xw_rec {post : SX → Prop} {r : Nat} {w : cd_O} (hd : d < 8) (hr : r < 6) (hc : x_fieldCounts r = nI (C r)) (hc5 : C r ≤ 5) (hf : ∀ f, f < C r → cd_fd Z K x_fieldSizes x_characters (5 * r + f)) (hw : w.1 + 76 ≤ 456)
    (H : ∀ (wc : Int32) (wr : Nat → Int32), cd_tx 456 10 (cw_e d (cw_r d C Z K r w (C r))).1 (cw_e d (cw_r d C Z K r w (C r))).2 wc wr → post (x_draftSize, x_recordCount, x_rawCount, wc, x_scanState, x_scanSound, x_scanRecords, x_scanFields, x_scanSize, x_scanMostFields, x_scanLongest, x_scanUneven, x_draftCharacters, x_fieldCounts, x_fieldSizes, x_characters, x_rawCharacters, wr)) :
    ∀ (e f n : Nat) (wc : Int32) (wr : Nat → Int32), f + e = C r → e < n → cd_tx 456 10 (cw_r d C Z K r w f).1 (cw_r d C Z K r w f).2 wc wr →
      wX_composeRecord_16 post (nI d) (nI r) (nI (cd_sp d)) (nI (C r)) n (nI f) x_draftSize x_recordCount x_rawCount wc x_scanState x_scanSound x_scanRecords x_scanFields x_scanSize x_scanMostFields x_scanLongest x_scanUneven x_draftCharacters x_fieldCounts x_fieldSizes x_characters x_rawCharacters wr := by
  have hsp := cd_spr d
  intro e
  induction e with
  | zero =>
    intro f n wc wr hi hn hx
    obtain ⟨n, rfl⟩ : ∃ m, n = m + 1 := ⟨n - 1, by omega⟩
    have ef : f = C r := by omega
    have hb := cw_rb (d := d) (C := C) (Z := Z) (K := K) (r := r) w f (fun g hg => (hf g (by omega)).1)
    rw [ef] at hx hb
    rw [wX_composeRecord_16]
    refine pk_le (C r) f (fun _ => ?_) (fun z => absurd z (by omega))
    unfold cw_e at H
    have h60 : ∀ (w' : cd_O) (wc' : Int32) (wr' : Nat → Int32), w'.1 < 456 → w' = cw_o (cd_cr d) (cw_r d C Z K r w (C r)) 8 → cd_tx 456 10 w'.1 w'.2 wc' wr' → wX_composeRecord_60 post x_draftSize x_recordCount x_rawCount wc' x_scanState x_scanSound x_scanRecords x_scanFields x_scanSize x_scanMostFields x_scanLongest x_scanUneven x_draftCharacters x_fieldCounts x_fieldSizes x_characters x_rawCharacters wr' := by
      intro w' wc' wr' hw' ee hx'
      refine xw_emit (c := 9) hx' hw' (by omega) (fun wc2 wr2 h2 => ?_)
      dsimp only
      rw [ee] at h2
      exact H wc2 wr2 h2
    refine xs_cr hd (fun hcr => br_f (by decide) (xw_emit (c := 8) hx (by omega) (by omega) (fun wc' wr' h' => ?_))) (fun hcr => br_t rfl ?_)
    · dsimp only
      exact h60 (cw_em (cw_r d C Z K r w (C r)) 8) wc' wr' (by rw [cw_em1]; omega) (by rw [hcr]; rfl) h'
    · exact h60 (cw_r d C Z K r w (C r)) wc wr (by omega) (by rw [hcr]; rfl) hx
  | succ e ih =>
    intro f n wc wr hi hn hx
    obtain ⟨n, rfl⟩ : ∃ m, n = m + 1 := ⟨n - 1, by omega⟩
    have hb := cw_rb (d := d) (C := C) (Z := Z) (K := K) (r := r) w f (fun g hg => (hf g (by omega)).1)
    have es : cw_r d C Z K r w (f + 1) = cw_f d C Z K r f (if f = 0 then cw_r d C Z K r w f else cw_em (cw_r d C Z K r w f) (cd_sp d)) := rfl
    rw [wX_composeRecord_16]
    refine pk_le (C r) f (fun z => absurd z (by omega)) (fun _ => ?_)
    have h33 : ∀ (w' : cd_O) (wc' : Int32) (wr' : Nat → Int32), w'.1 + 14 ≤ 456 → cw_f d C Z K r f w' = cw_r d C Z K r w (f + 1) → cd_tx 456 10 w'.1 w'.2 wc' wr' →
        wX_composeRecord_33 post (wX_composeRecord_16 post (nI d) (nI r) (nI (cd_sp d)) (nI (C r)) n) (nI d) (nI r) (nI (cd_sp d)) (nI (C r)) (nI f) x_draftSize x_recordCount x_rawCount wc' x_scanState x_scanSound x_scanRecords x_scanFields x_scanSize x_scanMostFields x_scanLongest x_scanUneven x_draftCharacters x_fieldCounts x_fieldSizes x_characters x_rawCharacters wr' := by
      intro w' wc' wr' hw' ee hx'
      refine xw_field (w := w') hd hr (by omega) hc hc5 (hf f (by omega)) hw' hx' (fun wc2 wr2 h2 => ?_)
      dsimp only
      rw [ee] at h2
      exact nm_r (nI_1 f) (ih (f + 1) n wc2 wr2 (by omega) (by omega) h2)
    refine pk_le f 0 (fun f0 => ?_) (fun f0 => ?_)
    · exact h33 (cw_r d C Z K r w f) wc wr (by omega) (by rw [es, if_pos (by omega)]) hx
    · refine xw_emit hx (by omega) (by omega) (fun wc' wr' h' => ?_)
      dsimp only
      exact h33 (cw_em (cw_r d C Z K r w f) (cd_sp d)) wc' wr' (by rw [cw_em1]; omega) (by rw [es, if_neg (by omega)]) h'
theorem xw_all {post : SX → Prop} (hd : d < 8) (hr : rn ≤ 6) (ht : cd_tb rn C Z K x_fieldCounts x_fieldSizes x_characters)
    (H : ∀ (wc : Int32) (wr : Nat → Int32), cd_tx 456 10 (cw_a d C Z K rn).1 (cw_a d C Z K rn).2 wc wr → post (x_draftSize, nI rn, x_rawCount, wc, x_scanState, x_scanSound, x_scanRecords, x_scanFields, x_scanSize, x_scanMostFields, x_scanLongest, x_scanUneven, x_draftCharacters, x_fieldCounts, x_fieldSizes, x_characters, x_rawCharacters, wr)) :
    ∀ (e r n : Nat) (wc : Int32) (wr : Nat → Int32), r + e = rn → e < n → cd_tx 456 10 (cw_a d C Z K r).1 (cw_a d C Z K r).2 wc wr →
      wX_compose_7 post (nI d) n (nI r) x_draftSize (nI rn) x_rawCount wc x_scanState x_scanSound x_scanRecords x_scanFields x_scanSize x_scanMostFields x_scanLongest x_scanUneven x_draftCharacters x_fieldCounts x_fieldSizes x_characters x_rawCharacters wr := by
  intro e
  induction e with
  | zero =>
    intro r n wc wr hi hn hx
    obtain ⟨n, rfl⟩ : ∃ m, n = m + 1 := ⟨n - 1, by omega⟩
    have ef : r = rn := by omega
    rw [ef] at hx
    rw [wX_compose_7]
    exact pk_le rn r (fun _ => H wc wr hx) (fun z => absurd z (by omega))
  | succ e ih =>
    intro r n wc wr hi hn hx
    obtain ⟨n, rfl⟩ : ∃ m, n = m + 1 := ⟨n - 1, by omega⟩
    obtain ⟨t1, t2, t3, t4⟩ := ht r (by omega)
    have hb := cw_ab (d := d) ht r (by omega)
    have er : (nI r).toNatClampNeg = r := nI_clamp (by omega)
    rw [wX_compose_7]
    refine pk_le rn r (fun z => absurd z (by omega)) (fun _ => ?_)
    unfold wpX_composeRecord
    dsimp only
    refine xs_sp hd ⟨pk_in r 6 (by omega), nm_r (e' := nI (C r)) (by rw [er, t3]) ⟨C r + 1, xw_rec (w := cw_a d C Z K r) hd (by omega) t3 t2 t4 (by omega) (fun wc' wr' h' => ?_) (C r) 0 (C r + 1) wc wr (by omega) (by omega) hx⟩⟩
    exact nm_r (nI_1 r) (ih (r + 1) n wc' wr' (by omega) (by omega) h')
theorem xw_compose {post : SX → Prop} (hd : d < 8) (hr : x_recordCount = nI rn) (hr6 : rn ≤ 6) (ht : cd_tb rn C Z K x_fieldCounts x_fieldSizes x_characters)
    (H : ∀ (wc : Int32) (wr : Nat → Int32), cd_tx 456 10 (cw_a d C Z K rn).1 (cw_a d C Z K rn).2 wc wr → post (x_draftSize, nI rn, x_rawCount, wc, x_scanState, x_scanSound, x_scanRecords, x_scanFields, x_scanSize, x_scanMostFields, x_scanLongest, x_scanUneven, x_draftCharacters, x_fieldCounts, x_fieldSizes, x_characters, x_rawCharacters, wr)) :
    wpX_compose post (x_draftSize, x_recordCount, x_rawCount, x_writingCount, x_scanState, x_scanSound, x_scanRecords, x_scanFields, x_scanSize, x_scanMostFields, x_scanLongest, x_scanUneven, x_draftCharacters, x_fieldCounts, x_fieldSizes, x_characters, x_rawCharacters, x_writing) (nI d) := by
  subst hr
  exact ⟨rn + 1, xw_all hd hr6 ht H rn 0 (rn + 1) _ _ (by omega) (by omega) cd_tx0⟩
theorem xw_copy {post : Int32 → SX → Prop} {m : Nat} {W : Nat → Nat} (hm : m ≤ 96) (hW : ∀ i, i < m → W i ≤ 10 ∧ x_writing i = nI (W i))
    (H : ∀ rw' : Nat → Int32, cd_tx 96 10 m W (nI m) rw' → post (nI m) (x_draftSize, x_recordCount, nI m, nI m, x_scanState, x_scanSound, x_scanRecords, x_scanFields, x_scanSize, x_scanMostFields, x_scanLongest, x_scanUneven, x_draftCharacters, x_fieldCounts, x_fieldSizes, x_characters, rw', x_writing)) :
    ∀ (e i n : Nat) (rw' : Nat → Int32), i + e = m → e < n → (∀ j, j < i → rw' j = nI (W j)) →
      wX_write_28 post x_draftSize x_recordCount x_rawCount (nI m) x_scanState x_scanSound x_scanRecords x_scanFields x_scanSize x_scanMostFields x_scanLongest x_scanUneven n (nI i) x_draftCharacters x_fieldCounts x_fieldSizes x_characters rw' x_writing := by
  intro e
  induction e with
  | zero =>
    intro i n rw' hi hn hx
    obtain ⟨n, rfl⟩ : ∃ m, n = m + 1 := ⟨n - 1, by omega⟩
    rw [wX_write_28]
    exact pk_le m i (fun _ => H rw' ⟨hm, rfl, fun j hj => ⟨(hW j hj).1, hx j (by omega)⟩⟩) (fun z => absurd z (by omega))
  | succ e ih =>
    intro i n rw' hi hn hx
    obtain ⟨n, rfl⟩ : ∃ m, n = m + 1 := ⟨n - 1, by omega⟩
    rw [wX_write_28]
    refine pk_le m i (fun z => absurd z (by omega)) (fun _ => ⟨pk_in i 456 (by omega), pk_in i 96 (by omega), nm_r (e' := upd rw' i (nI (W i))) (by rw [nI_clamp (by omega), (hW i (by omega)).2]) (nm_r (nI_1 i) (ih (i + 1) n _ (by omega) (by omega) (fun j hj => ?_)))⟩)
    by_cases e : j = i
    · rw [e, pk_us]
    · rw [pk_un e]
      exact hx j (by omega)
end
