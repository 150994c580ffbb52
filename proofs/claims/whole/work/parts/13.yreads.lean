/-! the reference's reading: records, and the whole text -/
theorem cd_nxt {d c : Nat} (h : cd_cr d = true) (hs : c ≠ cd_sp d) : cd_nx d c = (if c = 8 then 6 else 7) := by
  unfold cd_nx
  rw [if_neg hs]
  by_cases c8 : c = 8
  · rw [if_pos c8, if_pos c8, if_pos h]
  · rw [if_neg c8, if_neg c8]
    by_cases c9 : c = 9
    · rw [if_pos c9, if_pos h]
    · rw [if_neg c9]
theorem cd_nxf {d c : Nat} (h : cd_cr d = false) (hs : c ≠ cd_sp d) : cd_nx d c = (if c = 9 then 0 else 7) := by
  have h' : ¬ cd_cr d = true := by rw [h]; decide
  unfold cd_nx
  rw [if_neg hs]
  by_cases c8 : c = 8
  · rw [if_pos c8, if_neg h', if_neg (by omega)]
  · rw [if_neg c8]
    by_cases c9 : c = 9
    · rw [if_pos c9, if_pos c9, if_neg h']
    · rw [if_neg c9, if_neg c9]
theorem cd_e00 (d : Nat) (R : Nat → Nat) : cd_e d R 0 = (cd_t d R 0, 0, 0, false) := rfl
section
variable {y_records y_drafted y_length y_readRecords y_readFields y_readSize y_readFirst y_readOver y_readEven y_pos y_end y_dialect y_out : Int32} {y_chars y_sizes y_counts y_draft y_raw y_readChars y_readSizes y_readCounts : Nat → Int32}
variable {n d : Nat} {R : Nat → Nat}
theorem yr_end {post : Int32 → SY → Prop} {m g q f : Nat} (hd : d < 8) (hn : n ≤ 98) (hR : ∀ i, i < n → R i ≤ 10 ∧ y_raw i = nI (R i)) (hA : cy_A d R n q) (hns : q < n → R q ≠ cd_sp d) (hm : m < 1000) (hg : g < 1000)
    (hJ : cy_J (cd_v d R q) m g y_readOver y_readCounts y_readSizes y_readChars) (hE : cy_E m (cd_v d R q).2.2.1 (cd_v d R q).2.2.2 y_readEven y_readFirst)
    (H : ∀ (p : Nat) (ev fi : Int32) (rC : Nat → Int32), q ≤ p → (q < p ∨ p = n) → p ≤ n → (cd_S d R p = 0 ∨ (p = n ∧ cd_ok (cd_S d R n))) → cy_B (cd_e d R p) (m + 1) y_readOver rC y_readSizes y_readChars → cy_E (m + 1) (cd_e d R p).2.2.1 (cd_e d R p).2.2.2 ev fi →
      post 1 (y_records, y_drafted, y_length, nI (m + 1), nI (g + 1), y_readSize, fi, y_readOver, ev, nI p, nI n, nI d, y_out, y_chars, y_sizes, y_counts, y_draft, y_raw, y_readChars, y_readSizes, rC))
    (H0 : ¬ cd_ok (cd_S d R n) → ∀ (p ev fi : Int32) (rC : Nat → Int32), post 0 (y_records, y_drafted, y_length, nI (m + 1), nI (g + 1), y_readSize, fi, y_readOver, ev, p, nI n, nI d, y_out, y_chars, y_sizes, y_counts, y_draft, y_raw, y_readChars, y_readSizes, rC)) :
    wY_readRecord_7 post (f + 1) 0 y_records y_drafted y_length (nI m) (nI (g + 1)) y_readSize y_readFirst y_readOver y_readEven (nI q) (nI n) (nI d) y_out y_chars y_sizes y_counts y_draft y_raw y_readChars y_readSizes y_readCounts := by
  obtain ⟨hqn, hok, hnx, h0⟩ := hA
  have h155 : ∀ (ev fi : Int32) (rC : Nat → Int32), cy_B (cd_cw (cd_v d R q)) (m + 1) y_readOver rC y_readSizes y_readChars → cy_E (m + 1) (cd_cw (cd_v d R q)).2.2.1 (cd_cw (cd_v d R q)).2.2.2 ev fi →
      wY_readRecord_155 post y_records y_drafted y_length (nI m) (nI (g + 1)) y_readSize fi y_readOver ev (nI q) (nI n) (nI d) y_out y_chars y_sizes y_counts y_draft y_raw y_readChars y_readSizes rC := by
    intro ev fi rC hB hE'
    refine nm_r (nI_1 m) (pk_eq q n (fun e => ?_) (fun ne => ?_))
    · have s0 : cd_S d R q ≠ 0 := fun z => absurd (h0 z) (by omega)
      exact H q ev fi rC (Nat.le_refl q) (Or.inr e) hqn (Or.inr ⟨e, by rw [← e]; exact hok⟩) (by rw [cd_en s0]; exact hB) (by rw [cd_en s0]; exact hE')
    · have hlt : q < n := by omega
      obtain ⟨r10, rq⟩ := hR q hlt
      have hx := hnx hlt
      have hdead : cd_S d R (q + 1) = 7 → ¬ cd_ok (cd_S d R n) := by
        intro s7 z
        rw [cd_S7 s7 hlt] at z
        exact absurd z (by decide)
      rcases cd_a2 d hd with ⟨a, hc⟩ | ⟨a, hc⟩
      · rw [cd_nxt hc (hns hlt)] at hx
        have h244 : ¬ cd_ok (cd_S d R n) → wY_readRecord_267 post 1 0 y_records y_drafted y_length (nI (m + 1)) (nI (g + 1)) y_readSize fi y_readOver ev (nI q) (nI n) (nI d) y_out y_chars y_sizes y_counts y_draft y_raw y_readChars y_readSizes rC :=
          fun z => br_f (by decide) (nm_e ⟨rfl, H0 z _ _ _ _⟩)
        refine br_t a (br_f (by decide) ⟨pk_in q 98 (by omega), ?_⟩)
        rw [nI_clamp (by omega), rq]
        refine pk_eq (R q) 8 (fun c8 => ?_) (fun n8 => h244 (hdead ?_))
        · rw [if_pos c8] at hx
          rw [nI_1 q]
          refine pk_le n (q + 1) (fun z => h244 (fun x => ?_)) (fun hl2 => ⟨pk_in (q + 1) 98 (by omega), ?_⟩)
          · have en : q + 1 = n := by omega
            rw [← en, hx] at x
            exact absurd x (by decide)
          · obtain ⟨r10', rq'⟩ := hR (q + 1) hl2
            rw [nI_clamp (by omega), rq']
            refine pk_eq (R (q + 1)) 9 (fun c9 => ?_) (fun n9 => h244 (fun x => ?_))
            · have s0 : cd_S d R (q + 1 + 1) = 0 := by rw [cd_Ss, hx, c9]; exact cd_s6n
              have ev1 : cd_v d R (q + 1) = cd_v d R q := cd_vn (by rw [hx]; decide) (by rw [hx]; decide) (by rw [hx]; exact cd_ct6 _)
              have ee : cd_e d R (q + 1 + 1) = cd_cw (cd_v d R q) := by rw [cd_ve s0, ev1]
              refine br_f (by decide) (nm_r (cl_p2 q) ⟨rfl, ?_⟩)
              exact H (q + 1 + 1) ev fi rC (by omega) (Or.inl (by omega)) (by omega) (Or.inl s0) (by rw [ee]; exact hB) (by rw [ee]; exact hE')
            · have s7 : cd_S d R (q + 1 + 1) = 7 := by rw [cd_Ss, hx]; exact cd_s6o n9
              rw [cd_S7 s7 hl2] at x
              exact absurd x (by decide)
        · rw [if_neg n8] at hx
          exact hx
      · rw [cd_nxf hc (hns hlt)] at hx
        refine br_f a (br_t rfl ⟨pk_in q 98 (by omega), ?_⟩)
        rw [nI_clamp (by omega), rq]
        refine pk_eq (R q) 9 (fun c9 => br_t rfl (nm_r (nI_1 q) ⟨rfl, ?_⟩)) (fun n9 => br_t rfl (nm_e ⟨rfl, H0 (hdead ?_) _ _ _ _⟩))
        · rw [if_pos c9] at hx
          have ee : cd_e d R (q + 1) = cd_cw (cd_v d R q) := cd_ve hx
          exact H (q + 1) ev fi rC (by omega) (Or.inl (by omega)) (by omega) (Or.inl hx) (by rw [ee]; exact hB) (by rw [ee]; exact hE')
        · rw [if_neg n9] at hx
          exact hx
  have h130 : ∀ (ev fi : Int32), cy_E (m + 1) (cd_cw (cd_v d R q)).2.2.1 (cd_cw (cd_v d R q)).2.2.2 ev fi →
      wY_readRecord_130 post fi y_records y_drafted y_length (nI m) (nI (g + 1)) y_readSize y_readFirst y_readOver ev (nI q) (nI n) (nI d) y_out y_chars y_sizes y_counts y_draft y_raw y_readChars y_readSizes y_readCounts := by
    intro ev fi hE'
    exact pk_le 6 m (fun z => h155 ev fi _ (cy_JBo hJ z) hE') (fun z => ⟨pk_in m 6 z, nm_r (e' := upd y_readCounts m (nI (g + 1))) (by rw [nI_clamp (by omega)]) (h155 ev fi _ (cy_JBi hJ) hE')⟩)
  have e1 : (cd_v d R q).1.1 = m + 1 := hJ.1
  have e2 := (cy_pl hJ.1 hJ.2.1).2.1
  have k1 : (cd_cw (cd_v d R q)).2.2.1 = cd_mx (cd_v d R q).2.2.1 (g + 1) := by
    show cd_mx (cd_v d R q).2.2.1 (cd_f (cd_v d R q).1) = _
    rw [e2]
  have k2 : (cd_cw (cd_v d R q)).2.2.2 = ((cd_v d R q).2.2.2 || (decide (1 < m + 1) && !decide (g + 1 = (cd_v d R q).2.2.1))) := by
    show ((cd_v d R q).2.2.2 || (decide (1 < (cd_v d R q).1.1) && !decide (cd_f (cd_v d R q).1 = (cd_v d R q).2.2.1))) = _
    rw [e1, e2]
  have bm : (cd_v d R q).2.2.1 < 2 ^ 31 := by
    have := cd_mcb d R q
    show cd_mc d R q < 2 ^ 31
    omega
  have h108 : ∀ b : Bool, ((b = true ∧ ¬ y_readEven = 0 ∧ (m = 0 ∨ nI (g + 1) = y_readFirst)) ∨ (b = false ∧ (y_readEven = 0 ∨ (m ≠ 0 ∧ ¬ nI (g + 1) = y_readFirst)))) →
      wY_readRecord_108 post (cd_b b) y_records y_drafted y_length (nI m) (nI (g + 1)) y_readSize y_readFirst y_readOver y_readEven (nI q) (nI n) (nI d) y_out y_chars y_sizes y_counts y_draft y_raw y_readChars y_readSizes y_readCounts := by
    intro b hb
    have hb' : (cd_b b = 1 ∧ ¬ y_readEven = 0 ∧ (m = 0 ∨ nI (g + 1) = y_readFirst)) ∨ (cd_b b = 0 ∧ (y_readEven = 0 ∨ (m ≠ 0 ∧ ¬ nI (g + 1) = y_readFirst))) := by
      rcases hb with ⟨rfl, z⟩ | ⟨rfl, z⟩
      · exact Or.inl ⟨rfl, z⟩
      · exact Or.inr ⟨rfl, z⟩
    refine ⟨by cases b <;> rfl, by cases b <;> rfl, pk_eq m 0 (fun z => h130 _ _ ?_) (fun z => h130 _ _ ?_)⟩
    · rw [k1, k2]
      exact cy_Es hE bm (by omega) hb' (Or.inl ⟨z, rfl⟩)
    · rw [k1, k2]
      exact cy_Es hE bm (by omega) hb' (Or.inr ⟨z, rfl⟩)
  rw [wY_readRecord_7]
  refine br_t rfl (br_c (fun z => h108 false (Or.inr ⟨rfl, Or.inl z⟩)) (fun z => pk_eq m 0 (fun m0 => h108 true (Or.inl ⟨rfl, z, Or.inl m0⟩)) (fun m0 => br_c (fun zf => h108 true (Or.inl ⟨rfl, z, Or.inr zf⟩)) (fun zf => h108 false (Or.inr ⟨rfl, Or.inr ⟨m0, zf⟩⟩)))))
theorem yr_rloop {post : Int32 → SY → Prop} {m q0 : Nat} (hd : d < 8) (hn : n ≤ 98) (hR : ∀ i, i < n → R i ≤ 10 ∧ y_raw i = nI (R i)) (hq0 : q0 < n)
    (H : ∀ (p : Nat) (rf rs ov ev fi : Int32) (rC rS rK : Nat → Int32), q0 < p → p ≤ n → (cd_S d R p = 0 ∨ (p = n ∧ cd_ok (cd_S d R n))) → cy_B (cd_e d R p) (m + 1) ov rC rS rK → cy_E (m + 1) (cd_e d R p).2.2.1 (cd_e d R p).2.2.2 ev fi →
      post 1 (y_records, y_drafted, y_length, nI (m + 1), rf, rs, fi, ov, ev, nI p, nI n, nI d, y_out, y_chars, y_sizes, y_counts, y_draft, y_raw, rK, rS, rC))
    (H0 : ¬ cd_ok (cd_S d R n) → ∀ (rr rf rs ov ev fi p : Int32) (rC rS rK : Nat → Int32), post 0 (y_records, y_drafted, y_length, rr, rf, rs, fi, ov, ev, p, nI n, nI d, y_out, y_chars, y_sizes, y_counts, y_draft, y_raw, rK, rS, rC)) :
    ∀ (f q g : Nat) (rs ov : Int32) (rS rK : Nat → Int32), n - q + 1 < f → q ≤ n → q0 ≤ q → (cd_S d R q = 0 ∨ cd_S d R q = 1) → (cd_S d R q = 0 → q < n) →
      cy_I (cd_v d R q) m g ov y_readCounts rS rK → cd_z (cd_v d R q).1 = 0 → cy_E m (cd_v d R q).2.2.1 (cd_v d R q).2.2.2 y_readEven y_readFirst →
      wY_readRecord_7 post f 1 y_records y_drafted y_length (nI m) (nI g) rs y_readFirst ov y_readEven (nI q) (nI n) (nI d) y_out y_chars y_sizes y_counts y_draft y_raw rK rS y_readCounts := by
  intro f
  induction f with
  | zero =>
    intro q g rs ov rS rK hf
    exact absurd hf (Nat.not_lt_zero _)
  | succ f ih =>
    intro q g rs ov rS rK hf hqn h0q hs h0 hI hz hE
    obtain ⟨f', rfl⟩ : ∃ k, f = k + 1 := ⟨f - 1, by omega⟩
    obtain ⟨b1, b2, b3⟩ := cy_vb hI (by omega)
    rw [wY_readRecord_7]
    refine br_f (by decide) ?_
    refine yr_field hd hn hR hqn hs h0 hI hz (fun p rs' ov' rS' rK' hp hA hJ hw => ?_) (fun hno p rs' ov' rS' rK' => br_t rfl (H0 hno _ _ _ _ _ _ _ _ _ _))
    dsimp only
    have hpn := hA.1
    have hE' : cy_E m (cd_v d R p).2.2.1 (cd_v d R p).2.2.2 y_readEven y_readFirst := by rw [hw]; exact hE
    have hend : (p < n → R p ≠ cd_sp d) → wY_readRecord_7 post (f' + 1) 0 y_records y_drafted y_length (nI m) (nI (g + 1)) rs' y_readFirst ov' y_readEven (nI p) (nI n) (nI d) y_out y_chars y_sizes y_counts y_draft y_raw rK' rS' y_readCounts := by
      intro hns
      refine yr_end hd hn hR hA hns b1 b2 hJ hE' (fun p' ev fi rC h1 h2 h3 h4 h5 h6 => H p' _ _ _ ev fi rC rS' rK' ?_ h3 h4 h5 h6) (fun hno p' ev fi rC => H0 hno _ _ _ _ ev fi p' rC rS' rK')
      omega
    refine br_f (by decide) (pk_le n p (fun z => br_t rfl (hend (fun x => absurd x (by omega)))) (fun hlt => ⟨pk_in p 98 (by omega), yr_sp hd ?_⟩))
    obtain ⟨r10, rp⟩ := hR p hlt
    have hsp := cd_spr d
    rw [nI_clamp (by omega), rp]
    refine pk_eq (R p) (cd_sp d) (fun es => br_f (by decide) (nm_r (nI_1 p) ?_)) (fun ns => br_t rfl (hend (fun _ => ns)))
    have s1 : cd_S d R (p + 1) = 1 := by
      rw [hA.2.2.1 hlt]
      unfold cd_nx
      rw [if_pos es]
    have ev := cd_vf s1
    have ev' : cd_v d R (p + 1) = (cd_oF (cd_v d R p).1, (cd_v d R p).2.1, (cd_v d R p).2.2.1, (cd_v d R p).2.2.2) := ev
    refine ih (p + 1) (g + 1) rs' ov' rS' rK' (by omega) (by omega) (by omega) (Or.inr s1) (fun z => by omega) ?_ ?_ ?_
    · rw [ev']
      exact cy_JI hJ
    · rw [ev']
      exact cd_oFz _
    · rw [ev']
      exact hE'
theorem yr_loop {post : Int32 → SY → Prop} (hd : d < 8) (hn : n ≤ 98) (hR : ∀ i, i < n → R i ≤ 10 ∧ y_raw i = nI (R i))
    (H : cd_ok (cd_S d R n) → ∀ (rf rs ov ev fi p : Int32) (rC rS rK : Nat → Int32), cy_B (cd_e d R n) (cd_e d R n).1.1 ov rC rS rK → cy_E (cd_e d R n).1.1 (cd_e d R n).2.2.1 (cd_e d R n).2.2.2 ev fi →
      post 1 (y_records, y_drafted, y_length, nI (cd_e d R n).1.1, rf, rs, fi, ov, ev, p, nI n, nI d, y_out, y_chars, y_sizes, y_counts, y_draft, y_raw, rK, rS, rC))
    (H0 : ¬ cd_ok (cd_S d R n) → ∀ (rr rf rs ov ev fi p : Int32) (rC rS rK : Nat → Int32), post 0 (y_records, y_drafted, y_length, rr, rf, rs, fi, ov, ev, p, nI n, nI d, y_out, y_chars, y_sizes, y_counts, y_draft, y_raw, rK, rS, rC)) :
    ∀ (f p m : Nat) (rf rs ov ev fi : Int32) (rC rS rK : Nat → Int32), n - p < f → p ≤ n → (cd_S d R p = 0 ∨ (p = n ∧ cd_ok (cd_S d R n))) → cy_B (cd_e d R p) m ov rC rS rK → cy_E m (cd_e d R p).2.2.1 (cd_e d R p).2.2.2 ev fi →
      wY_reads_35 post f y_records y_drafted y_length (nI m) rf rs fi ov ev (nI p) (nI n) (nI d) y_out y_chars y_sizes y_counts y_draft y_raw rK rS rC := by
  intro f
  induction f with
  | zero =>
    intro p m rf rs ov ev fi rC rS rK hf
    exact absurd hf (Nat.not_lt_zero _)
  | succ f ih =>
    intro p m rf rs ov ev fi rC rS rK hf hpn hs hB hE
    rw [wY_reads_35]
    refine pk_le n p (fun z => ?_) (fun hlt => ?_)
    · have ep : p = n := by omega
      subst ep
      have em : (cd_e d R p).1.1 = m := hB.1
      have hok : cd_ok (cd_S d R p) := by
        rcases hs with z | z
        · exact Or.inl z
        · exact z.2
      have w := H hok rf rs ov ev fi (nI p) rC rS rK (by rw [em]; exact hB) (by rw [em]; exact hE)
      rw [em] at w
      exact w
    · have s0 : cd_S d R p = 0 := by
        rcases hs with z | z
        · exact z
        · exact absurd z.1 (by omega)
      have ev0 := cd_v0 s0
      refine ⟨n - p + 2, ?_⟩
      refine yr_rloop (q0 := p) hd hn hR hlt (fun p' rf' rs' ov' ev' fi' rC' rS' rK' h1 h2 h3 h4 h5 => br_f (by decide) (ih p' (m + 1) rf' rs' ov' ev' fi' rC' rS' rK' (by omega) h2 h3 h4 h5)) (fun hno rr' rf' rs' ov' ev' fi' p' rC' rS' rK' => br_t rfl (H0 hno rr' rf' rs' ov' ev' fi' p' rC' rS' rK')) (n - p + 2) p 0 rs ov rS rK (by omega) hpn (Nat.le_refl p) (Or.inl s0) (fun _ => hlt) ?_ ?_ ?_
      · rw [ev0]
        exact cy_BI hB
      · rw [ev0]
        exact cd_oRz _
      · rw [ev0]
        exact hE
/-- reads -/
theorem yr_reads {post : Int32 → SY → Prop} (hd : d < 8) (hn : n ≤ 98) (hR : ∀ i, i < n → R i ≤ 10 ∧ y_raw i = nI (R i))
    (H : cd_ok (cd_S d R n) → ∀ (rf rs ov ev fi p : Int32) (rC rS rK : Nat → Int32), cy_B (cd_e d R n) (cd_e d R n).1.1 ov rC rS rK → cy_E (cd_e d R n).1.1 (cd_e d R n).2.2.1 (cd_e d R n).2.2.2 ev fi →
      post 1 (y_records, y_drafted, y_length, nI (cd_e d R n).1.1, rf, rs, fi, ov, ev, p, nI n, nI d, y_out, y_chars, y_sizes, y_counts, y_draft, y_raw, rK, rS, rC))
    (H0 : ¬ cd_ok (cd_S d R n) → ∀ (rr rf rs ov ev fi p : Int32) (rC rS rK : Nat → Int32), post 0 (y_records, y_drafted, y_length, rr, rf, rs, fi, ov, ev, p, nI n, nI d, y_out, y_chars, y_sizes, y_counts, y_draft, y_raw, rK, rS, rC)) :
    wpY_reads post (y_records, y_drafted, y_length, y_readRecords, y_readFields, y_readSize, y_readFirst, y_readOver, y_readEven, y_pos, y_end, y_dialect, y_out, y_chars, y_sizes, y_counts, y_draft, y_raw, y_readChars, y_readSizes, y_readCounts) (nI d) (nI n) :=
  ⟨n + 1, yr_loop hd hn hR H H0 (n + 1) 0 0 y_readFields y_readSize 0 1 0 y_readCounts y_readSizes y_readChars (by omega) (Nat.zero_le n) (Or.inl rfl) ⟨rfl, cy_R0, false, rfl, fun z => absurd z (by decide), fun z => by rcases z with z | z | z <;> exact absurd z (Nat.not_lt_zero _)⟩ ⟨rfl, fun _ z => absurd z (by decide), fun _ => rfl⟩⟩
end
