/-! the component's fillTable -/
section
variable {x_draftSize x_recordCount x_rawCount x_writingCount x_scanState x_scanSound x_scanRecords x_scanFields x_scanSize x_scanMostFields x_scanLongest x_scanUneven : Int32} {x_draftCharacters x_fieldCounts x_fieldSizes x_characters x_rawCharacters x_writing : Nat → Int32}
variable {ln d : Nat} {R : Nat → Nat}
theorem xo_A {post : SX → Prop} {m g z c : Nat} (hm : m < 6) (hg : g < 5) (hz : z < 6) (h1 : x_fieldCounts m = nI (g + 1)) (h2 : x_fieldSizes (5 * m + g) = nI z)
    (H : post (x_draftSize, nI (m + 1), x_rawCount, x_writingCount, x_scanState, x_scanSound, x_scanRecords, x_scanFields, x_scanSize, x_scanMostFields, x_scanLongest, x_scanUneven, x_draftCharacters, x_fieldCounts, upd x_fieldSizes (5 * m + g) (nI (z + 1)), upd x_characters (6 * (5 * m + g) + z) (nI c), x_rawCharacters, x_writing)) :
    wpX_appendToLastField post (x_draftSize, nI (m + 1), x_rawCount, x_writingCount, x_scanState, x_scanSound, x_scanRecords, x_scanFields, x_scanSize, x_scanMostFields, x_scanLongest, x_scanUneven, x_draftCharacters, x_fieldCounts, x_fieldSizes, x_characters, x_rawCharacters, x_writing) (nI c) := by
  unfold wpX_appendToLastField
  dsimp only
  have em : (nI m).toNatClampNeg = m := nI_clamp (by omega)
  have ek : (nI (5 * m + g)).toNatClampNeg = 5 * m + g := nI_clamp (by omega)
  refine nm_r (nI_pred m) (br_f (nI_pos (by omega)) ⟨pk_in m 6 hm, ?_⟩)
  rw [em, h1]
  refine pk_le 1 (g + 1) (fun _ => ⟨pk_in m 6 hm, nm_r (e' := nI (5 * m + g)) (by rw [ar_5, ← Nat.add_assoc, nI_pred]) ⟨pk_in (5 * m + g) 30 (by omega), ?_⟩⟩) (fun z => absurd z (by omega))
  rw [ek, h2]
  refine pk_le 6 z (fun z => absurd z (by omega)) (fun _ => ⟨pk_in (5 * m + g) 30 (by omega), pk_in (6 * (5 * m + g) + z) 180 (by omega) (ar_6 _ _), nm_r (e' := upd x_characters (6 * (5 * m + g) + z) (nI c)) (by rw [ar_6, nI_clamp (by omega)]) ⟨pk_in (5 * m + g) 30 (by omega), pk_in (5 * m + g) 30 (by omega), nm_r (e' := upd x_fieldSizes (5 * m + g) (nI (z + 1))) (by rw [nI_1]) H⟩⟩)
theorem xt_52 {post : SX → Prop} {J : Int32 → Int32 → Int32 → Int32 → Int32 → Int32 → Int32 → Int32 → Int32 → Int32 → Int32 → Int32 → Int32 → Int32 → (Nat → Int32) → (Nat → Int32) → (Nat → Int32) → (Nat → Int32) → (Nat → Int32) → (Nat → Int32) → Prop}
    {x1 : Int32} {s s' c i m g : Nat} {t : cd_T} (h1 : t.1 = m + 1) (hg : t.2.1 m = g + 1) (hm : m < 6) (hs : s < 8) (hs' : s' < 8)
    (ht : cd_tb t.1 t.2.1 t.2.2.1 t.2.2.2 x_fieldCounts x_fieldSizes x_characters) (hA : cd_ct s s' = true → cd_z t < 6 ∧ c ≤ 9)
    (H : ∀ cn sz ch : Nat → Int32, cd_tb (if cd_ct s s' = true then cd_oA c t else t).1 (if cd_ct s s' = true then cd_oA c t else t).2.1 (if cd_ct s s' = true then cd_oA c t else t).2.2.1 (if cd_ct s s' = true then cd_oA c t else t).2.2.2 cn sz ch →
      J (nI s') (nI (i + 1)) x_draftSize (nI (m + 1)) x_rawCount x_writingCount x_scanState x_scanSound x_scanRecords x_scanFields x_scanSize x_scanMostFields x_scanLongest x_scanUneven x_draftCharacters cn sz ch x_rawCharacters x_writing) :
    wX_fillTable_52 post J x1 (nI s) (nI i) (nI c) (nI s') x_draftSize (nI (m + 1)) x_rawCount x_writingCount x_scanState x_scanSound x_scanRecords x_scanFields x_scanSize x_scanMostFields x_scanLongest x_scanUneven x_draftCharacters x_fieldCounts x_fieldSizes x_characters x_rawCharacters x_writing := by
  refine xs_ct hs hs' ?_
  cases hc : cd_ct s s' with
  | false =>
    rw [hc] at H
    exact br_t rfl (nm_r (nI_1 i) (H _ _ _ ht))
  | true =>
    rw [hc] at H
    obtain ⟨z6, c9⟩ := hA hc
    obtain ⟨e1, e2, e3⟩ := cy_pl h1 hg
    obtain ⟨o1, o2, o3, o4⟩ := cy_oA (w := (t, 0, 0, false)) (c := c) h1 hg
    obtain ⟨q1, q2, q3, q4⟩ := ht m (by omega)
    obtain ⟨p1, p2, p3⟩ := q4 g (by omega)
    rw [hg] at q3
    rw [e3] at z6
    refine br_f (by decide) (xo_A hm (by omega) z6 q3 p2 ?_)
    dsimp only
    refine nm_r (nI_1 i) (H _ _ _ ?_)
    have k := cd_tbA ht z6 c9
    rw [if_pos rfl]
    have o1' : (cd_oA c t).1 = t.1 := rfl
    have o2' : (cd_oA c t).2.1 = t.2.1 := rfl
    rw [o1', o2', o3, o4]
    exact k
theorem xt_42 {post : SX → Prop} {J : Int32 → Int32 → Int32 → Int32 → Int32 → Int32 → Int32 → Int32 → Int32 → Int32 → Int32 → Int32 → Int32 → Int32 → (Nat → Int32) → (Nat → Int32) → (Nat → Int32) → (Nat → Int32) → (Nat → Int32) → (Nat → Int32) → Prop}
    {x1 : Int32} {s s' c i m g : Nat} {t : cd_T} (h1 : t.1 = m + 1) (hg : t.2.1 m = g + 1) (hm : m < 6) (hs : s < 8) (hs' : s' < 8)
    (ht : cd_tb t.1 t.2.1 t.2.2.1 t.2.2.2 x_fieldCounts x_fieldSizes x_characters) (hF : s' = 1 → g + 1 < 5) (hA : cd_ct s s' = true → cd_z t < 6 ∧ c ≤ 9)
    (H : ∀ cn sz ch : Nat → Int32, cd_tb (cd_ts s s' c t).1 (cd_ts s s' c t).2.1 (cd_ts s s' c t).2.2.1 (cd_ts s s' c t).2.2.2 cn sz ch →
      J (nI s') (nI (i + 1)) x_draftSize (nI (m + 1)) x_rawCount x_writingCount x_scanState x_scanSound x_scanRecords x_scanFields x_scanSize x_scanMostFields x_scanLongest x_scanUneven x_draftCharacters cn sz ch x_rawCharacters x_writing) :
    wX_fillTable_42 post J x1 (nI s) (nI i) (nI c) (nI s') x_draftSize (nI (m + 1)) x_rawCount x_writingCount x_scanState x_scanSound x_scanRecords x_scanFields x_scanSize x_scanMostFields x_scanLongest x_scanUneven x_draftCharacters x_fieldCounts x_fieldSizes x_characters x_rawCharacters x_writing := by
  refine pk_eq s' 1 (fun e => ?_) (fun e => ?_)
  · obtain ⟨q1, q2, q3, q4⟩ := ht m (by omega)
    refine xo_F (C := t.2.1) hm q3 (by rw [hg]; exact hF e) ?_
    dsimp only
    have hc : cd_ct s s' = false := by rw [e]; exact cd_ct1 s
    have et : cd_ts s s' c t = cd_oF t := if_pos e
    obtain ⟨rn, C, Z, K⟩ := t
    have h1' : rn = m + 1 := h1
    subst h1'
    have hg' : C m = g + 1 := hg
    have f1 : (cd_oF (m + 1, C, Z, K)).1 = m + 1 := rfl
    refine xt_52 (t := cd_oF (m + 1, C, Z, K)) (m := m) (g := g + 1) f1 ?_ hm hs hs' ?_ (fun z => absurd z (by rw [hc]; decide)) (fun cn sz ch k => ?_)
    · show cd_up C (m + 1 - 1) (cd_f (m + 1, C, Z, K) + 1) m = g + 1 + 1
      have e2 : cd_f (m + 1, C, Z, K) = g + 1 := hg'
      rw [Nat.add_sub_cancel, cd_us, e2]
    · have hF' := hF e
      exact cd_tbF ht (by show C m < 5; rw [hg']; exact hF')
    · rw [hc, if_neg (by decide)] at k
      rw [et] at H
      exact H cn sz ch k
  · have et : cd_ts s s' c t = (if cd_ct s s' = true then cd_oA c t else t) := if_neg e
    rw [et] at H
    exact xt_52 h1 hg hm hs hs' ht hA H
theorem xt_loop {post : SX → Prop} (hd : d < 8) (hl : ln ≤ 96) (hR : ∀ i, i < ln → R i ≤ 10 ∧ x_rawCharacters i = nI (R i)) (hL : cd_lim (cd_e d R ln))
    (H : ∀ cn sz ch : Nat → Int32, cd_tb (cd_t d R ln).1 (cd_t d R ln).2.1 (cd_t d R ln).2.2.1 (cd_t d R ln).2.2.2 cn sz ch → post (x_draftSize, nI (cd_t d R ln).1, nI ln, x_writingCount, x_scanState, x_scanSound, x_scanRecords, x_scanFields, x_scanSize, x_scanMostFields, x_scanLongest, x_scanUneven, x_draftCharacters, cn, sz, ch, x_rawCharacters, x_writing)) :
    ∀ (e i n : Nat) (cn sz ch : Nat → Int32), i + e = ln → e < n → cd_tb (cd_t d R i).1 (cd_t d R i).2.1 (cd_t d R i).2.2.1 (cd_t d R i).2.2.2 cn sz ch →
      wX_fillTable_9 post (nI d) n (nI (cd_S d R i)) (nI i) x_draftSize (nI (cd_t d R i).1) (nI ln) x_writingCount x_scanState x_scanSound x_scanRecords x_scanFields x_scanSize x_scanMostFields x_scanLongest x_scanUneven x_draftCharacters cn sz ch x_rawCharacters x_writing := by
  intro e
  induction e with
  | zero =>
    intro i n cn sz ch hi hn ht
    obtain ⟨n, rfl⟩ : ∃ m, n = m + 1 := ⟨n - 1, by omega⟩
    have ei : i = ln := by omega
    subst ei
    rw [wX_fillTable_9]
    exact pk_le i i (fun _ => H cn sz ch ht) (fun z => absurd z (by omega))
  | succ e ih =>
    intro i n cn sz ch hi hn ht
    obtain ⟨n, rfl⟩ : ∃ m, n = m + 1 := ⟨n - 1, by omega⟩
    have hLi := cd_limi (d := d) (R := R) (i := i + 1) (n := ln) (by omega) hL
    obtain ⟨l1, l2, l3⟩ := cd_limx hLi
    have l6 : (cd_t d R (i + 1)).1 ≤ 6 := by
      have := hLi.1
      rw [(cd_e1 d R (i + 1)).1] at this
      exact this
    have b3 := cd_Sl d R i
    rw [wX_fillTable_9]
    refine pk_le ln i (fun z => absurd z (by omega)) (fun _ => ⟨pk_in i 96 (by omega), nm_r (e' := nI (R i)) (by rw [nI_clamp (by omega), (hR i (by omega)).2]) ?_⟩)
    refine xs_step hd b3 (hR i (by omega)).1 ?_
    rw [← cd_Ss]
    have hp := cd_t'p d R i
    obtain ⟨m, hm⟩ : ∃ m, (cd_t' d R i).1 = m + 1 := ⟨(cd_t' d R i).1 - 1, by omega⟩
    have hf0 : cd_f (cd_t' d R i) = (cd_t' d R i).2.1 m := by
      unfold cd_f
      rw [hm, Nat.add_sub_cancel]
    obtain ⟨g, hg⟩ : ∃ g, (cd_t' d R i).2.1 m = g + 1 := ⟨(cd_t' d R i).2.1 m - 1, by omega⟩
    have e1 : (cd_t d R (i + 1)).1 = m + 1 := by
      rw [cd_ts1, ← hm]
      unfold cd_ts
      split
      · rfl
      · split
        · rfl
        · rfl
    have key : ∀ cn sz : Nat → Int32, cd_tb (cd_t' d R i).1 (cd_t' d R i).2.1 (cd_t' d R i).2.2.1 (cd_t' d R i).2.2.2 cn sz ch →
        wX_fillTable_42 post (wX_fillTable_9 post (nI d) n) (nI d) (nI (cd_S d R i)) (nI i) (nI (R i)) (nI (cd_S d R (i + 1))) x_draftSize (nI (m + 1)) (nI ln) x_writingCount x_scanState x_scanSound x_scanRecords x_scanFields x_scanSize x_scanMostFields x_scanLongest x_scanUneven x_draftCharacters cn sz ch x_rawCharacters x_writing := by
      intro cn sz ht'
      refine xt_42 hm hg (by omega) b3 (cd_Sl d R (i + 1)) ht' (fun z => by have := l2 z; omega) (fun z => ⟨l3 z, ?_⟩) (fun cn' sz' ch' k => ?_)
      · rw [cd_Ss] at z
        exact cd_c9 z (hR i (by omega)).1
      · rw [← cd_ts1] at k
        have w := ih (i + 1) n cn' sz' ch' (by omega) (by omega) k
        rw [e1] at w
        exact w
    refine pk_eq (cd_S d R i) 0 (fun e0 => ?_) (fun e0 => ?_)
    · refine xo_R (l1 e0) ?_
      dsimp only
      have em : (cd_t d R i).1 + 1 = m + 1 := by
        rw [← hm, cd_t'0 e0]
        rfl
      rw [em]
      refine key _ _ ?_
      rw [cd_t'0 e0]
      exact cd_tbR ht
    · have em : (cd_t d R i).1 = m + 1 := by rw [← hm, cd_t'n e0]
      rw [em]
      refine key _ _ ?_
      rw [cd_t'n e0]
      exact ht
theorem xt_fill {post : SX → Prop} (hd : d < 8) (hr : cd_tx 96 10 ln R x_rawCount x_rawCharacters) (hL : cd_lim (cd_e d R ln))
    (H : ∀ cn sz ch : Nat → Int32, cd_tb (cd_t d R ln).1 (cd_t d R ln).2.1 (cd_t d R ln).2.2.1 (cd_t d R ln).2.2.2 cn sz ch → post (x_draftSize, nI (cd_t d R ln).1, nI ln, x_writingCount, x_scanState, x_scanSound, x_scanRecords, x_scanFields, x_scanSize, x_scanMostFields, x_scanLongest, x_scanUneven, x_draftCharacters, cn, sz, ch, x_rawCharacters, x_writing)) :
    wpX_fillTable post (x_draftSize, x_recordCount, x_rawCount, x_writingCount, x_scanState, x_scanSound, x_scanRecords, x_scanFields, x_scanSize, x_scanMostFields, x_scanLongest, x_scanUneven, x_draftCharacters, x_fieldCounts, x_fieldSizes, x_characters, x_rawCharacters, x_writing) (nI d) := by
  obtain ⟨h1, rfl, h3⟩ := hr
  exact ⟨ln + 1, xt_loop hd h1 h3 hL H ln 0 (ln + 1) _ _ _ (by omega) (by omega) cd_tb0⟩
end
