/-! the component's scan against the pure picture -/
theorem xs_p {post : Int32 → Prop} {a b : Nat} (h : post (nI a)) (e : a = b) : post (nI b) := e ▸ h
theorem xs_es {post : Int32 → Prop} {d : Nat} (hd : d < 8) (f : cd_es d = false → post 0) (g : cd_es d = true → post 1) : wpX_hasEscape post (nI d) := by
  rcases cd_a4 d hd with ⟨h, e⟩ | ⟨h, e⟩
  · exact br_t h (f e)
  · exact br_f h (g e)
theorem xs_cr {post : Int32 → Prop} {d : Nat} (hd : d < 8) (f : cd_cr d = true → post 1) (g : cd_cr d = false → post 0) : wpX_endsWithReturn post (nI d) := by
  rcases cd_a2 d hd with ⟨h, e⟩ | ⟨h, e⟩
  · exact br_t h (f e)
  · exact br_f h (g e)
theorem xs_sp {post : Int32 → Prop} {d : Nat} (hd : d < 8) (h : post (nI (cd_sp d))) : wpX_separatorOf post (nI d) := by
  rcases cd_a1 d hd with ⟨a, _, e⟩ | ⟨a, _, e⟩
  · exact br_t a (xs_p (b := 5) h e)
  · exact br_f a (xs_p (b := 6) h e)
theorem cd_so8 {d s : Nat} (h : cd_ok s) : cd_stp d s 8 = (if cd_cr d = true then 6 else 7) := by
  rcases cd_spr d with e | e <;> rcases h with rfl | rfl | rfl | rfl <;> simp [cd_stp, e]
theorem cd_so9 {d s : Nat} (h : cd_ok s) : cd_stp d s 9 = (if cd_cr d = true then 7 else 0) := by
  rcases cd_spr d with e | e <;> rcases h with rfl | rfl | rfl | rfl <;> simp [cd_stp, e]
theorem cd_so10 {d s : Nat} (h : cd_ok s) : cd_stp d s 10 = 7 := by
  rcases cd_spr d with e | e <;> rcases h with rfl | rfl | rfl | rfl <;> simp [cd_stp, e]
theorem cd_so5 {d c : Nat} (h7 : c ≠ 7) (hs : c ≠ cd_sp d) (h8 : c ≠ 8) (h9 : c ≠ 9) : cd_stp d 5 c = 7 := by
  simp [cd_stp, h7, hs, h8, h9]
theorem cd_so2 {d s c : Nat} (h : s = 0 ∨ s = 1 ∨ s = 2) (h7 : c ≠ 7) (hs : c ≠ cd_sp d) (h8 : c ≠ 8) (h9 : c ≠ 9) (h10 : c ≠ 10) : cd_stp d s c = 2 := by
  rcases h with rfl | rfl | rfl <;> simp [cd_stp, h7, hs, h8, h9, h10]
theorem xs_71 {post : Int32 → Prop} {d s c : Nat} (hd : d < 8) (hs : cd_ok s) (hc : c ≤ 10) (h : post (nI (cd_stp d s c))) : wX_step_71 post (nI d) (nI s) (nI c) := by
  have hs8 : s < 8 := by rcases hs with e | e | e | e <;> omega
  refine pk_eq c 7 (fun e7 => ?_) (fun n7 => ?_)
  · subst e7
    refine pk_eq s 2 (fun e2 => ?_) (fun n2 => pk_eq s 5 (fun e5 => ?_) (fun n5 => ?_))
    · subst e2
      exact xs_p (b := 7) h cd_s2q
    · subst e5
      exact xs_es hd (fun e => br_t rfl (xs_p (b := 3) h (cd_s5qf e))) (fun e => br_f (by decide) (xs_p (b := 7) h (cd_s5qt e)))
    · exact xs_p (b := 3) h (cd_s01q (by rcases hs with e | e | e | e <;> omega))
  · refine xs_sp hd ?_
    have hsp := cd_spr d
    refine pk_eq c (cd_sp d) (fun es => ?_) (fun ns => ?_)
    · subst es
      exact xs_p (b := 1) h (cd_sos hs)
    · refine pk_eq c 8 (fun e8 => ?_) (fun n8 => pk_eq c 9 (fun e9 => ?_) (fun n9 => pk_eq c 10 (fun e10 => ?_) (fun n10 => pk_eq s 5 (fun e5 => ?_) (fun n5 => ?_))))
      · subst e8
        rw [cd_so8 hs] at h
        exact xs_cr hd (fun e => br_f (by decide) (xs_p (b := 6) h (if_pos e))) (fun e => br_t rfl (xs_p (b := 7) h (if_neg (by rw [e]; decide))))
      · subst e9
        rw [cd_so9 hs] at h
        exact xs_cr hd (fun e => br_f (by decide) (xs_p (b := 7) h (if_pos e))) (fun e => br_t rfl (xs_p (b := 0) h (if_neg (by rw [e]; decide))))
      · subst e10
        exact xs_p (b := 7) h (cd_so10 hs)
      · subst e5
        exact xs_p (b := 7) h (cd_so5 n7 ns n8 n9)
      · exact xs_p (b := 2) h (cd_so2 (by rcases hs with e | e | e | e <;> omega) n7 ns n8 n9 n10)
theorem xs_step {post : Int32 → Prop} {d s c : Nat} (hd : d < 8) (hs : s < 8) (hc : c ≤ 10) (h : post (nI (cd_stp d s c))) : wpX_step post (nI d) (nI s) (nI c) := by
  refine pk_lt s 3 (fun h3 => xs_71 hd (by unfold cd_ok; omega) hc h) (fun h3 => pk_lt 7 s (fun z => absurd z (by omega)) (fun _ => pk_eq s 3 (fun e => ?_) (fun n3 => pk_eq s 4 (fun e => ?_) (fun n4 => pk_eq s 5 (fun e => xs_71 hd (by unfold cd_ok; omega) hc h) (fun n5 => pk_eq s 6 (fun e => ?_) (fun n6 => pk_eq s 7 (fun e => ?_) (fun n7 => trivial)))))))
  · subst e
    refine pk_eq c 7 (fun e7 => ?_) (fun n7 => pk_eq c 10 (fun e10 => ?_) (fun n10 => ?_))
    · subst e7
      exact xs_p (b := 5) h cd_s3q
    · subst e10
      exact xs_es hd (fun e => br_t rfl (xs_p (b := 7) h (cd_s3ef e))) (fun e => br_f (by decide) (xs_p (b := 4) h (cd_s3et e)))
    · exact xs_p (b := 3) h (cd_s3o n7 n10)
  · subst e
    refine pk_eq c 7 (fun e7 => ?_) (fun n7 => ?_)
    · subst e7
      exact xs_p (b := 3) h cd_s4q
    · exact xs_p (b := 7) h (cd_s4o n7)
  · subst e
    refine pk_eq c 9 (fun e9 => ?_) (fun n9 => ?_)
    · subst e9
      exact xs_p (b := 0) h cd_s6n
    · exact xs_p (b := 7) h (cd_s6o n9)
  · subst e
    exact xs_p (b := 7) h cd_s7
theorem xs_b {post : Int32 → Prop} {a b : Bool} (h : post (cd_b a)) (e : a = b) : post (cd_b b) := e ▸ h
theorem xs_ct {post : Int32 → Prop} {s s' : Nat} (hs : s < 8) (hs' : s' < 8) (h : post (cd_b (cd_ct s s'))) : wpX_isContent post (nI s) (nI s') := by
  have h1 : (s = 0 ∨ s = 1) → wX_isContent_14 post (nI s') 1 := by
    intro z
    refine pk_eq s' 2 (fun e => ?_) (fun n2 => pk_eq s' 3 (fun e => br_f (by decide) ?_) (fun n3 => ?_))
    · subst e
      exact xs_b (b := true) h (cd_ct2 s)
    · subst e
      exact xs_b (b := false) h (cd_ct03 z)
    · exact xs_b (b := false) h (by simp [cd_ct, n2, n3])
  refine pk_eq s 0 (fun e => h1 (Or.inl e)) (fun n0 => pk_eq s 1 (fun e => h1 (Or.inr e)) (fun n1 => ?_))
  refine pk_eq s' 2 (fun e => ?_) (fun n2 => pk_eq s' 3 (fun e => br_t rfl ?_) (fun n3 => ?_))
  · subst e
    exact xs_b (b := true) h (cd_ct2 s)
  · subst e
    exact xs_b (b := true) h (cd_ct3 n0 n1)
  · exact xs_b (b := false) h (by simp [cd_ct, n2, n3])
section
variable {x_draftSize x_recordCount x_rawCount x_writingCount x_scanState x_scanSound x_scanRecords x_scanFields x_scanSize x_scanMostFields x_scanLongest x_scanUneven : Int32} {x_draftCharacters x_fieldCounts x_fieldSizes x_characters x_rawCharacters x_writing : Nat → Int32}
variable {ln d : Nat} {R : Nat → Nat}
theorem xc_rec {post : SX → Prop} {r f m : Nat} {u : Bool} (hr : r < 2 ^ 31) (hf : f < 2 ^ 31) (hm : m < 2 ^ 31)
    (H : post (x_draftSize, x_recordCount, x_rawCount, x_writingCount, x_scanState, x_scanSound, nI r, nI f, x_scanSize, nI (cd_mx m f), x_scanLongest, cd_b (u || (decide (1 < r) && !decide (f = m))), x_draftCharacters, x_fieldCounts, x_fieldSizes, x_characters, x_rawCharacters, x_writing)) :
    wpX_countRecord post (x_draftSize, x_recordCount, x_rawCount, x_writingCount, x_scanState, x_scanSound, nI r, nI f, x_scanSize, nI m, x_scanLongest, cd_b u, x_draftCharacters, x_fieldCounts, x_fieldSizes, x_characters, x_rawCharacters, x_writing) := by
  have h24 : ∀ w : Bool, (u || (decide (1 < r) && !decide (f = m))) = w → wX_countRecord_24 post x_draftSize x_recordCount x_rawCount x_writingCount x_scanState x_scanSound (nI r) (nI f) x_scanSize (nI m) x_scanLongest (cd_b w) x_draftCharacters x_fieldCounts x_fieldSizes x_characters x_rawCharacters x_writing := by
    intro w e
    rw [e] at H
    refine pk_le f m (fun h => ?_) (fun h => ?_)
    · have em : cd_mx m f = m := if_neg (by omega)
      rw [em] at H
      exact H
    · have em : cd_mx m f = f := if_pos h
      rw [em] at H
      exact H
  refine pk_le r 1 (fun h => h24 u ?_) (fun h => pk_eq f m (fun e => h24 u ?_) (fun e => h24 true ?_))
  · rw [decide_eq_false (by omega), Bool.false_and, Bool.or_false]
  · rw [decide_eq_true e, Bool.not_true, Bool.and_false, Bool.or_false]
  · rw [decide_eq_true h, decide_eq_false e, Bool.not_false, Bool.and_true, Bool.or_true]
theorem xc_104 {post : SX → Prop} {s' r f m : Nat} {u : Bool} (hs : s' < 8) (hr : r < 2 ^ 31) (hf : f < 2 ^ 31) (hm : m < 2 ^ 31)
    (H : post (x_draftSize, x_recordCount, x_rawCount, x_writingCount, x_scanState, x_scanSound, nI r, nI f, x_scanSize, nI (if s' = 0 then cd_mx m f else m), x_scanLongest, cd_b (u || (decide (s' = 0) && (decide (1 < r) && !decide (f = m)))), x_draftCharacters, x_fieldCounts, x_fieldSizes, x_characters, x_rawCharacters, x_writing)) :
    wX_countStep_104 post (nI s') x_draftSize x_recordCount x_rawCount x_writingCount x_scanState x_scanSound (nI r) (nI f) x_scanSize (nI m) x_scanLongest (cd_b u) x_draftCharacters x_fieldCounts x_fieldSizes x_characters x_rawCharacters x_writing := by
  refine pk_eq s' 0 (fun e => xc_rec hr hf hm ?_) (fun e => ?_)
  · rw [if_pos e, decide_eq_true e, Bool.true_and] at H
    exact H
  · rw [if_neg e, decide_eq_false e, Bool.false_and, Bool.or_false] at H
    exact H
theorem xc_60 {post : SX → Prop} {s s' r f z l m : Nat} {u : Bool} (hs : s < 8) (hs' : s' < 8) (hr : r < 2 ^ 31) (hf : f < 2 ^ 31) (hm : m < 2 ^ 31) (hz : z < 2 ^ 30) (hl : l < 2 ^ 31)
    (H : post (x_draftSize, x_recordCount, x_rawCount, x_writingCount, x_scanState, x_scanSound, nI r, nI f, nI (if cd_ct s s' = true then z + 1 else z), nI (if s' = 0 then cd_mx m f else m), nI (if cd_ct s s' = true then cd_mx l (z + 1) else l), cd_b (u || (decide (s' = 0) && (decide (1 < r) && !decide (f = m)))), x_draftCharacters, x_fieldCounts, x_fieldSizes, x_characters, x_rawCharacters, x_writing)) :
    wX_countStep_60 post (nI s) (nI s') x_draftSize x_recordCount x_rawCount x_writingCount x_scanState x_scanSound (nI r) (nI f) (nI z) (nI m) (nI l) (cd_b u) x_draftCharacters x_fieldCounts x_fieldSizes x_characters x_rawCharacters x_writing := by
  refine xs_ct hs hs' ?_
  cases hc : cd_ct s s' with
  | false =>
    rw [hc] at H
    exact br_t rfl (xc_104 hs' hr hf hm H)
  | true =>
    rw [hc] at H
    refine br_f (by decide) (nm_r (nI_1 z) (pk_le (z + 1) l (fun h => ?_) (fun h => ?_)))
    · have em : cd_mx l (z + 1) = l := if_neg (by omega)
      rw [em] at H
      exact xc_104 hs' hr hf hm H
    · have em : cd_mx l (z + 1) = z + 1 := if_pos h
      rw [em] at H
      exact xc_104 hs' hr hf hm H
theorem xc_40 {post : SX → Prop} {s s' r f z l m : Nat} {u : Bool} (hs : s < 8) (hs' : s' < 8) (hr : r < 2 ^ 31) (hf : f < 2 ^ 30) (hm : m < 2 ^ 31) (hz : z < 2 ^ 30) (hl : l < 2 ^ 31)
    (H : ∀ f' z', f' = (if s' = 1 then f + 1 else f) → z' = (if s' = 1 then 0 else z) → post (x_draftSize, x_recordCount, x_rawCount, x_writingCount, x_scanState, x_scanSound, nI r, nI f', nI (if cd_ct s s' = true then z' + 1 else z'), nI (if s' = 0 then cd_mx m f' else m), nI (if cd_ct s s' = true then cd_mx l (z' + 1) else l), cd_b (u || (decide (s' = 0) && (decide (1 < r) && !decide (f' = m)))), x_draftCharacters, x_fieldCounts, x_fieldSizes, x_characters, x_rawCharacters, x_writing)) :
    wX_countStep_40 post (nI s) (nI s') x_draftSize x_recordCount x_rawCount x_writingCount x_scanState x_scanSound (nI r) (nI f) (nI z) (nI m) (nI l) (cd_b u) x_draftCharacters x_fieldCounts x_fieldSizes x_characters x_rawCharacters x_writing := by
  refine pk_eq s' 1 (fun e => nm_r (nI_1 f) ?_) (fun e => ?_)
  · exact xc_60 (z := 0) hs hs' hr (by omega) hm (by omega) hl (H (f + 1) 0 (if_pos e).symm (if_pos e).symm)
  · exact xc_60 hs hs' hr (by omega) hm hz hl (H f z (if_neg e).symm (if_neg e).symm)
theorem xc_step {post : SX → Prop} {s s' r f z l m o : Nat} {u : Bool} (hs : s < 8) (hs' : s' < 8) (hr : r < 2 ^ 30) (hf : f < 2 ^ 30) (hm : m < 2 ^ 31) (hz : z < 2 ^ 30) (hl : l < 2 ^ 31)
    (H : ∀ r' f' z' o', r' = (if s = 0 then r + 1 else r) → f' = (if s' = 1 then (if s = 0 then 1 else f) + 1 else (if s = 0 then 1 else f)) → z' = (if s' = 1 then 0 else (if s = 0 then 0 else z)) → o' = (if s' = 7 then o else o + 1) →
      post (x_draftSize, x_recordCount, x_rawCount, x_writingCount, x_scanState, nI o', nI r', nI f', nI (if cd_ct s s' = true then z' + 1 else z'), nI (if s' = 0 then cd_mx m f' else m), nI (if cd_ct s s' = true then cd_mx l (z' + 1) else l), cd_b (u || (decide (s' = 0) && (decide (1 < r') && !decide (f' = m)))), x_draftCharacters, x_fieldCounts, x_fieldSizes, x_characters, x_rawCharacters, x_writing)) :
    wpX_countStep post (x_draftSize, x_recordCount, x_rawCount, x_writingCount, x_scanState, nI o, nI r, nI f, nI z, nI m, nI l, cd_b u, x_draftCharacters, x_fieldCounts, x_fieldSizes, x_characters, x_rawCharacters, x_writing) (nI s) (nI s') := by
  have h16 : ∀ o', o' = (if s' = 7 then o else o + 1) → wX_countStep_16 post (nI s) (nI s') x_draftSize x_recordCount x_rawCount x_writingCount x_scanState (nI o') (nI r) (nI f) (nI z) (nI m) (nI l) (cd_b u) x_draftCharacters x_fieldCounts x_fieldSizes x_characters x_rawCharacters x_writing := by
    intro o' eo
    refine pk_eq s 0 (fun e => nm_r (nI_1 r) ?_) (fun e => ?_)
    · refine xc_40 (f := 1) (z := 0) hs hs' (by omega) (by omega) hm (by omega) hl (fun f' z' ef ez => H (r + 1) f' z' o' (if_pos e).symm ?_ ?_ eo)
      · rw [if_pos e]
        exact ef
      · rw [if_pos e]
        exact ez
    · refine xc_40 hs hs' (by omega) hf hm hz hl (fun f' z' ef ez => H r f' z' o' (if_neg e).symm ?_ ?_ eo)
      · rw [if_neg e]
        exact ef
      · rw [if_neg e]
        exact ez
  exact pk_eq s' 7 (fun e => h16 o (if_pos e).symm) (fun e => nm_r (nI_1 o) (h16 (o + 1) (if_neg e).symm))
theorem cd_tsv (s s' c : Nat) (t : cd_T) : (cd_ts s s' c (cd_ob s t)).1 = (if s = 0 then t.1 + 1 else t.1) ∧ cd_f (cd_ts s s' c (cd_ob s t)) = (if s' = 1 then (if s = 0 then 1 else cd_f t) + 1 else (if s = 0 then 1 else cd_f t)) ∧
    cd_z (cd_ts s s' c (cd_ob s t)) = (if cd_ct s s' = true then (if s' = 1 then 0 else (if s = 0 then 0 else cd_z t)) + 1 else (if s' = 1 then 0 else (if s = 0 then 0 else cd_z t))) := by
  have e0 : (cd_ob s t).1 = (if s = 0 then t.1 + 1 else t.1) ∧ cd_f (cd_ob s t) = (if s = 0 then 1 else cd_f t) ∧ cd_z (cd_ob s t) = (if s = 0 then 0 else cd_z t) := by
    unfold cd_ob
    by_cases h : s = 0
    · rw [if_pos h, if_pos h, if_pos h, if_pos h]
      exact ⟨rfl, cd_oRf t, cd_oRz t⟩
    · rw [if_neg h, if_neg h, if_neg h, if_neg h]
      exact ⟨rfl, rfl, rfl⟩
  rw [← e0.1, ← e0.2.1, ← e0.2.2]
  unfold cd_ts
  by_cases h1 : s' = 1
  · have hc : cd_ct s s' = false := by rw [h1]; exact cd_ct1 s
    rw [if_pos h1, if_pos h1, if_pos h1, hc, if_neg (by decide)]
    exact ⟨rfl, cd_oFf _, cd_oFz _⟩
  · rw [if_neg h1, if_neg h1, if_neg h1]
    cases hc : cd_ct s s' with
    | true =>
      rw [if_pos rfl, if_pos rfl]
      exact ⟨rfl, cd_oAf _ _, cd_oAz _ _⟩
    | false =>
      rw [if_neg (by decide), if_neg (by decide)]
      exact ⟨rfl, rfl, rfl⟩
theorem xs_loop {post : SX → Prop} (hd : d < 8) (hl : ln ≤ 96) (hR : ∀ i, i < ln → R i ≤ 10 ∧ x_rawCharacters i = nI (R i))
    (H : ∀ j, j ≤ ln → (j = ln ∨ cd_S d R j = 7) → post (x_draftSize, x_recordCount, nI ln, x_writingCount, nI (cd_S d R j), nI (cd_so d R j), nI (cd_t d R j).1, nI (cd_f (cd_t d R j)), nI (cd_z (cd_t d R j)), nI (cd_e d R j).2.2.1, nI (cd_lg d R j), cd_b (cd_e d R j).2.2.2, x_draftCharacters, x_fieldCounts, x_fieldSizes, x_characters, x_rawCharacters, x_writing)) :
    ∀ (e i n : Nat), i + e = ln → e < n → wX_scan_42 post (nI d) n (nI i) x_draftSize x_recordCount (nI ln) x_writingCount (nI (cd_S d R i)) (nI (cd_so d R i)) (nI (cd_t d R i).1) (nI (cd_f (cd_t d R i))) (nI (cd_z (cd_t d R i))) (nI (cd_mc d R i)) (nI (cd_lg d R i)) (cd_b (cd_uv d R i)) x_draftCharacters x_fieldCounts x_fieldSizes x_characters x_rawCharacters x_writing := by
  have h94 : ∀ j, j ≤ ln → (j = ln ∨ cd_S d R j = 7) → wX_scan_94 post x_draftSize x_recordCount (nI ln) x_writingCount (nI (cd_S d R j)) (nI (cd_so d R j)) (nI (cd_t d R j).1) (nI (cd_f (cd_t d R j))) (nI (cd_z (cd_t d R j))) (nI (cd_mc d R j)) (nI (cd_lg d R j)) (cd_b (cd_uv d R j)) x_draftCharacters x_fieldCounts x_fieldSizes x_characters x_rawCharacters x_writing := by
    intro j hj hx
    have h := H j hj hx
    have b1 := cd_tb1 d R j
    have b2 := cd_mcb d R j
    have b3 := cd_Sl d R j
    refine pk_eq (cd_S d R j) 0 (fun e => ?_) (fun e => ?_)
    · rw [cd_e0 e] at h
      exact h
    · rw [cd_en e] at h
      have e1 : (cd_cw (cd_v d R j)).2.2.1 = cd_mx (cd_mc d R j) (cd_f (cd_t d R j)) := by
        show cd_mx (cd_mc d R j) (cd_f (cd_t' d R j)) = _
        rw [cd_t'n e]
      have e2 : (cd_cw (cd_v d R j)).2.2.2 = (cd_uv d R j || (decide (1 < (cd_t d R j).1) && !decide (cd_f (cd_t d R j) = cd_mc d R j))) := by
        show (cd_uv d R j || (decide (1 < (cd_t' d R j).1) && !decide (cd_f (cd_t' d R j) = cd_mc d R j))) = _
        rw [cd_t'n e]
      rw [e1, e2] at h
      exact xc_rec (by omega) (by omega) (by omega) h
  intro e
  induction e with
  | zero =>
    intro i n hi hn
    obtain ⟨n, rfl⟩ : ∃ m, n = m + 1 := ⟨n - 1, by omega⟩
    rw [wX_scan_42]
    exact pk_le ln i (fun _ => h94 i (by omega) (Or.inl (by omega))) (fun z => absurd z (by omega))
  | succ e ih =>
    intro i n hi hn
    obtain ⟨n, rfl⟩ : ∃ m, n = m + 1 := ⟨n - 1, by omega⟩
    have b1 := cd_tb1 d R i
    have b2 := cd_mcb d R i
    have b3 := cd_Sl d R i
    have b4 := cd_lgb d R i
    rw [wX_scan_42]
    refine pk_le ln i (fun z => absurd z (by omega)) (fun _ => pk_eq (cd_S d R i) 7 (fun e7 => h94 i (by omega) (Or.inr e7)) (fun n7 => ⟨pk_in i 96 (by omega), ?_⟩))
    rw [nI_clamp (by omega), (hR i (by omega)).2]
    refine xs_step hd b3 (hR i (by omega)).1 ?_
    rw [← cd_Ss]
    refine xc_step b3 (cd_Sl d R (i + 1)) (by omega) (by omega) (by omega) (by omega) (by omega) (fun r' f' z' o' er ef ez eo => ?_)
    dsimp only
    refine nm_r (nI_1 i) ?_
    obtain ⟨v1, v2, v3⟩ := cd_tsv (cd_S d R i) (cd_S d R (i + 1)) (R i) (cd_t d R i)
    rw [← er] at v1
    rw [← ef] at v2
    rw [← ez] at v3
    have w := ih (i + 1) n (by omega) (by omega)
    have t1 : (cd_t d R (i + 1)).1 = r' := v1
    have t2 : cd_f (cd_t d R (i + 1)) = f' := v2
    have t3 : cd_z (cd_t d R (i + 1)) = (if cd_ct (cd_S d R i) (cd_S d R (i + 1)) = true then z' + 1 else z') := v3
    have t4 : cd_so d R (i + 1) = o' := eo.symm
    have t5 : cd_lg d R (i + 1) = (if cd_ct (cd_S d R i) (cd_S d R (i + 1)) = true then cd_mx (cd_lg d R i) (z' + 1) else cd_lg d R i) := by
      show (if cd_ct (cd_S d R i) (cd_S d R (i + 1)) = true then cd_mx (cd_lg d R i) (cd_z (cd_t d R (i + 1))) else cd_lg d R i) = _
      rw [t3]
      cases hc : cd_ct (cd_S d R i) (cd_S d R (i + 1)) with
      | true => rfl
      | false => rfl
    have t6 : cd_mc d R (i + 1) = (if cd_S d R (i + 1) = 0 then cd_mx (cd_mc d R i) f' else cd_mc d R i) := by
      rw [← t2]
      rfl
    have t7 : cd_uv d R (i + 1) = (cd_uv d R i || (decide (cd_S d R (i + 1) = 0) && (decide (1 < r') && !decide (f' = cd_mc d R i)))) := by
      rw [← t1, ← t2]
      rfl
    rw [t1, t2, t3, t4, t5, t6, t7] at w
    exact w
theorem xs_scan {post : SX → Prop} (hd : d < 8) (hr : cd_tx 96 10 ln R x_rawCount x_rawCharacters)
    (H : ∀ j, j ≤ ln → (j = ln ∨ cd_S d R j = 7) → post (x_draftSize, x_recordCount, nI ln, x_writingCount, nI (cd_S d R j), nI (cd_so d R j), nI (cd_t d R j).1, nI (cd_f (cd_t d R j)), nI (cd_z (cd_t d R j)), nI (cd_e d R j).2.2.1, nI (cd_lg d R j), cd_b (cd_e d R j).2.2.2, x_draftCharacters, x_fieldCounts, x_fieldSizes, x_characters, x_rawCharacters, x_writing)) :
    wpX_scan post (x_draftSize, x_recordCount, x_rawCount, x_writingCount, x_scanState, x_scanSound, x_scanRecords, x_scanFields, x_scanSize, x_scanMostFields, x_scanLongest, x_scanUneven, x_draftCharacters, x_fieldCounts, x_fieldSizes, x_characters, x_rawCharacters, x_writing) (nI d) := by
  obtain ⟨h1, rfl, h3⟩ := hr
  exact ⟨ln + 1, xs_loop hd h1 h3 H ln 0 (ln + 1) (by omega) (by omega)⟩
theorem xs_reads {post : Int32 → Prop} {s : Nat} (hs : s < 8) (f : cd_ok s → post 1) (g : ¬ cd_ok s → post 0) : wpX_scanReads post (x_draftSize, x_recordCount, x_rawCount, x_writingCount, nI s, x_scanSound, x_scanRecords, x_scanFields, x_scanSize, x_scanMostFields, x_scanLongest, x_scanUneven, x_draftCharacters, x_fieldCounts, x_fieldSizes, x_characters, x_rawCharacters, x_writing) :=
  pk_eq s 0 (fun e => f (by unfold cd_ok; omega)) (fun n0 => pk_eq s 1 (fun e => f (by unfold cd_ok; omega)) (fun n1 => pk_eq s 2 (fun e => f (by unfold cd_ok; omega)) (fun n2 => pk_eq s 5 (fun e => f (by unfold cd_ok; omega)) (fun n5 => g (by unfold cd_ok; omega)))))
end
