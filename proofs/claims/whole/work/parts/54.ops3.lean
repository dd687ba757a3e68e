/-! where a watcher is -/
def plc (a : Abs) (k t : Nat) : Option Nat := if aRl a k = 0 then none else some (aRc a k ((t + aRs a k) % aRl a k))
theorem s_placeAt {a : Abs} {rc rl rs : Nat → Int32} {k t : Nat} {Q : Int32 → Prop} (hA : AOk a) (hRo : IR a rc rl rs) (hk : k < 4) (ht : t ≤ 9999) (h : Q (oI (-9) (plc a k t))) : P_ro_placeAt rc rl rs (nI k) (nI t) Q := by
  have h6 := hA.2.2.2.2.2.2.2.1 k hk
  have h5 := hA.2.2.2.2.2.2.2.2.2 k hk
  unfold P_ro_placeAt
  rw [cl (by omega), hRo.1 k hk]
  refine ⟨vI hk (by omega), ?_⟩
  rintro _ rfl
  rw [hRo.2.1 k hk, nI_add]
  rcases Nat.eq_zero_or_pos (aRl a k) with z | z
  · refine br_t (by rw [z]; rfl) ?_
    unfold plc at h
    rw [if_pos z] at h
    exact h
  · have hne : ¬ nI (aRl a k) = 0 := nI_ne0 z (by omega)
    refine br_f hne ⟨vI hk (by omega), hne, ?_⟩
    rw [pk_rem (by omega) z (by omega)]
    have hl : (t + aRs a k) % aRl a k < aRl a k := Nat.mod_lt _ z
    unfold P_ro_cellOf
    rw [show nI k * 6 + nI ((t + aRs a k) % aRl a k) = nI (6 * k + (t + aRs a k) % aRl a k) by rw [show (6 : Int32) = nI 6 from rfl, pk_mul, nI_add, Nat.mul_comm]]
    rw [cl (by omega), hRo.2.2 k _ hk hl]
    refine ⟨vI (by omega) (by omega), ?_⟩
    unfold plc at h
    rw [if_neg (by omega)] at h
    exact h
theorem s_whereAt {a : Abs} {rm ro sh : Nat → Int32} {k t : Nat} {Q : Int32 → Prop} (hA : AOk a) (m9 : ∀ k, k < 4 → rm k = nI (aRl a k)) (m10 : ∀ k i, k < 4 → i < aRl a k → ro (6 * k + i) = nI (aRc a k i)) (m11 : ∀ k, k < 4 → sh k = nI (aRs a k)) (hk : k < 4) (ht : t ≤ 9999) (h : Q (oI (-9) (plc a k t))) : P_mo_whereAt rm ro sh (nI k) (nI t) Q := by
  have h6 := hA.2.2.2.2.2.2.2.1 k hk
  have h5 := hA.2.2.2.2.2.2.2.2.2 k hk
  unfold P_mo_whereAt
  rw [cl (by omega), m9 k hk, m11 k hk, nI_add]
  refine ⟨vI hk (by omega), ?_⟩
  rcases Nat.eq_zero_or_pos (aRl a k) with z | z
  · refine br_t (by rw [z]; rfl) ?_
    unfold plc at h
    rw [if_pos z] at h
    exact h
  · have hne : ¬ nI (aRl a k) = 0 := nI_ne0 z (by omega)
    rw [pk_rem (by omega) z (by omega)]
    have hl : (t + aRs a k) % aRl a k < aRl a k := Nat.mod_lt _ z
    rw [show (6 : Int32) * nI k = nI (6 * k) from pk_mul 6 k, nI_add, cl (n := 6 * k + (t + aRs a k) % aRl a k) (by omega), m10 k _ hk hl]
    refine br_f hne ⟨vI hk (by omega), vI hk (by omega), hne, vI (by omega) (by omega), ?_⟩
    unfold plc at h
    rw [if_neg (by omega)] at h
    exact h
theorem op_wipe {gr_width : Int32} {gr_height : Int32} {gr_size : Int32} {gr_kinds : Nat → Int32} {gr_columns : Nat → Int32} {gr_rows : Nat → Int32} {gr_floorCells : Int64} {gr_clearCells : Int64} {gr_standCells : Int64} {gr_firstColumn : Int64} {gr_lastColumn : Int64} {pi_cells : Nat → Int32} {pi_facings : Nat → Int32} {pi_size : Int32} {ro_cells : Nat → Int32} {ro_lengths : Nat → Int32} {ro_shifts : Nat → Int32} {si_sightLaw : Int32} {si_sightRange : Int32} {mo_wide : Int32} {mo_tall : Int32} {mo_kind : Nat → Int32} {mo_law : Int32} {mo_range : Int32} {mo_pictures : Int32} {mo_pictureCell : Nat → Int32} {mo_facing : Nat → Int32} {mo_roundMany : Nat → Int32} {mo_round : Nat → Int32} {mo_shift : Nat → Int32} (hR : Rel gr_width gr_height gr_size gr_columns gr_rows gr_firstColumn gr_lastColumn gr_kinds gr_floorCells gr_clearCells gr_standCells pi_cells pi_facings pi_size ro_cells ro_lengths ro_shifts si_sightLaw si_sightRange mo_wide mo_tall mo_kind mo_law mo_range mo_pictures mo_pictureCell mo_facing mo_roundMany mo_round mo_shift) (a1 : Int32) : P_wh_wipe ro_lengths a1 (fun r1 ro_lengths' => P_mo_wipe mo_roundMany a1 (fun r2 mo_roundMany' => r1 = r2 ∧ Rel gr_width gr_height gr_size gr_columns gr_rows gr_firstColumn gr_lastColumn gr_kinds gr_floorCells gr_clearCells gr_standCells pi_cells pi_facings pi_size ro_cells ro_lengths' ro_shifts si_sightLaw si_sightRange mo_wide mo_tall mo_kind mo_law mo_range mo_pictures mo_pictureCell mo_facing mo_roundMany' mo_round mo_shift)) := by
  obtain ⟨a, hA, hGs, hGk, hPi, hRo, hSi, hM⟩ := id hR
  obtain ⟨m1, m2, m3, m4, m5, m6, m7, m8, m9, m10, m11⟩ := id hM
  obtain ⟨hn4, hn⟩ := aN_le hA
  have hnw : aW a * aH a < 1073741824 := by unfold aN at hn; omega
  have hrl : ∀ k, k < 4 → aRl a k ≤ 6 := hA.2.2.2.2.2.2.2.1
  have hrc : ∀ k i, k < 4 → i < aRl a k → aRc a k i < aN a := hA.2.2.2.2.2.2.2.2.1
  have hrs : ∀ k, k < 4 → aRs a k ≤ 5 := hA.2.2.2.2.2.2.2.2.2
  unfold P_wh_wipe
  refine s_isWatcher (brB (fun hf => ?_) (fun ht => ?_))
  · unfold P_mo_wipe
    exact s_mWatcher (brF hf ⟨rfl, hR⟩)
  · obtain ⟨j, hj, rfl⟩ := isC_of (by omega) ht
    unfold P_ro_drop P_mo_wipe
    refine ⟨vI hj (by omega), ?_⟩
    rintro _ rfl
    refine ⟨vI hj (by omega), s_mWatcher (brT ht ⟨vI hj (by omega), ?_⟩)⟩
    rintro _ rfl
    rw [cl (by omega)]
    refine ⟨vI hj (by omega), by rw [hRo.1 j hj, m9 j hj], (aW a, aH a, aKd a, aLw a, aRg a, aNp a, aPc a, aPf a, (fun k => if k = j then 0 else aRl a k), aRc a, aRs a), ?_, hGs, hGk, hPi, ⟨?_, hRo.2.1, ?_⟩, hSi, m1, m2, m3, m4, m5, m6, m7, m8, ?_, ?_, m11⟩
    · obtain ⟨b1, b2, b3, b4, b5, b6, b7, b8, b9, b10⟩ := hA
      refine ⟨b1, b2, b3, b4, b5, b6, b7, fun k hk => ?_, fun k i hk hi => ?_, b10⟩
      · show (if k = j then 0 else aRl a k) ≤ 6
        by_cases e : k = j
        · simp [e]
        · simp only [e, if_false]; exact b8 k hk
      · have hi2 : i < (if k = j then 0 else aRl a k) := hi
        by_cases e : k = j
        · simp [e] at hi2
        · simp only [e, if_false] at hi2; exact b9 k i hk hi2
    · intro k hk
      show _ = nI (if k = j then 0 else aRl a k)
      by_cases e : k = j
      · subst e; rw [u_s]; simp; rfl
      · rw [u_n e]; simp only [e, if_false]; exact hRo.1 k hk
    · intro k i hk hi
      have hi2 : i < (if k = j then 0 else aRl a k) := hi
      by_cases e : k = j
      · simp [e] at hi2
      · simp only [e, if_false] at hi2; exact hRo.2.2 k i hk hi2
    · intro k hk
      show _ = nI (if k = j then 0 else aRl a k)
      by_cases e : k = j
      · subst e; rw [u_s]; simp; rfl
      · rw [u_n e]; simp only [e, if_false]; exact m9 k hk
    · intro k i hk hi
      have hi2 : i < (if k = j then 0 else aRl a k) := hi
      by_cases e : k = j
      · simp [e] at hi2
      · simp only [e, if_false] at hi2; exact m10 k i hk hi2
theorem op_shift {gr_width : Int32} {gr_height : Int32} {gr_size : Int32} {gr_kinds : Nat → Int32} {gr_columns : Nat → Int32} {gr_rows : Nat → Int32} {gr_floorCells : Int64} {gr_clearCells : Int64} {gr_standCells : Int64} {gr_firstColumn : Int64} {gr_lastColumn : Int64} {pi_cells : Nat → Int32} {pi_facings : Nat → Int32} {pi_size : Int32} {ro_cells : Nat → Int32} {ro_lengths : Nat → Int32} {ro_shifts : Nat → Int32} {si_sightLaw : Int32} {si_sightRange : Int32} {mo_wide : Int32} {mo_tall : Int32} {mo_kind : Nat → Int32} {mo_law : Int32} {mo_range : Int32} {mo_pictures : Int32} {mo_pictureCell : Nat → Int32} {mo_facing : Nat → Int32} {mo_roundMany : Nat → Int32} {mo_round : Nat → Int32} {mo_shift : Nat → Int32} (hR : Rel gr_width gr_height gr_size gr_columns gr_rows gr_firstColumn gr_lastColumn gr_kinds gr_floorCells gr_clearCells gr_standCells pi_cells pi_facings pi_size ro_cells ro_lengths ro_shifts si_sightLaw si_sightRange mo_wide mo_tall mo_kind mo_law mo_range mo_pictures mo_pictureCell mo_facing mo_roundMany mo_round mo_shift) (a1 a2 : Int32) : P_wh_shift ro_shifts a1 a2 (fun r1 ro_shifts' => P_mo_shift mo_shift a1 a2 (fun r2 mo_shift' => r1 = r2 ∧ Rel gr_width gr_height gr_size gr_columns gr_rows gr_firstColumn gr_lastColumn gr_kinds gr_floorCells gr_clearCells gr_standCells pi_cells pi_facings pi_size ro_cells ro_lengths ro_shifts' si_sightLaw si_sightRange mo_wide mo_tall mo_kind mo_law mo_range mo_pictures mo_pictureCell mo_facing mo_roundMany mo_round mo_shift')) := by
  obtain ⟨a, hA, hGs, hGk, hPi, hRo, hSi, hM⟩ := id hR
  obtain ⟨m1, m2, m3, m4, m5, m6, m7, m8, m9, m10, m11⟩ := id hM
  obtain ⟨hn4, hn⟩ := aN_le hA
  have hnw : aW a * aH a < 1073741824 := by unfold aN at hn; omega
  have hrl : ∀ k, k < 4 → aRl a k ≤ 6 := hA.2.2.2.2.2.2.2.1
  have hrc : ∀ k i, k < 4 → i < aRl a k → aRc a k i < aN a := hA.2.2.2.2.2.2.2.2.1
  have hrs : ∀ k, k < 4 → aRs a k ≤ 5 := hA.2.2.2.2.2.2.2.2.2
  unfold P_wh_shift
  refine s_isWatcher (brB (fun hf => ?_) (fun ht => ?_))
  · unfold P_mo_shift
    exact s_mWatcher (brF hf ⟨rfl, hR⟩)
  · refine chk (l := 0) (h := 5) rfl rfl (fun hf2 => ?_) (fun ht2 => ?_)
    · unfold P_mo_shift
      exact s_mWatcher (brT ht (s_in rfl rfl (brF hf2 ⟨rfl, hR⟩)))
    · obtain ⟨j, hj, rfl⟩ := isC_of (by omega) ht
      obtain ⟨v, hv, rfl⟩ := isR_of (h := 5) ht2 (by decide)
      unfold P_ro_shiftOf P_ro_changeShift P_mo_shift
      refine ⟨vI hj (by omega), vI hj (by omega), s_mWatcher (brT ht (s_in rfl rfl (brT ht2 ⟨vI hj (by omega), ?_⟩)))⟩
      rintro _ rfl
      rw [cl (by omega)]
      refine ⟨vI hj (by omega), by rw [hRo.2.1 j hj, m11 j hj], (aW a, aH a, aKd a, aLw a, aRg a, aNp a, aPc a, aPf a, aRl a, aRc a, (fun k => if k = j then v else aRs a k)), ?_, hGs, hGk, hPi, ⟨hRo.1, ?_, hRo.2.2⟩, hSi, m1, m2, m3, m4, m5, m6, m7, m8, m9, m10, ?_⟩
      · obtain ⟨b1, b2, b3, b4, b5, b6, b7, b8, b9, b10⟩ := hA
        refine ⟨b1, b2, b3, b4, b5, b6, b7, b8, b9, fun k hk => ?_⟩
        show (if k = j then v else aRs a k) ≤ 5
        by_cases e : k = j
        · simp [e, hv]
        · simp only [e, if_false]; exact b10 k hk
      all_goals
        intro k hk
        show _ = nI (if k = j then v else aRs a k)
        by_cases e : k = j
        · subst e; rw [u_s]; simp
        · rw [u_n e]; simp only [e, if_false]
          first | exact hRo.2.1 k hk | exact m11 k hk
theorem op_where {gr_width : Int32} {gr_height : Int32} {gr_size : Int32} {gr_kinds : Nat → Int32} {gr_columns : Nat → Int32} {gr_rows : Nat → Int32} {gr_floorCells : Int64} {gr_clearCells : Int64} {gr_standCells : Int64} {gr_firstColumn : Int64} {gr_lastColumn : Int64} {pi_cells : Nat → Int32} {pi_facings : Nat → Int32} {pi_size : Int32} {ro_cells : Nat → Int32} {ro_lengths : Nat → Int32} {ro_shifts : Nat → Int32} {si_sightLaw : Int32} {si_sightRange : Int32} {mo_wide : Int32} {mo_tall : Int32} {mo_kind : Nat → Int32} {mo_law : Int32} {mo_range : Int32} {mo_pictures : Int32} {mo_pictureCell : Nat → Int32} {mo_facing : Nat → Int32} {mo_roundMany : Nat → Int32} {mo_round : Nat → Int32} {mo_shift : Nat → Int32} (hR : Rel gr_width gr_height gr_size gr_columns gr_rows gr_firstColumn gr_lastColumn gr_kinds gr_floorCells gr_clearCells gr_standCells pi_cells pi_facings pi_size ro_cells ro_lengths ro_shifts si_sightLaw si_sightRange mo_wide mo_tall mo_kind mo_law mo_range mo_pictures mo_pictureCell mo_facing mo_roundMany mo_round mo_shift) (a1 a2 : Int32) : P_wh_where ro_cells ro_lengths ro_shifts a1 a2 (fun r1 => P_mo_where mo_roundMany mo_round mo_shift a1 a2 (fun r2 => r1 = r2 ∧ Rel gr_width gr_height gr_size gr_columns gr_rows gr_firstColumn gr_lastColumn gr_kinds gr_floorCells gr_clearCells gr_standCells pi_cells pi_facings pi_size ro_cells ro_lengths ro_shifts si_sightLaw si_sightRange mo_wide mo_tall mo_kind mo_law mo_range mo_pictures mo_pictureCell mo_facing mo_roundMany mo_round mo_shift)) := by
  obtain ⟨a, hA, hGs, hGk, hPi, hRo, hSi, hM⟩ := id hR
  obtain ⟨m1, m2, m3, m4, m5, m6, m7, m8, m9, m10, m11⟩ := id hM
  obtain ⟨hn4, hn⟩ := aN_le hA
  have hnw : aW a * aH a < 1073741824 := by unfold aN at hn; omega
  have hrl : ∀ k, k < 4 → aRl a k ≤ 6 := hA.2.2.2.2.2.2.2.1
  have hrc : ∀ k i, k < 4 → i < aRl a k → aRc a k i < aN a := hA.2.2.2.2.2.2.2.2.1
  have hrs : ∀ k, k < 4 → aRs a k ≤ 5 := hA.2.2.2.2.2.2.2.2.2
  unfold P_wh_where
  refine s_isWatcher (brB (fun hf => ?_) (fun ht => ?_))
  · unfold P_mo_where
    exact s_mWatcher (brF hf ⟨rfl, hR⟩)
  · refine s_isTime (brB (fun hf2 => ?_) (fun ht2 => ?_))
    · unfold P_mo_where
      exact s_mWatcher (brT ht (s_in rfl rfl (brF hf2 ⟨rfl, hR⟩)))
    · obtain ⟨j, hj, rfl⟩ := isC_of (by omega) ht
      obtain ⟨t, htm, rfl⟩ := isR_of (h := 9999) ht2 (by decide)
      refine s_placeAt hA hRo hj htm ?_
      unfold P_mo_where
      exact s_mWatcher (brT ht (s_in rfl rfl (brT ht2 (s_whereAt hA m9 m10 m11 hj htm ⟨rfl, hR⟩))))
theorem op_closed {gr_width : Int32} {gr_height : Int32} {gr_size : Int32} {gr_kinds : Nat → Int32} {gr_columns : Nat → Int32} {gr_rows : Nat → Int32} {gr_floorCells : Int64} {gr_clearCells : Int64} {gr_standCells : Int64} {gr_firstColumn : Int64} {gr_lastColumn : Int64} {pi_cells : Nat → Int32} {pi_facings : Nat → Int32} {pi_size : Int32} {ro_cells : Nat → Int32} {ro_lengths : Nat → Int32} {ro_shifts : Nat → Int32} {si_sightLaw : Int32} {si_sightRange : Int32} {mo_wide : Int32} {mo_tall : Int32} {mo_kind : Nat → Int32} {mo_law : Int32} {mo_range : Int32} {mo_pictures : Int32} {mo_pictureCell : Nat → Int32} {mo_facing : Nat → Int32} {mo_roundMany : Nat → Int32} {mo_round : Nat → Int32} {mo_shift : Nat → Int32} (hR : Rel gr_width gr_height gr_size gr_columns gr_rows gr_firstColumn gr_lastColumn gr_kinds gr_floorCells gr_clearCells gr_standCells pi_cells pi_facings pi_size ro_cells ro_lengths ro_shifts si_sightLaw si_sightRange mo_wide mo_tall mo_kind mo_law mo_range mo_pictures mo_pictureCell mo_facing mo_roundMany mo_round mo_shift) (a1 : Int32) : P_wh_closed gr_columns gr_rows gr_standCells ro_cells ro_lengths a1 (fun r1 => P_mo_closed mo_wide mo_tall mo_kind mo_roundMany mo_round a1 (fun r2 => r1 = r2 ∧ Rel gr_width gr_height gr_size gr_columns gr_rows gr_firstColumn gr_lastColumn gr_kinds gr_floorCells gr_clearCells gr_standCells pi_cells pi_facings pi_size ro_cells ro_lengths ro_shifts si_sightLaw si_sightRange mo_wide mo_tall mo_kind mo_law mo_range mo_pictures mo_pictureCell mo_facing mo_roundMany mo_round mo_shift)) := by
  obtain ⟨a, hA, hGs, hGk, hPi, hRo, hSi, hM⟩ := id hR
  obtain ⟨m1, m2, m3, m4, m5, m6, m7, m8, m9, m10, m11⟩ := id hM
  obtain ⟨hn4, hn⟩ := aN_le hA
  have hnw : aW a * aH a < 1073741824 := by unfold aN at hn; omega
  have hrl : ∀ k, k < 4 → aRl a k ≤ 6 := hA.2.2.2.2.2.2.2.1
  have hrc : ∀ k i, k < 4 → i < aRl a k → aRc a k i < aN a := hA.2.2.2.2.2.2.2.2.1
  have hrs : ∀ k, k < 4 → aRs a k ≤ 5 := hA.2.2.2.2.2.2.2.2.2
  unfold P_wh_closed
  refine s_isWatcher (brB (fun hf => ?_) (fun ht => ?_))
  · unfold P_mo_closed
    exact s_mWatcher (brF hf ⟨rfl, hR⟩)
  · obtain ⟨j, hj, rfl⟩ := isC_of (by omega) ht
    have hj6 := hrl j hj
    unfold P_ro_firstOf P_ro_lastOf
    rw [cl (by omega), hRo.1 j hj]
    refine ⟨vI hj (by omega), fun q => ⟨vI hj (by omega), br_t q (br_t rfl ?_)⟩, fun q => ?_⟩
    · refine s_yesNo (b := true) ?_
      unfold P_mo_closed
      refine s_mWatcher (brT ht ⟨vI hj (by omega), br_t ?_ ⟨rfl, hR⟩⟩)
      rw [cl (by omega), m9 j hj]; exact q
    · have hp : 0 < aRl a j := by
        rcases Nat.eq_zero_or_pos (aRl a j) with z | z
        · rw [z] at q; exact absurd rfl q
        · exact z
      unfold P_ro_cellOf
      rw [show nI j * 6 + 0 = nI (6 * j + 0) by rw [show (6 : Int32) = nI 6 from rfl, pk_mul, show (0 : Int32) = nI 0 from rfl, nI_add, Nat.mul_comm]]
      rw [cl (by omega), hRo.2.2 j 0 hj hp]
      refine ⟨vI (by omega) (by omega), vI hj (by omega), br_f q ⟨vI hj (by omega), ?_⟩⟩
      rw [show nI (aRl a j) - 1 = nI (aRl a j - 1) from pk_sub (b := 1) hp, show nI j * 6 + nI (aRl a j - 1) = nI (6 * j + (aRl a j - 1)) by rw [show (6 : Int32) = nI 6 from rfl, pk_mul, nI_add, Nat.mul_comm]]
      rw [cl (by omega), hRo.2.2 j (aRl a j - 1) hj (by omega)]
      refine ⟨vI (by omega) (by omega), ?_⟩
      have hx := hrc j 0 hj hp
      have hy := hrc j (aRl a j - 1) hj (by omega)
      have md2 : ∀ b : Bool, near a (aRc a j 0) (aRc a j (aRl a j - 1)) = b → P_mo_closed mo_wide mo_tall mo_kind mo_roundMany mo_round (nI j) (fun r2 => bI b = r2 ∧ Rel gr_width gr_height gr_size gr_columns gr_rows gr_firstColumn gr_lastColumn gr_kinds gr_floorCells gr_clearCells gr_standCells pi_cells pi_facings pi_size ro_cells ro_lengths ro_shifts si_sightLaw si_sightRange mo_wide mo_tall mo_kind mo_law mo_range mo_pictures mo_pictureCell mo_facing mo_roundMany mo_round mo_shift) := by
        intro b hb
        unfold P_mo_closed
        refine s_mWatcher (brT ht ⟨vI hj (by omega), ?_⟩)
        rw [cl (by omega), m9 j hj]
        refine br_f q ?_
        rw [show (6 : Int32) * nI j = nI (6 * j) from pk_mul 6 j, nI_add, show nI (6 * j + aRl a j) - 1 = nI (6 * j + (aRl a j - 1)) by rw [show (1 : Int32) = nI 1 from rfl, pk_sub (by omega)]; congr 1; omega]
        rw [cl (n := 6 * j) (by omega), cl (n := 6 * j + (aRl a j - 1)) (by omega), show mo_round (6 * j) = nI (aRc a j 0) from m10 j 0 hj hp, m10 j (aRl a j - 1) hj (by omega)]
        refine ⟨vI (by omega) (by omega), vI hj (by omega), vI (by omega) (by omega), s_areNear hA m3 m1 m2 hx hy ?_⟩
        rw [hb]
        exact brB (fun e => by rw [e]; exact ⟨rfl, hR⟩) (fun e => by rw [e]; exact ⟨rfl, hR⟩)
      refine ⟨fun e => ?_, fun e => ?_⟩
      · refine s_yesNo (b := true) (md2 true ?_)
        unfold near
        rw [decide_eq_true ((nI_eq (by omega) (by omega)).mp e), Bool.true_or]
      · have en : ¬ aRc a j 0 = aRc a j (aRl a j - 1) := fun z => e (by rw [z])
        refine s_areNb hA hGs hGk hx hy (brB (fun hf => ?_) (fun ht2 => ?_))
        · refine s_yesNo (b := false) (md2 false ?_)
          unfold near
          rw [decide_eq_false en, hf]; rfl
        · refine s_yesNo (b := true) (md2 true ?_)
          unfold near
          rw [ht2, Bool.or_true]
