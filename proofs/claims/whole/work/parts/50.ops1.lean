theorem op_kind {gr_width : Int32} {gr_height : Int32} {gr_size : Int32} {gr_kinds : Nat → Int32} {gr_columns : Nat → Int32} {gr_rows : Nat → Int32} {gr_floorCells : Int64} {gr_clearCells : Int64} {gr_standCells : Int64} {gr_firstColumn : Int64} {gr_lastColumn : Int64} {pi_cells : Nat → Int32} {pi_facings : Nat → Int32} {pi_size : Int32} {ro_cells : Nat → Int32} {ro_lengths : Nat → Int32} {ro_shifts : Nat → Int32} {si_sightLaw : Int32} {si_sightRange : Int32} {mo_wide : Int32} {mo_tall : Int32} {mo_kind : Nat → Int32} {mo_law : Int32} {mo_range : Int32} {mo_pictures : Int32} {mo_pictureCell : Nat → Int32} {mo_facing : Nat → Int32} {mo_roundMany : Nat → Int32} {mo_round : Nat → Int32} {mo_shift : Nat → Int32} (hR : Rel gr_width gr_height gr_size gr_columns gr_rows gr_firstColumn gr_lastColumn gr_kinds gr_floorCells gr_clearCells gr_standCells pi_cells pi_facings pi_size ro_cells ro_lengths ro_shifts si_sightLaw si_sightRange mo_wide mo_tall mo_kind mo_law mo_range mo_pictures mo_pictureCell mo_facing mo_roundMany mo_round mo_shift) (a1 : Int32) : P_wh_kind gr_size gr_kinds a1 (fun r1 => P_mo_kind mo_wide mo_tall mo_kind a1 (fun r2 => r1 = r2 ∧ Rel gr_width gr_height gr_size gr_columns gr_rows gr_firstColumn gr_lastColumn gr_kinds gr_floorCells gr_clearCells gr_standCells pi_cells pi_facings pi_size ro_cells ro_lengths ro_shifts si_sightLaw si_sightRange mo_wide mo_tall mo_kind mo_law mo_range mo_pictures mo_pictureCell mo_facing mo_roundMany mo_round mo_shift)) := by
  obtain ⟨a, hA, hGs, hGk, hPi, hRo, hSi, hM⟩ := id hR
  obtain ⟨m1, m2, m3, m4, m5, m6, m7, m8, m9, m10, m11⟩ := id hM
  obtain ⟨hn4, hn⟩ := aN_le hA
  have hnw : aW a * aH a < 1073741824 := by unfold aN at hn; omega
  unfold P_wh_kind
  refine s_gc hGs.2.2.1 (by omega) (brB (fun hf => ?_) (fun ht => ?_))
  · unfold P_mo_kind
    exact s_mc m1 m2 hnw (brF hf ⟨rfl, hR⟩)
  · obtain ⟨j, hj, rfl⟩ := isC_of (by omega) ht
    unfold P_gr_kindOf P_mo_kind
    refine ⟨vI (by omega) (by omega), s_mc m1 m2 hnw (brT ht ⟨vI (by omega) (by omega), ?_, hR⟩)⟩
    rw [cl (by omega), hGk.1 j hj, m3 j hj]
theorem op_law {gr_width : Int32} {gr_height : Int32} {gr_size : Int32} {gr_kinds : Nat → Int32} {gr_columns : Nat → Int32} {gr_rows : Nat → Int32} {gr_floorCells : Int64} {gr_clearCells : Int64} {gr_standCells : Int64} {gr_firstColumn : Int64} {gr_lastColumn : Int64} {pi_cells : Nat → Int32} {pi_facings : Nat → Int32} {pi_size : Int32} {ro_cells : Nat → Int32} {ro_lengths : Nat → Int32} {ro_shifts : Nat → Int32} {si_sightLaw : Int32} {si_sightRange : Int32} {mo_wide : Int32} {mo_tall : Int32} {mo_kind : Nat → Int32} {mo_law : Int32} {mo_range : Int32} {mo_pictures : Int32} {mo_pictureCell : Nat → Int32} {mo_facing : Nat → Int32} {mo_roundMany : Nat → Int32} {mo_round : Nat → Int32} {mo_shift : Nat → Int32} (hR : Rel gr_width gr_height gr_size gr_columns gr_rows gr_firstColumn gr_lastColumn gr_kinds gr_floorCells gr_clearCells gr_standCells pi_cells pi_facings pi_size ro_cells ro_lengths ro_shifts si_sightLaw si_sightRange mo_wide mo_tall mo_kind mo_law mo_range mo_pictures mo_pictureCell mo_facing mo_roundMany mo_round mo_shift) (a1 : Int32) : P_wh_law si_sightLaw a1 (fun r1 si_sightLaw' => P_mo_law mo_law a1 (fun r2 mo_law' => r1 = r2 ∧ Rel gr_width gr_height gr_size gr_columns gr_rows gr_firstColumn gr_lastColumn gr_kinds gr_floorCells gr_clearCells gr_standCells pi_cells pi_facings pi_size ro_cells ro_lengths ro_shifts si_sightLaw' si_sightRange mo_wide mo_tall mo_kind mo_law' mo_range mo_pictures mo_pictureCell mo_facing mo_roundMany mo_round mo_shift)) := by
  obtain ⟨a, hA, hGs, hGk, hPi, hRo, hSi, hM⟩ := id hR
  obtain ⟨m1, m2, m3, m4, m5, m6, m7, m8, m9, m10, m11⟩ := id hM
  obtain ⟨hn4, hn⟩ := aN_le hA
  have hnw : aW a * aH a < 1073741824 := by unfold aN at hn; omega
  unfold P_wh_law
  refine chk (l := 0) (h := 2) rfl rfl (fun hf => ?_) (fun ht => ?_)
  · unfold P_mo_law
    exact s_in rfl rfl (brF hf ⟨rfl, hR⟩)
  · obtain ⟨j, hj, rfl⟩ := isR_of (h := 2) ht (by decide)
    unfold P_si_changeLaw P_mo_law
    refine s_in rfl rfl (brT ht ⟨hSi.1.trans m4.symm, (aW a, aH a, aKd a, j, aRg a, aNp a, aPc a, aPf a, aRl a, aRc a, aRs a), ?_, hGs, hGk, hPi, hRo, ⟨rfl, hSi.2⟩, m1, m2, m3, rfl, m5, m6, m7, m8, m9, m10, m11⟩)
    obtain ⟨b1, b2, b3, b4, b5⟩ := hA
    exact ⟨b1, b2, b3, hj, b5⟩
theorem op_range {gr_width : Int32} {gr_height : Int32} {gr_size : Int32} {gr_kinds : Nat → Int32} {gr_columns : Nat → Int32} {gr_rows : Nat → Int32} {gr_floorCells : Int64} {gr_clearCells : Int64} {gr_standCells : Int64} {gr_firstColumn : Int64} {gr_lastColumn : Int64} {pi_cells : Nat → Int32} {pi_facings : Nat → Int32} {pi_size : Int32} {ro_cells : Nat → Int32} {ro_lengths : Nat → Int32} {ro_shifts : Nat → Int32} {si_sightLaw : Int32} {si_sightRange : Int32} {mo_wide : Int32} {mo_tall : Int32} {mo_kind : Nat → Int32} {mo_law : Int32} {mo_range : Int32} {mo_pictures : Int32} {mo_pictureCell : Nat → Int32} {mo_facing : Nat → Int32} {mo_roundMany : Nat → Int32} {mo_round : Nat → Int32} {mo_shift : Nat → Int32} (hR : Rel gr_width gr_height gr_size gr_columns gr_rows gr_firstColumn gr_lastColumn gr_kinds gr_floorCells gr_clearCells gr_standCells pi_cells pi_facings pi_size ro_cells ro_lengths ro_shifts si_sightLaw si_sightRange mo_wide mo_tall mo_kind mo_law mo_range mo_pictures mo_pictureCell mo_facing mo_roundMany mo_round mo_shift) (a1 : Int32) : P_wh_range si_sightRange a1 (fun r1 si_sightRange' => P_mo_range mo_range a1 (fun r2 mo_range' => r1 = r2 ∧ Rel gr_width gr_height gr_size gr_columns gr_rows gr_firstColumn gr_lastColumn gr_kinds gr_floorCells gr_clearCells gr_standCells pi_cells pi_facings pi_size ro_cells ro_lengths ro_shifts si_sightLaw si_sightRange' mo_wide mo_tall mo_kind mo_law mo_range' mo_pictures mo_pictureCell mo_facing mo_roundMany mo_round mo_shift)) := by
  obtain ⟨a, hA, hGs, hGk, hPi, hRo, hSi, hM⟩ := id hR
  obtain ⟨m1, m2, m3, m4, m5, m6, m7, m8, m9, m10, m11⟩ := id hM
  obtain ⟨hn4, hn⟩ := aN_le hA
  have hnw : aW a * aH a < 1073741824 := by unfold aN at hn; omega
  unfold P_wh_range
  refine chk (l := 1) (h := 8) rfl rfl (fun hf => ?_) (fun ht => ?_)
  · unfold P_mo_range
    exact s_in rfl rfl (brF hf ⟨rfl, hR⟩)
  · obtain ⟨j, hj1, hj, rfl⟩ := isR_of2 (l := 1) (h := 8) ht (by decide)
    unfold P_si_changeRange P_mo_range
    refine s_in rfl rfl (brT ht ⟨hSi.2.trans m5.symm, (aW a, aH a, aKd a, aLw a, j, aNp a, aPc a, aPf a, aRl a, aRc a, aRs a), ?_, hGs, hGk, hPi, hRo, ⟨hSi.1, rfl⟩, m1, m2, m3, m4, rfl, m6, m7, m8, m9, m10, m11⟩)
    obtain ⟨b1, b2, b3, b4, b5, b6⟩ := hA
    exact ⟨b1, b2, b3, b4, ⟨hj1, hj⟩, b6⟩
theorem op_about {gr_width : Int32} {gr_height : Int32} {gr_size : Int32} {gr_kinds : Nat → Int32} {gr_columns : Nat → Int32} {gr_rows : Nat → Int32} {gr_floorCells : Int64} {gr_clearCells : Int64} {gr_standCells : Int64} {gr_firstColumn : Int64} {gr_lastColumn : Int64} {pi_cells : Nat → Int32} {pi_facings : Nat → Int32} {pi_size : Int32} {ro_cells : Nat → Int32} {ro_lengths : Nat → Int32} {ro_shifts : Nat → Int32} {si_sightLaw : Int32} {si_sightRange : Int32} {mo_wide : Int32} {mo_tall : Int32} {mo_kind : Nat → Int32} {mo_law : Int32} {mo_range : Int32} {mo_pictures : Int32} {mo_pictureCell : Nat → Int32} {mo_facing : Nat → Int32} {mo_roundMany : Nat → Int32} {mo_round : Nat → Int32} {mo_shift : Nat → Int32} (hR : Rel gr_width gr_height gr_size gr_columns gr_rows gr_firstColumn gr_lastColumn gr_kinds gr_floorCells gr_clearCells gr_standCells pi_cells pi_facings pi_size ro_cells ro_lengths ro_shifts si_sightLaw si_sightRange mo_wide mo_tall mo_kind mo_law mo_range mo_pictures mo_pictureCell mo_facing mo_roundMany mo_round mo_shift) (a1 a2 : Int32) : P_wh_about pi_cells pi_facings pi_size a1 a2 (fun r1 => P_mo_about mo_pictures mo_pictureCell mo_facing a1 a2 (fun r2 => r1 = r2 ∧ Rel gr_width gr_height gr_size gr_columns gr_rows gr_firstColumn gr_lastColumn gr_kinds gr_floorCells gr_clearCells gr_standCells pi_cells pi_facings pi_size ro_cells ro_lengths ro_shifts si_sightLaw si_sightRange mo_wide mo_tall mo_kind mo_law mo_range mo_pictures mo_pictureCell mo_facing mo_roundMany mo_round mo_shift)) := by
  obtain ⟨a, hA, hGs, hGk, hPi, hRo, hSi, hM⟩ := id hR
  obtain ⟨m1, m2, m3, m4, m5, m6, m7, m8, m9, m10, m11⟩ := id hM
  obtain ⟨hn4, hn⟩ := aN_le hA
  have hnw : aW a * aH a < 1073741824 := by unfold aN at hn; omega
  have hp : aNp a ≤ 8 := hA.2.2.2.2.2.1
  unfold P_wh_about
  refine s_pi hPi.1 (by omega) (brB (fun hf => ?_) (fun ht => ?_))
  · unfold P_mo_about
    exact s_mp m6 (by omega) (brF hf ⟨rfl, hR⟩)
  · obtain ⟨j, hj, rfl⟩ := isC_of (by omega) ht
    unfold P_pi_cellOf P_pi_facingOf P_mo_about
    refine ⟨fun q => ⟨vI (by omega) (by omega), s_mp m6 (by omega) (brT ht (br_t q ⟨vI (by omega) (by omega), ?_, hR⟩))⟩, fun q => ⟨fun q2 => ⟨vI (by omega) (by omega), s_mp m6 (by omega) (brT ht (br_f q (br_t q2 ⟨vI (by omega) (by omega), ?_, hR⟩)))⟩, fun q2 => s_mp m6 (by omega) (brT ht (br_f q (br_f q2 ⟨rfl, hR⟩)))⟩⟩
    · rw [cl (by omega), hPi.2.1 j hj, m7 j hj]
    · rw [cl (by omega), hPi.2.2 j hj, m8 j hj]
