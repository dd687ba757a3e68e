theorem op_hall {gr_width : Int32} {gr_height : Int32} {gr_size : Int32} {gr_kinds : Nat → Int32} {gr_columns : Nat → Int32} {gr_rows : Nat → Int32} {gr_floorCells : Int64} {gr_clearCells : Int64} {gr_standCells : Int64} {gr_firstColumn : Int64} {gr_lastColumn : Int64} {pi_cells : Nat → Int32} {pi_facings : Nat → Int32} {pi_size : Int32} {ro_cells : Nat → Int32} {ro_lengths : Nat → Int32} {ro_shifts : Nat → Int32} {si_sightLaw : Int32} {si_sightRange : Int32} {mo_wide : Int32} {mo_tall : Int32} {mo_kind : Nat → Int32} {mo_law : Int32} {mo_range : Int32} {mo_pictures : Int32} {mo_pictureCell : Nat → Int32} {mo_facing : Nat → Int32} {mo_roundMany : Nat → Int32} {mo_round : Nat → Int32} {mo_shift : Nat → Int32} (hR : Rel gr_width gr_height gr_size gr_columns gr_rows gr_firstColumn gr_lastColumn gr_kinds gr_floorCells gr_clearCells gr_standCells pi_cells pi_facings pi_size ro_cells ro_lengths ro_shifts si_sightLaw si_sightRange mo_wide mo_tall mo_kind mo_law mo_range mo_pictures mo_pictureCell mo_facing mo_roundMany mo_round mo_shift) (a1 a2 : Int32) : P_wh_hall gr_width gr_height gr_size gr_kinds gr_columns gr_rows gr_floorCells gr_clearCells gr_standCells gr_firstColumn gr_lastColumn pi_size ro_lengths ro_shifts a1 a2 (fun r1 gr_width' gr_height' gr_size' gr_kinds' gr_columns' gr_rows' gr_floorCells' gr_clearCells' gr_standCells' gr_firstColumn' gr_lastColumn' pi_size' ro_lengths' ro_shifts' => P_mo_hall mo_wide mo_tall mo_kind mo_pictures mo_roundMany mo_shift a1 a2 (fun r2 mo_wide' mo_tall' mo_kind' mo_pictures' mo_roundMany' mo_shift' => r1 = r2 ∧ Rel gr_width' gr_height' gr_size' gr_columns' gr_rows' gr_firstColumn' gr_lastColumn' gr_kinds' gr_floorCells' gr_clearCells' gr_standCells' pi_cells pi_facings pi_size' ro_cells ro_lengths' ro_shifts' si_sightLaw si_sightRange mo_wide' mo_tall' mo_kind' mo_law mo_range mo_pictures' mo_pictureCell mo_facing mo_roundMany' mo_round mo_shift')) := by
  obtain ⟨a, hA, hGs, hGk, hPi, hRo, hSi, hM⟩ := id hR
  obtain ⟨m1, m2, m3, m4, m5, m6, m7, m8, m9, m10, m11⟩ := id hM
  obtain ⟨hn4, hn⟩ := aN_le hA
  have hnw : aW a * aH a < 1073741824 := by unfold aN at hn; omega
  unfold P_wh_hall
  refine s_isSide (brB (fun hf => ?_) (fun ht => ?_))
  · unfold P_mo_hall
    exact s_in rfl rfl (brF hf ⟨rfl, hR⟩)
  · refine s_isSide (brB (fun hf2 => ?_) (fun ht2 => ?_))
    · unfold P_mo_hall
      exact s_in rfl rfl (brT ht (s_in rfl rfl (brF hf2 ⟨rfl, hR⟩)))
    · obtain ⟨w, hw1, hw2, rfl⟩ := isR_of2 (l := 2) (h := 8) ht (by decide)
      obtain ⟨h, hh1, hh2, rfl⟩ := isR_of2 (l := 2) (h := 8) ht2 (by decide)
      refine s_layOut (a := (w, h, fun _ => 0, aLw a, aRg a, 0, aPc a, aPf a, fun _ => 0, aRc a, fun _ => 0)) ⟨hw1, hw2⟩ ⟨hh1, hh2⟩ (fun _ => rfl) (fun gw gh gz gk gc gr f c s fc lc hz g1 g2 => ?_)
      unfold P_pi_clear P_ro_clear P_gr_size P_mo_hall
      refine s_in rfl rfl (brT ht (s_in rfl rfl (brT ht2 ?_)))
      refine s_layHall (w := w) (h := h) (fun mk rm sh e1 e2 e3 => ⟨?_, (w, h, fun _ => 0, aLw a, aRg a, 0, aPc a, aPf a, fun _ => 0, aRc a, fun _ => 0), ?_, g1, g2, ⟨rfl, fun p hp => absurd hp (Nat.not_lt_zero p), fun p hp => absurd hp (Nat.not_lt_zero p)⟩, ⟨?_, ?_, fun k i _ hi => absurd hi (Nat.not_lt_zero i)⟩, hSi, rfl, rfl, ?_, m4, m5, rfl, fun p hp => absurd hp (Nat.not_lt_zero p), fun p hp => absurd hp (Nat.not_lt_zero p), e2, fun k i _ hi => absurd hi (Nat.not_lt_zero i), e3⟩)
      · rw [hz, pk_mul]; rfl
      · obtain ⟨b1, b2, b3, b4, b5, b6⟩ := hA
        exact ⟨⟨hw1, hw2⟩, ⟨hh1, hh2⟩, fun c _ => Nat.zero_le 3, b4, b5, Nat.zero_le 8, fun p hp => absurd hp (Nat.not_lt_zero p), fun k _ => Nat.zero_le 6, fun k i _ hi => absurd hi (Nat.not_lt_zero i), fun k _ => Nat.zero_le 5⟩
      · intro k hk; simp only [filli, hk, if_true]; rfl
      · intro k hk; simp only [filli, hk, if_true]; rfl
      · intro c hc
        have : w * h ≤ 64 := Nat.mul_le_mul hw2 hh2
        exact e1 c (by have hc2 : c < w * h := hc; omega)
theorem op_init : P_gr_layOut 0 0 0 (fun _ => 0) (fun _ => 0) (fun _ => 0) 0 0 0 0 0 5 5 (fun gr_width gr_height gr_size gr_kinds gr_columns gr_rows gr_floorCells gr_clearCells gr_standCells gr_firstColumn gr_lastColumn => P_mo_layHall 0 0 (fun _ => 0) 0 (fun _ => 0) (fun _ => 0) 5 5 (fun mo_wide mo_tall mo_kind mo_pictures mo_roundMany mo_shift => Rel gr_width gr_height gr_size gr_columns gr_rows gr_firstColumn gr_lastColumn gr_kinds gr_floorCells gr_clearCells gr_standCells (fun _ => 0) (fun _ => 0) 0 (fun _ => 0) (fun _ => 0) (fun _ => 0) 2 8 mo_wide mo_tall mo_kind 2 8 mo_pictures (fun _ => 0) (fun _ => 0) mo_roundMany (fun _ => 0) mo_shift)) := by
  refine s_layOut (a := (5, 5, fun _ => 0, 2, 8, 0, fun _ => 0, fun _ => 0, fun _ => 0, fun _ _ => 0, fun _ => 0)) (by decide) (by decide) (fun _ => rfl) (fun gw gh gz gk gc gr f c s fc lc hz g1 g2 => ?_)
  refine s_layHall (w := 5) (h := 5) (fun mk rm sh e1 e2 e3 => ⟨(5, 5, fun _ => 0, 2, 8, 0, fun _ => 0, fun _ => 0, fun _ => 0, fun _ _ => 0, fun _ => 0), ?_, g1, g2, ⟨rfl, fun p hp => absurd hp (Nat.not_lt_zero p), fun p hp => absurd hp (Nat.not_lt_zero p)⟩, ⟨fun _ _ => rfl, fun _ _ => rfl, fun k i _ hi => absurd hi (Nat.not_lt_zero i)⟩, ⟨rfl, rfl⟩, rfl, rfl, ?_, rfl, rfl, rfl, fun p hp => absurd hp (Nat.not_lt_zero p), fun p hp => absurd hp (Nat.not_lt_zero p), e2, fun k i _ hi => absurd hi (Nat.not_lt_zero i), e3⟩)
  · exact ⟨by decide, by decide, fun c _ => Nat.zero_le 3, by decide, by decide, Nat.zero_le 8, fun p hp => absurd hp (Nat.not_lt_zero p), fun k _ => Nat.zero_le 6, fun k i _ hi => absurd hi (Nat.not_lt_zero i), fun k _ => Nat.zero_le 5⟩
  · intro c hc
    have hc2 : c < 25 := hc
    exact e1 c (by omega)
theorem op_cell {gr_width : Int32} {gr_height : Int32} {gr_size : Int32} {gr_kinds : Nat → Int32} {gr_columns : Nat → Int32} {gr_rows : Nat → Int32} {gr_floorCells : Int64} {gr_clearCells : Int64} {gr_standCells : Int64} {gr_firstColumn : Int64} {gr_lastColumn : Int64} {pi_cells : Nat → Int32} {pi_facings : Nat → Int32} {pi_size : Int32} {ro_cells : Nat → Int32} {ro_lengths : Nat → Int32} {ro_shifts : Nat → Int32} {si_sightLaw : Int32} {si_sightRange : Int32} {mo_wide : Int32} {mo_tall : Int32} {mo_kind : Nat → Int32} {mo_law : Int32} {mo_range : Int32} {mo_pictures : Int32} {mo_pictureCell : Nat → Int32} {mo_facing : Nat → Int32} {mo_roundMany : Nat → Int32} {mo_round : Nat → Int32} {mo_shift : Nat → Int32} (hR : Rel gr_width gr_height gr_size gr_columns gr_rows gr_firstColumn gr_lastColumn gr_kinds gr_floorCells gr_clearCells gr_standCells pi_cells pi_facings pi_size ro_cells ro_lengths ro_shifts si_sightLaw si_sightRange mo_wide mo_tall mo_kind mo_law mo_range mo_pictures mo_pictureCell mo_facing mo_roundMany mo_round mo_shift) (a1 a2 : Int32) : P_wh_cell gr_size gr_kinds gr_floorCells gr_clearCells gr_standCells a1 a2 (fun r1 gr_kinds' gr_floorCells' gr_clearCells' gr_standCells' => P_mo_cell mo_wide mo_tall mo_kind a1 a2 (fun r2 mo_kind' => r1 = r2 ∧ Rel gr_width gr_height gr_size gr_columns gr_rows gr_firstColumn gr_lastColumn gr_kinds' gr_floorCells' gr_clearCells' gr_standCells' pi_cells pi_facings pi_size ro_cells ro_lengths ro_shifts si_sightLaw si_sightRange mo_wide mo_tall mo_kind' mo_law mo_range mo_pictures mo_pictureCell mo_facing mo_roundMany mo_round mo_shift)) := by
  obtain ⟨a, hA, hGs, hGk, hPi, hRo, hSi, hM⟩ := id hR
  obtain ⟨m1, m2, m3, m4, m5, m6, m7, m8, m9, m10, m11⟩ := id hM
  obtain ⟨hn4, hn⟩ := aN_le hA
  have hnw : aW a * aH a < 1073741824 := by unfold aN at hn; omega
  unfold P_wh_cell
  refine s_gc hGs.2.2.1 (by omega) (brB (fun hf => ?_) (fun ht => ?_))
  · unfold P_mo_cell
    exact s_mc m1 m2 hnw (brF hf ⟨rfl, hR⟩)
  · refine chk (l := 0) (h := 3) rfl rfl (fun hf2 => ?_) (fun ht2 => ?_)
    · unfold P_mo_cell
      exact s_mc m1 m2 hnw (brT ht (s_in rfl rfl (brF hf2 ⟨rfl, hR⟩)))
    · obtain ⟨j, hj, rfl⟩ := isC_of (by omega) ht
      obtain ⟨k, hk, rfl⟩ := isR_of (h := 3) ht2 (by decide)
      unfold P_gr_kindOf P_gr_change
      refine ⟨vI (by omega) (by omega), vI (by omega) (by omega), ?_⟩
      have hkd : ∀ c, c < aN a → upd gr_kinds j (nI k) c = nI ((fun q => if q = j then k else aKd a q) c) := by
        intro c hc
        by_cases e : c = j
        · subst e; rw [u_s]; simp
        · rw [u_n e, hGk.1 c hc]; simp [e]
      have hkm : ∀ c, c < aN a → upd mo_kind j (nI k) c = nI ((fun q => if q = j then k else aKd a q) c) := by
        intro c hc
        by_cases e : c = j
        · subst e; rw [u_s]; simp
        · rw [u_n e, m3 c hc]; simp [e]
      have hk3 : ∀ c, c < aN a → (if c = j then k else aKd a c) ≤ 3 := by
        intro c hc
        by_cases e : c = j
        · simp [e, hk]
        · simp [e]; exact hA.2.2.1 c hc
      rw [cl (by omega)]
      refine s_sortKinds (a := (aW a, aH a, fun q => if q = j then k else aKd a q, aLw a, aRg a, aNp a, aPc a, aPf a, aRl a, aRc a, aRs a)) hGs.2.2.1 hn hkd hk3 (fun f c s g2 => ?_)
      unfold P_mo_cell
      refine s_mc m1 m2 hnw (brT ht (s_in rfl rfl (brT ht2 ⟨vI (by omega) (by omega), ?_⟩)))
      rintro _ rfl
      rw [cl (by omega)]
      refine ⟨vI (by omega) (by omega), by rw [hGk.1 j hj, m3 j hj], (aW a, aH a, fun q => if q = j then k else aKd a q, aLw a, aRg a, aNp a, aPc a, aPf a, aRl a, aRc a, aRs a), ?_, hGs, g2, hPi, hRo, hSi, m1, m2, hkm, m4, m5, m6, m7, m8, m9, m10, m11⟩
      obtain ⟨b1, b2, b3, b4⟩ := hA
      exact ⟨b1, b2, hk3, b4⟩
theorem op_picture {gr_width : Int32} {gr_height : Int32} {gr_size : Int32} {gr_kinds : Nat → Int32} {gr_columns : Nat → Int32} {gr_rows : Nat → Int32} {gr_floorCells : Int64} {gr_clearCells : Int64} {gr_standCells : Int64} {gr_firstColumn : Int64} {gr_lastColumn : Int64} {pi_cells : Nat → Int32} {pi_facings : Nat → Int32} {pi_size : Int32} {ro_cells : Nat → Int32} {ro_lengths : Nat → Int32} {ro_shifts : Nat → Int32} {si_sightLaw : Int32} {si_sightRange : Int32} {mo_wide : Int32} {mo_tall : Int32} {mo_kind : Nat → Int32} {mo_law : Int32} {mo_range : Int32} {mo_pictures : Int32} {mo_pictureCell : Nat → Int32} {mo_facing : Nat → Int32} {mo_roundMany : Nat → Int32} {mo_round : Nat → Int32} {mo_shift : Nat → Int32} (hR : Rel gr_width gr_height gr_size gr_columns gr_rows gr_firstColumn gr_lastColumn gr_kinds gr_floorCells gr_clearCells gr_standCells pi_cells pi_facings pi_size ro_cells ro_lengths ro_shifts si_sightLaw si_sightRange mo_wide mo_tall mo_kind mo_law mo_range mo_pictures mo_pictureCell mo_facing mo_roundMany mo_round mo_shift) (a1 a2 : Int32) : P_wh_picture gr_size gr_floorCells pi_cells pi_facings pi_size a1 a2 (fun r1 pi_cells' pi_facings' pi_size' => P_mo_picture mo_wide mo_tall mo_kind mo_pictures mo_pictureCell mo_facing a1 a2 (fun r2 mo_pictures' mo_pictureCell' mo_facing' => r1 = r2 ∧ Rel gr_width gr_height gr_size gr_columns gr_rows gr_firstColumn gr_lastColumn gr_kinds gr_floorCells gr_clearCells gr_standCells pi_cells' pi_facings' pi_size' ro_cells ro_lengths ro_shifts si_sightLaw si_sightRange mo_wide mo_tall mo_kind mo_law mo_range mo_pictures' mo_pictureCell' mo_facing' mo_roundMany mo_round mo_shift)) := by
  obtain ⟨a, hA, hGs, hGk, hPi, hRo, hSi, hM⟩ := id hR
  obtain ⟨m1, m2, m3, m4, m5, m6, m7, m8, m9, m10, m11⟩ := id hM
  obtain ⟨hn4, hn⟩ := aN_le hA
  have hnw : aW a * aH a < 1073741824 := by unfold aN at hn; omega
  have hp : aNp a ≤ 8 := hA.2.2.2.2.2.1
  unfold P_wh_picture
  refine s_gc hGs.2.2.1 (by omega) (brB (fun hf => ?_) (fun ht => ?_))
  · unfold P_mo_picture
    exact s_mc m1 m2 hnw (brF hf ⟨rfl, hR⟩)
  · refine chk (l := 0) (h := 3) rfl rfl (fun hf2 => ?_) (fun ht2 => ?_)
    · unfold P_mo_picture
      exact s_mc m1 m2 hnw (brT ht (s_in rfl rfl (brF hf2 ⟨rfl, hR⟩)))
    · obtain ⟨j, hj, rfl⟩ := isC_of (by omega) ht
      obtain ⟨k, hk, rfl⟩ := isR_of (h := 3) ht2 (by decide)
      have h3 := hA.2.2.1 j hj
      refine s_isFloor hGk hn hj (brB (fun hf3 => ?_) (fun ht3 => ?_))
      · unfold P_mo_picture
        refine s_mc m1 m2 hnw (brT ht (s_in rfl rfl (brT ht2 ⟨vI (by omega) (by omega), br_f ?_ ⟨rfl, hR⟩⟩)))
        rw [cl (by omega), m3 j hj]
        intro q
        rw [show flr a j = true by unfold flr; rw [(kd0 h3 (k := 0) (by omega)).mp q]; rfl] at hf3
        cases hf3
      · have hz : mo_kind (nI j).toNatClampNeg = 0 := by
          rw [cl (by omega), m3 j hj]
          have : aKd a j = 0 := by unfold flr at ht3; simpa using ht3
          rw [this]; rfl
        unfold P_pi_hang
        rcases Nat.lt_or_ge (aNp a) 8 with q | q
        · refine br_t (by rw [hPi.1]; exact nI_lt (b := 8) q (by omega)) ?_
          rw [hPi.1]
          refine ⟨vI q (by omega), vI q (by omega), ?_⟩
          unfold P_mo_picture
          refine s_mc m1 m2 hnw (brT ht (s_in rfl rfl (brT ht2 ⟨vI (by omega) (by omega), br_t hz (br_f (by rw [m6]; exact fun e => by have := (nI_eq (b := 8) (by omega) (by omega)).mp e; omega) ?_)⟩)))
          rw [m6]
          refine ⟨vI q (by omega), vI q (by omega), rfl, (aW a, aH a, aKd a, aLw a, aRg a, aNp a + 1, (fun p => if p = aNp a then j else aPc a p), (fun p => if p = aNp a then k else aPf a p), aRl a, aRc a, aRs a), ?_, hGs, hGk, ⟨nI_1 _, ?_, ?_⟩, hRo, hSi, m1, m2, m3, m4, m5, nI_1 _, ?_, ?_, m9, m10, m11⟩
          · obtain ⟨b1, b2, b3, b4, b5, b6, b7, b8⟩ := hA
            refine ⟨b1, b2, b3, b4, b5, q, fun p hp2 => ?_, b8⟩
            have hp3 : p < aNp a + 1 := hp2
            show (if p = aNp a then j else aPc a p) < aN a ∧ (if p = aNp a then k else aPf a p) < 4
            by_cases e : p = aNp a
            · simp only [e, if_true]; exact ⟨hj, by omega⟩
            · simp only [e, if_false]; exact b7 p (by omega)
          all_goals
            intro p hp2
            have hp3 : p < aNp a + 1 := hp2
            rw [cl (by omega)]
            by_cases e : p = aNp a
            · subst e; rw [u_s]; show _ = nI (if _ then _ else _); simp
            · rw [u_n e]; show _ = nI (if _ then _ else _); simp only [e, if_false]
              first | exact hPi.2.1 p (by omega) | exact hPi.2.2 p (by omega) | exact m7 p (by omega) | exact m8 p (by omega)
        · have e8 : aNp a = 8 := by omega
          refine br_f (by rw [hPi.1]; exact nI_nlt (b := 8) q (by omega)) ?_
          unfold P_mo_picture
          exact s_mc m1 m2 hnw (brT ht (s_in rfl rfl (brT ht2 ⟨vI (by omega) (by omega), br_t hz (br_t (by rw [m6, e8]; rfl) ⟨rfl, hR⟩)⟩)))
