set_option maxHeartbeats 4000000 in
set_option maxRecDepth 100000 in
theorem law_loop {p : Program} {l : Launch} {e : Env} {s : State} {m : MethodId} {below : List Frame} {meth : Method} {c : Code} {b L : Nat} {xs : Nat → Int32} {D : va_G} {cI cL cZ : ClassId} {mx my : Nat} {ad bd : Nat → Nat} (C0 : lw_At p s m meth c b L xs) (hLb : L ≤ 2560) (hK : KX D cI cL cZ mx my (fun q : Nat => s.heap.size ≤ q) s) : ∀ (n j : Nat) (ga_sightings : Nat → Int64) (ga_bestShifts : Nat → Int32) (ga_commonLength : Int32) (ga_allTimes : Int64) (gr_width : Int32) (gr_height : Int32) (gr_size : Int32) (gr_kinds : Nat → Int32) (gr_before : Nat → Int32) (gr_columns : Nat → Int32) (gr_rows : Nat → Int32) (gr_floorCells : Int64) (gr_clearCells : Int64) (gr_standCells : Int64) (gr_firstColumn : Int64) (gr_lastColumn : Int64) (pi_cells : Nat → Int32) (pi_facings : Nat → Int32) (pi_sets : Nat → Int32) (pi_size : Int32) (po_needs : Nat → Int32) (ro_cells : Nat → Int32) (ro_lengths : Nat → Int32) (ro_shifts : Nat → Int32) (si_sightLaw : Int32) (si_sightRange : Int32) (th_unseen : Nat → Int64) (th_goals : Nat → Int64) (th_commonLength : Int32) (tr_marks : Nat → Int32) (tr_visited : Nat → Int64) (tr_size : Int32) (wh_places : Nat → Int32) (mo_wide : Int32) (mo_tall : Int32) (mo_kind : Nat → Int32) (mo_law : Int32) (mo_range : Int32) (mo_queue : Nat → Int32) (mo_far : Nat → Int32) (mo_pictures : Int32) (mo_pictureCell : Nat → Int32) (mo_facing : Nat → Int32) (mo_sights : Nat → Int32) (mo_fewest : Nat → Int32) (mo_posts : Nat → Int32) (mo_postMany : Int32) (mo_left : Nat → Int32) (mo_roundMany : Nat → Int32) (mo_round : Nat → Int32) (mo_shift : Nat → Int32) (mo_thief : Nat → Int32) (mo_danger : Nat → Int32) (mo_old : Nat → Int32), j ≤ L → L + 1 ≤ j + n → Rel gr_width gr_height gr_size gr_columns gr_rows gr_firstColumn gr_lastColumn gr_kinds gr_floorCells gr_clearCells gr_standCells pi_cells pi_facings pi_size ro_cells ro_lengths ro_shifts si_sightLaw si_sightRange mo_wide mo_tall mo_kind mo_law mo_range mo_pictures mo_pictureCell mo_facing mo_roundMany mo_round mo_shift → ∀ (H : Heap) (locs : List Loc), va_P D vwCl (wdC cI cL cZ ad ga_sightings ga_bestShifts ga_commonLength ga_allTimes gr_width gr_height gr_size gr_kinds gr_before gr_columns gr_rows gr_floorCells gr_clearCells gr_standCells gr_firstColumn gr_lastColumn pi_cells pi_facings pi_sets pi_size po_needs ro_cells ro_lengths ro_shifts si_sightLaw si_sightRange th_unseen th_goals th_commonLength tr_marks tr_visited tr_size wh_places ++ wdM cI cL cZ bd mo_wide mo_tall mo_kind mo_law mo_range mo_queue mo_far mo_pictures mo_pictureCell mo_facing mo_sights mo_fewest mo_posts mo_postMany mo_left mo_roundMany mo_round mo_shift mo_thief mo_danger mo_old) H → va_D (fun q : Nat => s.heap.size ≤ q) (wdC cI cL cZ ad ga_sightings ga_bestShifts ga_commonLength ga_allTimes gr_width gr_height gr_size gr_kinds gr_before gr_columns gr_rows gr_floorCells gr_clearCells gr_standCells gr_firstColumn gr_lastColumn pi_cells pi_facings pi_sets pi_size po_needs ro_cells ro_lengths ro_shifts si_sightLaw si_sightRange th_unseen th_goals th_commonLength tr_marks tr_visited tr_size wh_places ++ wdM cI cL cZ bd mo_wide mo_tall mo_kind mo_law mo_range mo_queue mo_far mo_pictures mo_pictureCell mo_facing mo_sights mo_fewest mo_posts mo_postMany mo_left mo_roundMany mo_round mo_shift mo_thief mo_danger mo_old) → va_S (fun q : Nat => s.heap.size ≤ q) s.heap H locs → ∀ (ls : Array Slot), lv_has ls 4 [(0, .ref b), (1, .ref (ad 9)), (2, .ref (bd 0)), (3, .int (nI j))] → W p l e room_1 s m #[Value.ref b] below meth c H locs 44 128720 (lw_Z below #[Value.ref b] s) (F0 m 18 ls []) := by
  obtain ⟨hx, hb, hr, hml, hown, hts, hX, hbl, hlocks, hgv⟩ := id C0
  have hbA : ¬ (fun q : Nat => s.heap.size ≤ q) b := Nat.not_le.mpr hbl
  intro n
  induction n with
  | zero => intro j; intros; omega
  | succ n ih =>
    intro j ga_sightings ga_bestShifts ga_commonLength ga_allTimes gr_width gr_height gr_size gr_kinds gr_before gr_columns gr_rows gr_floorCells gr_clearCells gr_standCells gr_firstColumn gr_lastColumn pi_cells pi_facings pi_sets pi_size po_needs ro_cells ro_lengths ro_shifts si_sightLaw si_sightRange th_unseen th_goals th_commonLength tr_marks tr_visited tr_size wh_places mo_wide mo_tall mo_kind mo_law mo_range mo_queue mo_far mo_pictures mo_pictureCell mo_facing mo_sights mo_fewest mo_posts mo_postMany mo_left mo_roundMany mo_round mo_shift mo_thief mo_danger mo_old hj hn hR H locs hP hD hS ls hl
    refine lv_iload_n hx hb dL_law_18 rfl (lv_at hl 3 rfl) ?_
    refine lv_aload_n hx hb dL_law_19 rfl (lv_at hl 0 rfl) ?_
    refine va_slen hx hb hX hbl hbA hS dL_law_20 ?_
    refine lv_iconst (v := 5) hx hb dL_law_21 (by decide) ?_
    refine lv_isub hx hb dL_law_22 ?_
    have hT1 : (nI L - nI 5).toInt = (L : Int) - 5 := pk_sub_toInt (by omega) (by omega)
    have hT2 : (nI j).toInt = (j : Int) := nI_toInt (by omega)
    refine lv_icmp_gt (tgt := 1055) hx hb dL_law_23 (by decide) (fun hc => ?_) (fun hc => ?_)
    · refine lv_iconst (v := 1) hx hb dL_law_1055 (by decide) ?_
      refine va_forget (fun q hq => hS.2.2 q hq) ?_
      refine W.widen (k := 600000) (n := 7302250) (by decide) (by decide) ?_
      exact lw_ret hx hb hr hlocks dL_law_1056
    · have hj5 : j + 5 ≤ L := by
        have h1 : ¬ (nI L - nI 5).toInt < (nI j).toInt := fun q => hc (Int32.lt_iff_toInt_lt.mpr q)
        rw [hT1, hT2] at h1
        omega
      refine lv_aload_n hx hb dL_law_26 rfl (lv_at hl 0 rfl) ?_
      refine lv_iload_n hx hb dL_law_27 rfl (lv_at hl 3 rfl) ?_
      refine va_sld hx hb hX hbl hbA hS (vp_in_nI (by omega) (by omega)) dL_law_28 ?_
      refine lv_bipush (v := 63) hx hb dL_law_29 (by decide) ?_
      refine lv_iand hx hb dL_law_31 ?_
      obtain ⟨v, hv, ev⟩ := pk_andE (xs (nI j).toNatClampNeg) (m := 63) 6 (by decide)
      rw [ev]
      have next : ∀ (ga_sightings : Nat → Int64) (ga_bestShifts : Nat → Int32) (ga_commonLength : Int32) (ga_allTimes : Int64) (gr_width : Int32) (gr_height : Int32) (gr_size : Int32) (gr_kinds : Nat → Int32) (gr_before : Nat → Int32) (gr_columns : Nat → Int32) (gr_rows : Nat → Int32) (gr_floorCells : Int64) (gr_clearCells : Int64) (gr_standCells : Int64) (gr_firstColumn : Int64) (gr_lastColumn : Int64) (pi_cells : Nat → Int32) (pi_facings : Nat → Int32) (pi_sets : Nat → Int32) (pi_size : Int32) (po_needs : Nat → Int32) (ro_cells : Nat → Int32) (ro_lengths : Nat → Int32) (ro_shifts : Nat → Int32) (si_sightLaw : Int32) (si_sightRange : Int32) (th_unseen : Nat → Int64) (th_goals : Nat → Int64) (th_commonLength : Int32) (tr_marks : Nat → Int32) (tr_visited : Nat → Int64) (tr_size : Int32) (wh_places : Nat → Int32) (mo_wide : Int32) (mo_tall : Int32) (mo_kind : Nat → Int32) (mo_law : Int32) (mo_range : Int32) (mo_queue : Nat → Int32) (mo_far : Nat → Int32) (mo_pictures : Int32) (mo_pictureCell : Nat → Int32) (mo_facing : Nat → Int32) (mo_sights : Nat → Int32) (mo_fewest : Nat → Int32) (mo_posts : Nat → Int32) (mo_postMany : Int32) (mo_left : Nat → Int32) (mo_roundMany : Nat → Int32) (mo_round : Nat → Int32) (mo_shift : Nat → Int32) (mo_thief : Nat → Int32) (mo_danger : Nat → Int32) (mo_old : Nat → Int32), Rel gr_width gr_height gr_size gr_columns gr_rows gr_firstColumn gr_lastColumn gr_kinds gr_floorCells gr_clearCells gr_standCells pi_cells pi_facings pi_size ro_cells ro_lengths ro_shifts si_sightLaw si_sightRange mo_wide mo_tall mo_kind mo_law mo_range mo_pictures mo_pictureCell mo_facing mo_roundMany mo_round mo_shift → ∀ (H : Heap) (locs : List Loc), va_P D vwCl (wdC cI cL cZ ad ga_sightings ga_bestShifts ga_commonLength ga_allTimes gr_width gr_height gr_size gr_kinds gr_before gr_columns gr_rows gr_floorCells gr_clearCells gr_standCells gr_firstColumn gr_lastColumn pi_cells pi_facings pi_sets pi_size po_needs ro_cells ro_lengths ro_shifts si_sightLaw si_sightRange th_unseen th_goals th_commonLength tr_marks tr_visited tr_size wh_places ++ wdM cI cL cZ bd mo_wide mo_tall mo_kind mo_law mo_range mo_queue mo_far mo_pictures mo_pictureCell mo_facing mo_sights mo_fewest mo_posts mo_postMany mo_left mo_roundMany mo_round mo_shift mo_thief mo_danger mo_old) H → va_D (fun q : Nat => s.heap.size ≤ q) (wdC cI cL cZ ad ga_sightings ga_bestShifts ga_commonLength ga_allTimes gr_width gr_height gr_size gr_kinds gr_before gr_columns gr_rows gr_floorCells gr_clearCells gr_standCells gr_firstColumn gr_lastColumn pi_cells pi_facings pi_sets pi_size po_needs ro_cells ro_lengths ro_shifts si_sightLaw si_sightRange th_unseen th_goals th_commonLength tr_marks tr_visited tr_size wh_places ++ wdM cI cL cZ bd mo_wide mo_tall mo_kind mo_law mo_range mo_queue mo_far mo_pictures mo_pictureCell mo_facing mo_sights mo_fewest mo_posts mo_postMany mo_left mo_roundMany mo_round mo_shift mo_thief mo_danger mo_old) → va_S (fun q : Nat => s.heap.size ≤ q) s.heap H locs → ∀ (ls : Array Slot), lv_has ls 4 [(0, .ref b), (1, .ref (ad 9)), (2, .ref (bd 0)), (3, .int (nI j))] → W p l e room_1 s m #[Value.ref b] below meth c H locs 44 128720 (lw_Z below #[Value.ref b] s) (F0 m 1049 ls []) := by
        intro ga_sightings ga_bestShifts ga_commonLength ga_allTimes gr_width gr_height gr_size gr_kinds gr_before gr_columns gr_rows gr_floorCells gr_clearCells gr_standCells gr_firstColumn gr_lastColumn pi_cells pi_facings pi_sets pi_size po_needs ro_cells ro_lengths ro_shifts si_sightLaw si_sightRange th_unseen th_goals th_commonLength tr_marks tr_visited tr_size wh_places mo_wide mo_tall mo_kind mo_law mo_range mo_queue mo_far mo_pictures mo_pictureCell mo_facing mo_sights mo_fewest mo_posts mo_postMany mo_left mo_roundMany mo_round mo_shift mo_thief mo_danger mo_old hR H locs hP hD hS ls hl
        refine lv_iinc (v := nI (j + 5)) (lv' := [(3, .int (nI (j + 5))), (0, .ref b), (1, .ref (ad 9)), (2, .ref (bd 0))]) hx hb dL_law_1049 hl (k := 3) rfl (nI_add j 5) (by decide) rfl (fun ls hl => ?_)
        refine lv_goto (tgt := 18) hx hb dL_law_1052 (by decide) ?_
        exact ih (j + 5) _ _ _ _ _ _ _ _ _ _ _ _ _ _ _ _ _ _ _ _ _ _ _ _ _ _ _ _ _ _ _ _ _ _ _ _ _ _ _ _ _ _ _ _ _ _ _ _ _ _ _ _ _ _ (by omega) (by omega) hR _ _ hP hD hS _ (lv_sub hl [1, 2, 3, 0] rfl)
      rcases (show v = 0 ∨ v = 1 ∨ v = 2 ∨ v = 3 ∨ v = 4 ∨ v = 5 ∨ v = 6 ∨ v = 7 ∨ v = 8 ∨ v = 9 ∨ v = 10 ∨ v = 11 ∨ v = 12 ∨ v = 13 ∨ v = 14 ∨ v = 15 ∨ v = 16 ∨ v = 17 ∨ v = 18 ∨ v = 19 ∨ v = 20 ∨ v = 21 ∨ v = 22 ∨ v = 23 ∨ v = 24 ∨ v = 25 ∨ v = 26 ∨ v = 27 ∨ v = 28 ∨ v = 29 ∨ v = 30 ∨ v = 31 ∨ v = 32 ∨ 33 ≤ v by omega) with rfl | rfl | rfl | rfl | rfl | rfl | rfl | rfl | rfl | rfl | rfl | rfl | rfl | rfl | rfl | rfl | rfl | rfl | rfl | rfl | rfl | rfl | rfl | rfl | rfl | rfl | rfl | rfl | rfl | rfl | rfl | rfl | rfl | hd
      · refine lv_tableIn (tgt := 180) hx hb dL_law_32 (by decide) (by decide) rfl (by decide) ?_
        exact law_0 C0 hLb hj5 hK hR hP hD hS hl next
      · refine lv_tableIn (tgt := 213) hx hb dL_law_32 (by decide) (by decide) rfl (by decide) ?_
        exact law_1 C0 hLb hj5 hK hR hP hD hS hl next
      · refine lv_tableIn (tgt := 246) hx hb dL_law_32 (by decide) (by decide) rfl (by decide) ?_
        exact law_2 C0 hLb hj5 hK hR hP hD hS hl next
      · refine lv_tableIn (tgt := 269) hx hb dL_law_32 (by decide) (by decide) rfl (by decide) ?_
        exact law_3 C0 hLb hj5 hK hR hP hD hS hl next
      · refine lv_tableIn (tgt := 292) hx hb dL_law_32 (by decide) (by decide) rfl (by decide) ?_
        exact law_4 C0 hLb hj5 hK hR hP hD hS hl next
      · refine lv_tableIn (tgt := 315) hx hb dL_law_32 (by decide) (by decide) rfl (by decide) ?_
        exact law_5 C0 hLb hj5 hK hR hP hD hS hl next
      · refine lv_tableIn (tgt := 348) hx hb dL_law_32 (by decide) (by decide) rfl (by decide) ?_
        exact law_6 C0 hLb hj5 hK hR hP hD hS hl next
      · refine lv_tableIn (tgt := 381) hx hb dL_law_32 (by decide) (by decide) rfl (by decide) ?_
        exact law_7 C0 hLb hj5 hK hR hP hD hS hl next
      · refine lv_tableIn (tgt := 404) hx hb dL_law_32 (by decide) (by decide) rfl (by decide) ?_
        exact law_8 C0 hLb hj5 hK hR hP hD hS hl next
      · refine lv_tableIn (tgt := 417) hx hb dL_law_32 (by decide) (by decide) rfl (by decide) ?_
        exact law_9 C0 hLb hj5 hK hR hP hD hS hl next
      · refine lv_tableIn (tgt := 450) hx hb dL_law_32 (by decide) (by decide) rfl (by decide) ?_
        exact law_10 C0 hLb hj5 hK hR hP hD hS hl next
      · refine lv_tableIn (tgt := 483) hx hb dL_law_32 (by decide) (by decide) rfl (by decide) ?_
        exact law_11 C0 hLb hj5 hK hR hP hD hS hl next
      · refine lv_tableIn (tgt := 516) hx hb dL_law_32 (by decide) (by decide) rfl (by decide) ?_
        exact law_12 C0 hLb hj5 hK hR hP hD hS hl next
      · refine lv_tableIn (tgt := 539) hx hb dL_law_32 (by decide) (by decide) rfl (by decide) ?_
        exact law_13 C0 hLb hj5 hK hR hP hD hS hl next
      · refine lv_tableIn (tgt := 552) hx hb dL_law_32 (by decide) (by decide) rfl (by decide) ?_
        exact law_14 C0 hLb hj5 hK hR hP hD hS hl next
      · refine lv_tableIn (tgt := 575) hx hb dL_law_32 (by decide) (by decide) rfl (by decide) ?_
        exact law_15 C0 hLb hj5 hK hR hP hD hS hl next
      · refine lv_tableIn (tgt := 598) hx hb dL_law_32 (by decide) (by decide) rfl (by decide) ?_
        exact law_16 C0 hLb hj5 hK hR hP hD hS hl next
      · refine lv_tableIn (tgt := 631) hx hb dL_law_32 (by decide) (by decide) rfl (by decide) ?_
        exact law_17 C0 hLb hj5 hK hR hP hD hS hl next
      · refine lv_tableIn (tgt := 664) hx hb dL_law_32 (by decide) (by decide) rfl (by decide) ?_
        exact law_18 C0 hLb hj5 hK hR hP hD hS hl next
      · refine lv_tableIn (tgt := 687) hx hb dL_law_32 (by decide) (by decide) rfl (by decide) ?_
        exact law_19 C0 hLb hj5 hK hR hP hD hS hl next
      · refine lv_tableIn (tgt := 710) hx hb dL_law_32 (by decide) (by decide) rfl (by decide) ?_
        exact law_20 C0 hLb hj5 hK hR hP hD hS hl next
      · refine lv_tableIn (tgt := 743) hx hb dL_law_32 (by decide) (by decide) rfl (by decide) ?_
        exact law_21 C0 hLb hj5 hK hR hP hD hS hl next
      · refine lv_tableIn (tgt := 776) hx hb dL_law_32 (by decide) (by decide) rfl (by decide) ?_
        exact law_22 C0 hLb hj5 hK hR hP hD hS hl next
      · refine lv_tableIn (tgt := 809) hx hb dL_law_32 (by decide) (by decide) rfl (by decide) ?_
        exact law_23 C0 hLb hj5 hK hR hP hD hS hl next
      · refine lv_tableIn (tgt := 822) hx hb dL_law_32 (by decide) (by decide) rfl (by decide) ?_
        exact law_24 C0 hLb hj5 hK hR hP hD hS hl next
      · refine lv_tableIn (tgt := 845) hx hb dL_law_32 (by decide) (by decide) rfl (by decide) ?_
        exact law_25 C0 hLb hj5 hK hR hP hD hS hl next
      · refine lv_tableIn (tgt := 858) hx hb dL_law_32 (by decide) (by decide) rfl (by decide) ?_
        exact law_26 C0 hLb hj5 hK hR hP hD hS hl next
      · refine lv_tableIn (tgt := 871) hx hb dL_law_32 (by decide) (by decide) rfl (by decide) ?_
        exact law_27 C0 hLb hj5 hK hR hP hD hS hl next
      · refine lv_tableIn (tgt := 914) hx hb dL_law_32 (by decide) (by decide) rfl (by decide) ?_
        exact law_28 C0 hLb hj5 hK hR hP hD hS hl next
      · refine lv_tableIn (tgt := 967) hx hb dL_law_32 (by decide) (by decide) rfl (by decide) ?_
        exact law_29 C0 hLb hj5 hK hR hP hD hS hl next
      · refine lv_tableIn (tgt := 1000) hx hb dL_law_32 (by decide) (by decide) rfl (by decide) ?_
        exact law_30 C0 hLb hj5 hK hR hP hD hS hl next
      · refine lv_tableIn (tgt := 1013) hx hb dL_law_32 (by decide) (by decide) rfl (by decide) ?_
        exact law_31 C0 hLb hj5 hK hR hP hD hS hl next
      · refine lv_tableIn (tgt := 1026) hx hb dL_law_32 (by decide) (by decide) rfl (by decide) ?_
        exact law_32 C0 hLb hj5 hK hR hP hD hS hl next
      · refine lv_tableOut (tgt := 1049) hx hb dL_law_32 (Or.inr (by rw [nI_toInt (by omega)]; omega)) (by decide) ?_
        exact next _ _ _ _ _ _ _ _ _ _ _ _ _ _ _ _ _ _ _ _ _ _ _ _ _ _ _ _ _ _ _ _ _ _ _ _ _ _ _ _ _ _ _ _ _ _ _ _ _ _ _ _ _ _ hR _ _ hP hD hS _ hl
set_option maxHeartbeats 4000000 in
set_option maxRecDepth 100000 in
theorem whole_start {p : Program} {e : Env} {s : State} {m : MethodId} {below : List Frame} {meth : Method} {c : Code} (l : Launch) {b L : Nat} {xs : Nat → Int32} (hL : L ≤ 2560) (C0 : lw_At p s m meth c b L xs) : W p l e room_1 s m #[Value.ref b] below meth c s.heap [] 0 0 (lw_Z below #[Value.ref b] s) (entryFrame m ([Value.ref b] : List Value).toArray 4) := by
  obtain ⟨hx, hb, hr, hml, hown, hts, hX, hbl, hlocks, hgv⟩ := id C0
  have hA : ∀ q : Nat, s.heap.size ≤ q → (fun q : Nat => s.heap.size ≤ q) q := fun _ h => h
  have hAn : ∀ a : Nat, a < s.heap.size → ¬ (fun q : Nat => s.heap.size ≤ q) a := fun _ h => Nat.not_le.mpr h
  have hB : ∀ w ∈ BIG, w ∈ lw_tbl := BIG_tbl
  obtain ⟨c0, iS0, hKn0⟩ := u_known (C := RX0) (T := TX0) (N := 6) (n := 6) hts (fun w h => hB w (inB_X0 w h)) (hts _ (hB _ m_215))
  obtain ⟨c1, iS1, hKn1⟩ := u_known (C := RX1) (T := TX1) (N := 12) (n := 12) hts (fun w h => hB w (inB_X1 w h)) (hts _ (hB _ m_83))
  obtain ⟨c2, iS2, hKn2⟩ := u_known (C := RX2) (T := TX2) (N := 6) (n := 6) hts (fun w h => hB w (inB_X2 w h)) (hts _ (hB _ m_158))
  obtain ⟨c3, iS3, hKn3⟩ := u_known (C := RX3) (T := TX3) (N := 3) (n := 3) hts (fun w h => hB w (inB_X3 w h)) (hts _ (hB _ m_199))
  obtain ⟨c4, iS4, hKn4⟩ := u_known (C := RX4) (T := TX4) (N := 3) (n := 3) hts (fun w h => hB w (inB_X4 w h)) (hts _ (hB _ m_183))
  obtain ⟨c5, iS5, hKn5⟩ := u_known (C := RX5) (T := TX5) (N := 3) (n := 3) hts (fun w h => hB w (inB_X5 w h)) (hts _ (hB _ m_142))
  obtain ⟨c6, iS6, hKn6⟩ := u_known (C := RX6) (T := TX6) (N := 7) (n := 7) hts (fun w h => hB w (inB_X6 w h)) (hts _ (hB _ m_273))
  obtain ⟨c7, iS7, hKn7⟩ := u_known (C := RX7) (T := TX7) (N := 3) (n := 3) hts (fun w h => hB w (inB_X7 w h)) (hts _ (hB _ m_257))
  obtain ⟨c8, iS8, hKn8⟩ := u_known (C := RX8) (T := TX8) (N := 3) (n := 3) hts (fun w h => hB w (inB_X8 w h)) (hts _ (hB _ m_241))
  obtain ⟨c9, iS9, hKn9⟩ := u_known (C := RX9) (T := TX9) (N := 9) (n := 9) hts (fun w h => hB w (inB_X9 w h)) (hts _ (hB _ m_75))
  obtain ⟨c10, iS10, hKn10⟩ := u_known (C := RX10) (T := TX10) (N := 21) (n := 21) hts (fun w h => hB w (inB_X10 w h)) (hts _ (hB _ m_921))
  obtain ⟨dC, dI, hKc⟩ : ∃ (dC : Nat → ClassId) (dI : Nat → Nat → Nat), ∀ (k : Nat) (q : vw_C), vwCl[k]? = some q → u_Kn s q.1 q.2.1 q.2.2 (dC k) (dI k) := by
    refine ⟨fun k => if k = 0 then c0 else if k = 1 then c1 else if k = 2 then c2 else if k = 3 then c3 else if k = 4 then c4 else if k = 5 then c5 else if k = 6 then c6 else if k = 7 then c7 else if k = 8 then c8 else if k = 9 then c9 else c10, fun k => if k = 0 then iS0 else if k = 1 then iS1 else if k = 2 then iS2 else if k = 3 then iS3 else if k = 4 then iS4 else if k = 5 then iS5 else if k = 6 then iS6 else if k = 7 then iS7 else if k = 8 then iS8 else if k = 9 then iS9 else iS10, ?_⟩
    intro k q hq
    match k, hq with
    | 0, hq => cases hq; exact hKn0
    | 1, hq => cases hq; exact hKn1
    | 2, hq => cases hq; exact hKn2
    | 3, hq => cases hq; exact hKn3
    | 4, hq => cases hq; exact hKn4
    | 5, hq => cases hq; exact hKn5
    | 6, hq => cases hq; exact hKn6
    | 7, hq => cases hq; exact hKn7
    | 8, hq => cases hq; exact hKn8
    | 9, hq => cases hq; exact hKn9
    | 10, hq => cases hq; exact hKn10
    | k + 11, hq => simp [vwCl] at hq
  obtain ⟨cI, kkcI, cocI, hfcI, hkcI, hdcI⟩ := Cond.arrayClass_spec (hts _ (hB _ m_140))
  obtain ⟨cL, kkcL, cocL, hfcL, hkcL, hdcL⟩ := Cond.arrayClass_spec (hts _ (hB _ m_239))
  obtain ⟨cZ, kkcZ, cocZ, hfcZ, hkcZ, hdcZ⟩ := Cond.arrayClass_spec (hts _ (hB _ m_995))
  have hK0 : va_K (dC, dI) vwCl (xtys cI cL cZ) s := by
    refine ⟨hKc, fun k q h => ?_⟩
    match k, h with
    | 0, h => cases h; exact ⟨fun n z => ⟨fun k h => (by cases h), kkcI, hkcI, cocI, hdcI⟩, hfcI⟩
    | 1, h => cases h; exact ⟨fun n z => ⟨fun k h => (by cases h), kkcL, hkcL, cocL, hdcL⟩, hfcL⟩
    | 2, h => cases h; exact ⟨fun n z => ⟨fun k h => (by cases h), kkcZ, hkcZ, cocZ, hdcZ⟩, hfcZ⟩
    | k + 3, h => simp [xtys] at h
  have hNW : NW s := ⟨va_Nw.of rfl (hts (.methodLinkNest RX9 36 yX4_init "WatchedHalls") (by decide +kernel)), va_Nw.of rfl (hts (.methodLinkNest RX9 61 yX8_init "WatchedHalls") (by decide +kernel)), va_Nw.of rfl (hts (.methodLinkNest RX1 66 yX9_holds "WatchedHalls") (by decide +kernel)), va_Nw.of rfl (hts (.fieldLinkNest RX2 51 "WatchedHalls" "MOVE_X" "[I" "WatchedHalls") (by decide +kernel)), va_Nw.of rfl (hts (.fieldLinkNest RX2 54 "WatchedHalls" "MOVE_Y" "[I" "WatchedHalls") (by decide +kernel)), va_Nw.of rfl (hts (.methodLinkNest RX8 29 yX9_holds "WatchedHalls") (by decide +kernel)), va_Nw.of rfl (hts (.fieldLinkNest RX1 70 "WatchedHalls" "MOVE_X" "[I" "WatchedHalls") (by decide +kernel)), va_Nw.of rfl (hts (.fieldLinkNest RX1 73 "WatchedHalls" "MOVE_Y" "[I" "WatchedHalls") (by decide +kernel)), va_Nw.of rfl (hts (.methodLinkNest RX6 97 yX9_holds "WatchedHalls") (by decide +kernel))⟩
  have hq := flat_of_before _ hgv
  obtain ⟨mx, htX, hTX⟩ := va_Tof (A := fun q : Nat => s.heap.size ≤ q) (tm := .static "WatchedHalls" "MOVE_X" "[I") (ty := .int) (N := 5) (f := fun j => .int (mvX j)) (by decide) (hq _ (by decide +kernel)) (va_eqt (z := 5) (hq _ (by decide +kernel))) (fun j hj => by
    rcases (show j = 0 ∨ j = 1 ∨ j = 2 ∨ j = 3 ∨ j = 4 by omega) with rfl | rfl | rfl | rfl | rfl
    · exact va_eqt (z := mvX 0) (hq (.eq (.elem (.static "WatchedHalls" "MOVE_X" "[I") (.int 0)) (.int (1))) (by decide +kernel))
    · exact va_eqt (z := mvX 1) (hq (.eq (.elem (.static "WatchedHalls" "MOVE_X" "[I") (.int 1)) (.int (0))) (by decide +kernel))
    · exact va_eqt (z := mvX 2) (hq (.eq (.elem (.static "WatchedHalls" "MOVE_X" "[I") (.int 2)) (.int (-1))) (by decide +kernel))
    · exact va_eqt (z := mvX 3) (hq (.eq (.elem (.static "WatchedHalls" "MOVE_X" "[I") (.int 3)) (.int (0))) (by decide +kernel))
    · exact va_eqt (z := mvX 4) (hq (.eq (.elem (.static "WatchedHalls" "MOVE_X" "[I") (.int 4)) (.int (0))) (by decide +kernel))) hAn
  have hZX := va_Zof (A := fun q : Nat => s.heap.size ≤ q) (C := "WatchedHalls") (n := "MOVE_X") (d := "[I") (hts (.laysStatic "WatchedHalls" "MOVE_X" "[I") (by decide +kernel)) (hts _ (hB _ m_59)) htX hAn
  obtain ⟨my, htY, hTY⟩ := va_Tof (A := fun q : Nat => s.heap.size ≤ q) (tm := .static "WatchedHalls" "MOVE_Y" "[I") (ty := .int) (N := 5) (f := fun j => .int (mvY j)) (by decide) (hq _ (by decide +kernel)) (va_eqt (z := 5) (hq _ (by decide +kernel))) (fun j hj => by
    rcases (show j = 0 ∨ j = 1 ∨ j = 2 ∨ j = 3 ∨ j = 4 by omega) with rfl | rfl | rfl | rfl | rfl
    · exact va_eqt (z := mvY 0) (hq (.eq (.elem (.static "WatchedHalls" "MOVE_Y" "[I") (.int 0)) (.int (0))) (by decide +kernel))
    · exact va_eqt (z := mvY 1) (hq (.eq (.elem (.static "WatchedHalls" "MOVE_Y" "[I") (.int 1)) (.int (1))) (by decide +kernel))
    · exact va_eqt (z := mvY 2) (hq (.eq (.elem (.static "WatchedHalls" "MOVE_Y" "[I") (.int 2)) (.int (0))) (by decide +kernel))
    · exact va_eqt (z := mvY 3) (hq (.eq (.elem (.static "WatchedHalls" "MOVE_Y" "[I") (.int 3)) (.int (-1))) (by decide +kernel))
    · exact va_eqt (z := mvY 4) (hq (.eq (.elem (.static "WatchedHalls" "MOVE_Y" "[I") (.int 4)) (.int (0))) (by decide +kernel))) hAn
  have hZY := va_Zof (A := fun q : Nat => s.heap.size ≤ q) (C := "WatchedHalls") (n := "MOVE_Y") (d := "[I") (hts (.laysStatic "WatchedHalls" "MOVE_Y" "[I") (by decide +kernel)) (hts _ (hB _ m_59)) htY hAn
  have hK : KX (dC, dI) cI cL cZ mx my (fun q : Nat => s.heap.size ≤ q) s := ⟨hK0, hNW, hZX, hTX, hZY, hTY⟩
  have hS : va_S (fun q : Nat => s.heap.size ≤ q) s.heap s.heap [] := va_S.rf
  have hP : va_P (dC, dI) vwCl [] s.heap := fun k q h => by simp at h
  have hD : va_D (fun q : Nat => s.heap.size ≤ q) [] := ⟨fun i j p q h => by simp at h, fun k q h => by simp at h⟩
  have hl := lv_entry ([.ref b]) (n := 4) (Nat.le_of_ble_eq_true rfl)
  rw [lg_entry_eq]
  generalize (lg_sl ([.ref b]) ++ List.replicate (4 - (lg_sl ([.ref b])).length) Slot.unset).toArray = ls at hl ⊢
  have hl : lv_has ls 4 [(0, .ref b)] := hl
  have h := op_init
  refine va_new (ci := 9) (fs := [.null, .null, .null, .null, .null, .null, .null, .null, .null]) (C := RX9) (T := TX9) (N := 9) hx hb hts (fun w h => hB w (inB_X9 w h)) tyX9 tyX9_ok hown (hts _ (hB _ m_74)) (hts _ (hB _ m_75)) (hts _ (hB _ m_59)) hK.1 hP hD hS hA rfl (fun j hj => by rcases (show j = 0 ∨ j = 1 ∨ j = 2 ∨ j = 3 ∨ j = 4 ∨ j = 5 ∨ j = 6 ∨ j = 7 ∨ j = 8 by omega) with rfl | rfl | rfl | rfl | rfl | rfl | rfl | rfl | rfl <;> rfl) (Nat.le_of_ble_eq_true rfl) (Nat.le_of_ble_eq_true rfl) dL_law_0 (fun q0 H hP hD hS => ?_)
  refine W.widen (k := 1) (n := 9) (by decide) (by decide) ?_
  refine lv_dup hx hb dL_law_3 rfl ?_
  have hP : va_P (dC, dI) vwCl [(q0, .inr (9, [.null, .null, .null, .null, .null, .null, .null, .null, .null]))] H := hP
  have hD : va_D (fun q : Nat => s.heap.size ≤ q) [(q0, .inr (9, [.null, .null, .null, .null, .null, .null, .null, .null, .null]))] := hD
  have hFc := va_free (wc := [(q0, .inr (9, [.null, .null, .null, .null, .null, .null, .null, .null, .null]))]) hD hS hA [0] rfl
  have hPc := hP
  have hDc := hD
  refine va_callv (va_runI (As := []) (rest := [.ref q0]) ⟨hx, hb, hml, hown, hts⟩ (k_wh q0 H.size h) (cwI 0 hts (gw_X9_init hB) rfl rfl rfl (hts _ (hB _ m_59)) (hts _ (hB _ m_76)) (hts _ (hB _ m_77)) rfl (by decide +kernel) ⟨Nat.le_of_ble_eq_true rfl, Nat.le_of_ble_eq_true rfl⟩) ⟨fun a U g mk q => by obtain ⟨z0, z1, z2, z3, z4⟩ := q; exact ⟨z0, z1, z2, z3.calling, z4⟩, fun U hU hW => ⟨rfl, by rw [hU], by rw [hU]; exact hPc, (hK.at hS hU hW).narrow hFc, hDc.weaken (fun _ _ _ _ => trivial)⟩⟩ rfl rfl hl.1 rfl (lv_room (Nat.le_of_ble_eq_true rfl)) dL_law_4 ⟨Nat.le_of_ble_eq_true rfl, Nat.le_of_ble_eq_true rfl⟩) hS (fun q _ h => hFc q h) hFc (fun u t H1 locs ht hvm h hB1 hz1 hk1 hS => ?_)
  obtain ⟨gr_width, gr_height, gr_size, gr_kinds, gr_columns, gr_rows, gr_floorCells, gr_clearCells, gr_standCells, gr_firstColumn, gr_lastColumn⟩ := u
  obtain ⟨ad, had, hP1, hD1⟩ := hB1
  rw [ht] at hP1
  have hD1 := hD1.weaken (fun _ q _ h => hFc q.1 h)
  clear hP hD hPc hDc hFc hk1
  have hP := hP1
  have hD := hD1
  clear hP1 hD1 ht
  refine W.widen (k := 28) (n := 17539) (by decide) (by decide) ?_
  refine lv_astore_n (lv' := [(1, .ref q0), (0, .ref b)]) hx hb dL_law_7 rfl hl (by decide) rfl (fun ls hl => ?_)
  refine va_new (ci := 10) (fs := [.int 0, .int 0, .null, .int 0, .int 0, .null, .null, .int 0, .null, .null, .null, .null, .null, .int 0, .null, .null, .null, .null, .null, .null, .null]) (C := RX10) (T := TX10) (N := 21) hx hb hts (fun w h => hB w (inB_X10 w h)) tyX10 tyX10_ok hown (hts _ (hB _ m_920)) (hts _ (hB _ m_921)) (hts _ (hB _ m_70)) hK.1 hP hD hS hA rfl (fun j hj => by rcases (show j = 0 ∨ j = 1 ∨ j = 2 ∨ j = 3 ∨ j = 4 ∨ j = 5 ∨ j = 6 ∨ j = 7 ∨ j = 8 ∨ j = 9 ∨ j = 10 ∨ j = 11 ∨ j = 12 ∨ j = 13 ∨ j = 14 ∨ j = 15 ∨ j = 16 ∨ j = 17 ∨ j = 18 ∨ j = 19 ∨ j = 20 by omega) with rfl | rfl | rfl | rfl | rfl | rfl | rfl | rfl | rfl | rfl | rfl | rfl | rfl | rfl | rfl | rfl | rfl | rfl | rfl | rfl | rfl <;> rfl) (Nat.le_of_ble_eq_true rfl) (Nat.le_of_ble_eq_true rfl) dL_law_8 (fun q8 H hP hD hS => ?_)
  refine W.widen (k := 29) (n := 17560) (by decide) (by decide) ?_
  refine lv_dup hx hb dL_law_11 rfl ?_
  have hFc : ∀ q, va_A [(q8, .inr (10, [.int 0, .int 0, .null, .int 0, .int 0, .null, .null, .int 0, .null, .null, .null, .null, .null, .int 0, .null, .null, .null, .null, .null, .null, .null]))] H.size q → (fun q : Nat => s.heap.size ≤ q) q := fun q hq => by
    rcases hq with ⟨k, e, hk⟩ | hq
    · have := (app_Dr hD).2 k _ hk; exact this
    · exact Nat.le_trans hS.1 hq
  have hPc := app_Pr hP
  have hDc := app_Dr hD
  refine va_callv (va_runI (As := []) (rest := [.ref q8]) ⟨hx, hb, hml, hown, hts⟩ (k_mo q8 H.size h) (cwI 0 hts (gw_X10_init hB) rfl rfl rfl (hts _ (hB _ m_70)) (hts _ (hB _ m_922)) (hts _ (hB _ m_923)) rfl (by decide +kernel) ⟨Nat.le_of_ble_eq_true rfl, Nat.le_of_ble_eq_true rfl⟩) ⟨fun a U g mk q => by obtain ⟨z0, z1, z2, z3, z4⟩ := q; exact ⟨z0, z1, z2, z3.calling, z4⟩, fun U hU hW => ⟨rfl, by rw [hU], by rw [hU]; exact hPc, (hK.at hS hU hW).narrow hFc, hDc.weaken (fun _ _ _ _ => trivial)⟩⟩ rfl rfl hl.1 rfl (lv_room (Nat.le_of_ble_eq_true rfl)) dL_law_12 ⟨Nat.le_of_ble_eq_true rfl, Nat.le_of_ble_eq_true rfl⟩) hS (fun q _ h => hFc q h) hFc (fun u t H1 locs ht hvm h hB1 hz1 hk1 hS => ?_)
  obtain ⟨mo_wide, mo_tall, mo_kind, mo_pictures, mo_roundMany, mo_shift⟩ := u
  obtain ⟨bd, hbd, hP1, hD1⟩ := hB1
  rw [ht] at hP1
  have hPn := va_P.app (fun k q hk => (app_Pl hP k q hk).kept (hk1 q.1 ((app_Pl hP k q hk).lt) (fun hq => by
    rcases hq with ⟨i, e, hi⟩ | hq
    · exact app_ap2 hD hk ⟨i, e, hi⟩
    · exact absurd ((app_Pl hP k q hk).lt) (Nat.not_lt.mpr hq)))) hP1
  have hDn := va_D.app (app_Dl hD) (hD1.weaken (fun _ q _ h => hFc q.1 h)) (fun i j x y hx2 hy e => by
    rcases hD1.2 j y hy with ⟨i2, e2, hi2⟩ | hq
    · exact app_ap2 hD hx2 ⟨i2, e2, by rw [e]; exact hi2⟩
    · exact absurd ((app_Pl hP i x hx2).lt) (by rw [e]; exact Nat.not_lt.mpr hq))
  refine W.widen (k := 44) (n := 128720) (by decide) (by decide) ?_
  subst had
  subst hbd
  refine lv_astore_n (lv' := [(2, .ref (bd 0)), (1, .ref (ad 9)), (0, .ref b)]) hx hb dL_law_15 rfl hl (by decide) rfl (fun ls hl => ?_)
  refine lv_iconst (v := 0) hx hb dL_law_16 (by decide) ?_
  refine lv_istore_n (lv' := [(3, .int 0), (2, .ref (bd 0)), (1, .ref (ad 9)), (0, .ref b)]) hx hb dL_law_17 rfl hl (by decide) rfl (fun ls hl => ?_)
  exact law_loop C0 hL hK (L + 1) 0 _ _ _ _ _ _ _ _ _ _ _ _ _ _ _ _ _ _ _ _ _ _ _ _ _ _ _ _ _ _ _ _ _ _ _ _ _ _ _ _ _ _ _ _ _ _ _ _ _ _ _ _ _ _ (Nat.zero_le L) (by omega) h _ _ hPn hDn hS _ (by rw [nI_0]; exact lv_sub hl [3, 2, 1, 0] rfl)
set_option maxHeartbeats 4000000 in
theorem lw_walk (l : Launch) (b : Addr) (xs : List Int32) : MetFree l x (headSpec (Jvm.Cond.code x code maxLocals ret :: tables_1) room_1) (lw_P b xs) (fun _ _ _ _ _ => True) lw_Q := by
  refine MetFree.of_bodyS (code := code) (maxLocals := maxLocals) (ret := ret) (by decide) ?_ ?_
  · intro args s m h hn
    obtain ⟨meth, c, h1, h2, h3, h4, h5, h6, -, -⟩ := Cond.code_spec hn (atoms_spec (ws := Jvm.Cond.code x code maxLocals ret :: tables_1) h _ List.mem_cons_self)
    exact ⟨meth, c, h1, h2, h3, h4, h5, h6⟩
  · intro p e s m args below meth c s₁ B hml0 hP _
    obtain ⟨rfl, hx, hbd, hgv⟩ := hP
    obtain ⟨scr, harrAt, hlist, hof, hsmall⟩ := hx
    obtain ⟨hcb, hkn, -, -⟩ := State.arrayAt?_spec harrAt
    have hown : s.vm.findClass R_law = some m.cls := findClass_of_methodNamed B.named
    have hts0 : ∀ c ∈ (Jvm.Cond.code x code maxLocals ret :: tables_1), c.before #[Value.ref b] s = true := atoms_spec (ws := Jvm.Cond.code x code maxLocals ret :: tables_1) B.pre
    have hts : ∀ w ∈ lw_tbl, w.before #[Value.ref b] s = true := k2_hts_sels lw_privs (fun w hw => hts0 w (List.mem_cons_of_mem _ hw)) lw_privs_ok
    have hml : c.maxLocals = 4 := B.maxLocals_eq (hts0 _ List.mem_cons_self)
    have X₀ : Stand p l e room_1 s m #[Value.ref b] below meth c s₁ [] 0 0 := Stand.of_body B
    have hh0 : s₁.heap = s.heap := by rw [B.state]; rfl
    have hsz : scr.slots.size = xs.length := by rw [← Array.length_toList, hlist, List.length_map]
    have hval : ∀ j : Nat, j < xs.length → scr.slots[j]? = some (.int (xs.getD j 0)) := fun j hj => by
      rw [← Array.getElem?_toList, hlist]
      simp [hj]
    have hbl : b < s.heap.size := (Array.getElem?_eq_some_iff.mp hcb).1
    have hX : va_X b xs.length (fun j => xs.getD j 0) s s.heap := ⟨scr, hcb, hof, hkn, hsz, hval⟩
    have K : W p l e room_1 s m #[Value.ref b] below meth c s₁.heap [] 0 0 (lw_Z below #[Value.ref b] s) (entryFrame m ([Value.ref b] : List Value).toArray 4) := by
      rw [hh0]
      exact whole_start l hbd ⟨B.exec, B.bytes, B.returns, hml, hown, hts, hX, hbl, B.notSynchronized, hgv⟩
    obtain ⟨t, a1, o, b1, b2, b3⟩ := K s₁ rfl X₀
    exact ⟨t, o, a1, b1, b2, b3⟩
theorem lw_pre_spec {args : Array Value} {s : State} (h : (Jvm.Cond.and given_1 narrow_1).before args s = true) (hr : rest_1_c.before args s = true) : ∃ (b : Addr) (xs : List Int32), lw_P b xs args s := by
  have hs := flat_of_before _ h
  have hq := flat_of_before _ hr
  have hc : (Cond.count 1).before args s = true := hs _ (by decide +kernel)
  have harr : (Cond.arrayOf (.arg 0) .int).before args s = true := hs _ (by decide +kernel)
  have hle : (Cond.le (.length (.arg 0)) (.int 2560)).before args s = true := hs _ (by decide +kernel)
  have hlen : (Cond.isInt (.length (.arg 0))).before args s = true := hq _ (by decide +kernel)
  have hall : (Cond.all (.arg 0) (.isInt (.elem (.arg 0) (.index 0)))).before args s = true := hq _ (by decide +kernel)
  obtain ⟨b, xs, hb, hx⟩ := State.ints_of_pre rfl harr hlen hall
  have hsm : xs.length < 2 ^ 31 := hx.choose_spec.2.2.2
  have hev : (Term.length (.arg 0)).eval args s none [] s = some (.int xs.length.toInt32) := hx.length_eval hb
  have hv := Cond.le_ints hev (show (Term.int 2560).eval args s none [] s = some (.int 2560) from rfl)
  have hd : xs.length.toInt32 ≤ 2560 := by
    simpa [Cond.before, Cond.holds, hv] using hle
  have hN : xs.length ≤ 2560 := (Int32.ofNat_le_ofNat hsm (by decide)).mp (show Int32.ofNat xs.length ≤ Int32.ofNat 2560 from hd)
  exact ⟨b, xs, Cond.one_arg hc (show args[0]? = some (.ref b) from hb), hx, hN, h⟩
theorem lw_comes (l : Launch) : Comes l x (Jvm.Cond.code x code maxLocals ret :: tables_1) room_1 (fun tb e args s => Calls_1 tb e args s ∧ rest_1 tb e args s ∧ Pre_1 tb e args s)
    (fun _ _ args s o t => lw_Q args s o t) := by
  intro p e ha hc hk s m args below hf hfit hheap happ hpre
  obtain ⟨b, xs, hP⟩ := lw_pre_spec hpre.2.2 hpre.2.1
  obtain ⟨k, o, h1, h2, h3, hQ⟩ := lw_walk l b xs p e ha hc hk s m args below hf ((Spec.applies_iff_loose hf).mp happ).1 hP trivial
  exact ⟨k, o, h1, h2, h3, hQ⟩
theorem lw_frame {s t : State} {o : Outcome} {args : Array Value} (h : Framed s o t [] 600000 7302250) :
    Framed s o t (fieldLocs frame_1_writes args s ++ arrayLocs frame_1_arrays args s ++ staticLocs frame_1_statics s) 600000 7302250 := h
theorem lw_limb (L : Cond) (hL : ∀ (args : Array Value) (s t : State), L.after args s (.returned (some (.int 1))) t = true) :
    ArmFor flags0 classFile x code maxLocals ret World_1 tables_1 room_1 Calls_1 rest_1 Pre_1
      (fun tb e a s o t => postC L tb e a s o t ∧ Framed s o t (fieldLocs frame_1_writes a s ++ arrayLocs frame_1_arrays a s ++ staticLocs frame_1_statics s) 600000 7302250) := by
  intro l _ _ _ p e ha hc hk s m args below hf hfit hheap happ hpre
  obtain ⟨k, o, h1, h2, h3, rfl, hF⟩ := lw_comes l p e ha hc hk s m args below hf hfit hheap happ hpre
  exact ⟨k, _, h1, h2, h3, hL args s _, lw_frame hF⟩
theorem i_vc : Claimed_1_1 ∧ Claimed_1_2 := ⟨lw_limb limb_1_1 (fun args s t => by simp [limb_1_1, Cond.after, Cond.holds, Cond.value]), lw_limb limb_1_2 (fun args s t => Cond.after_iff.mpr (by
  first | (rw [show limb_1_2 = Cond.eq .result (.int 1) from rfl, Cond.eq_ints (x := 1) (y := 1) rfl rfl]; simp; done) | (simp [limb_1_2, Cond.value, Term.eval]; done)))⟩

