def rm_wh_seen : Room := { frames := 4, cells := 0, slots := 0, locals := 99 }
set_option maxHeartbeats 4000000 in
set_option maxRecDepth 100000 in
theorem c_wh_seen {l : Launch} {D : va_G} {cI cL cZ : ClassId} {mx my : Nat} {A : Nat → Prop} {ad : Nat → Nat} {ga_sightings th_unseen th_goals tr_visited : Nat → Int64} {ga_bestShifts gr_kinds gr_before gr_columns gr_rows pi_cells pi_facings pi_sets po_needs ro_cells ro_lengths ro_shifts tr_marks wh_places : Nat → Int32} {ga_commonLength gr_width gr_height gr_size pi_size si_sightLaw si_sightRange th_commonLength tr_size : Int32} {ga_allTimes gr_floorCells gr_clearCells gr_standCells gr_firstColumn gr_lastColumn : Int64} (x1 : Int32) (x2 : Int32) {Q : Int32 → Prop} (h : P_wh_seen gr_width gr_size gr_columns gr_rows gr_floorCells gr_clearCells gr_standCells pi_cells pi_facings pi_size si_sightLaw si_sightRange x1 x2 Q) : Met l yX9_seen wsX9_seen rm_wh_seen (va_Pc [.ref (ad 9), .int x1, .int x2] (WC D cI cL cZ mx my A (wdC cI cL cZ ad ga_sightings ga_bestShifts ga_commonLength ga_allTimes gr_width gr_height gr_size gr_kinds gr_before gr_columns gr_rows gr_floorCells gr_clearCells gr_standCells gr_firstColumn gr_lastColumn pi_cells pi_facings pi_sets pi_size po_needs ro_cells ro_lengths ro_shifts si_sightLaw si_sightRange th_unseen th_goals th_commonLength tr_marks tr_visited tr_size wh_places))) (va_Qi (fun (r : Int32) (u : Unit) => Q r) (fun (u : Unit) t => PW D A (wdC cI cL cZ ad ga_sightings ga_bestShifts ga_commonLength ga_allTimes gr_width gr_height gr_size gr_kinds gr_before gr_columns gr_rows gr_floorCells gr_clearCells gr_standCells gr_firstColumn gr_lastColumn pi_cells pi_facings pi_sets pi_size po_needs ro_cells ro_lengths ro_shifts si_sightLaw si_sightRange th_unseen th_goals th_commonLength tr_marks tr_visited tr_size wh_places) t.heap) A) 0 0 A := by
  refine Met.ofW (cc := cX9_seen) (maxL := 3) (ret := (some .int)) (by decide) rfl ?_
  intro p e s m args below meth c s₁ B hml hv
  obtain ⟨hav, hP0, hD0, hK⟩ := hv
  have hx := B.exec
  have hb := B.bytes
  have hr := B.returns
  have hts := atoms_spec (ws := wsX9_seen) B.pre
  have hown : s.vm.findClass RX9 = some m.cls := findClass_of_methodNamed B.named
  have hlocks := B.notSynchronized
  have hB : ∀ w ∈ BIG, w ∈ wsX9_seen := fun _ h => List.mem_cons_of_mem _ h
  have hin : ∀ w ∈ wsX90, w ∈ wsX9_seen := fun w h => hB w (inB_X9 w h)
  have lk12 := hts _ (hB _ m_300)
  have lk30 := hts _ (hB _ m_302)
  obtain ⟨Z, hZ⟩ : ∃ Z : State → Prop, Z = MQ below (va_Qi (fun (r : Int32) (u : Unit) => Q r) (fun (u : Unit) t => PW D A (wdC cI cL cZ ad ga_sightings ga_bestShifts ga_commonLength ga_allTimes gr_width gr_height gr_size gr_kinds gr_before gr_columns gr_rows gr_floorCells gr_clearCells gr_standCells gr_firstColumn gr_lastColumn pi_cells pi_facings pi_sets pi_size po_needs ro_cells ro_lengths ro_shifts si_sightLaw si_sightRange th_unseen th_goals th_commonLength tr_marks tr_visited tr_size wh_places) t.heap) A) args s 0 0 A := ⟨_, rfl⟩
  rw [← hZ]
  have hw : SW D A s.heap (wdC cI cL cZ ad ga_sightings ga_bestShifts ga_commonLength ga_allTimes gr_width gr_height gr_size gr_kinds gr_before gr_columns gr_rows gr_floorCells gr_clearCells gr_standCells gr_firstColumn gr_lastColumn pi_cells pi_facings pi_sets pi_size po_needs ro_cells ro_lengths ro_shifts si_sightLaw si_sightRange th_unseen th_goals th_commonLength tr_marks tr_visited tr_size wh_places) s.heap [] := ⟨hP0, hD0, va_S.rf⟩
  clear hP0 hD0 B
  unfold P_wh_seen at h
  have he : entryFrame m args 3 = entryFrame m ([.ref (ad 9), .int x1, .int x2] : List Value).toArray 3 := by rw [hav]
  refine W.eq he ?_
  have hl := lv_entry ([.ref (ad 9), .int x1, .int x2]) (n := 3) (Nat.le_of_ble_eq_true rfl)
  rw [lg_entry_eq]
  generalize (lg_sl ([.ref (ad 9), .int x1, .int x2]) ++ List.replicate (3 - (lg_sl ([.ref (ad 9), .int x1, .int x2])).length) Slot.unset).toArray = ls at hl ⊢
  have hl : lv_has ls 3 [(0, .ref (ad 9)), (1, .int x1), (2, .int x2)] := hl
  refine lv_aload_n hx hb dX9_seen_0 rfl (lv_at hl 0 rfl) ?_
  refine gC_wh_pictures hx hb hts hin hown hK hw lk30 dX9_seen_1 ?_
  refine lv_iload_n hx hb dX9_seen_4 rfl (lv_at hl 1 rfl) ?_
  refine cV_i (b := (ad 2)) (As := [.int x1]) (rest := []) ⟨hx, hb, hml, hown, hts⟩ hK hw (c_pi_isPicture x1 h) (cwV 1 hts (gd_RX9_144 hB) rfl rfl rfl (by decide +kernel) ⟨Nat.le_of_ble_eq_true rfl, Nat.le_of_ble_eq_true rfl⟩) (rC_pi hK hw) hl.1 ⟨Nat.zero_le _, Nat.zero_le _⟩ rfl rfl (Nat.le_of_ble_eq_true rfl) dX9_seen_5 (fun r5 _ H locs h hw => ?_)
  refine lv_if_eq (tgt := 22) hx hb dX9_seen_8 (by decide) (fun hc => ?_) (fun hc => ?_)
  · replace h := h.1 hc
    refine lv_iconst (v := (-1)) hx hb dX9_seen_22 (by decide) ?_
    rw [hZ]
    exact rt_i () hx hb hr hlocks hw h dX9_seen_23
  · replace h := h.2 hc
    refine lv_aload_n hx hb dX9_seen_11 rfl (lv_at hl 0 rfl) ?_
    refine gC_wh_grid hx hb hts hin hown hK hw lk12 dX9_seen_12 ?_
    refine lv_iload_n hx hb dX9_seen_15 rfl (lv_at hl 2 rfl) ?_
    refine cV_i (b := (ad 1)) (As := [.int x2]) (rest := []) ⟨hx, hb, hml, hown, hts⟩ hK hw (c_gr_isCell x2 h) (cwV 1 hts (gd_RX9_100 hB) rfl rfl rfl (by decide +kernel) ⟨Nat.le_of_ble_eq_true rfl, Nat.le_of_ble_eq_true rfl⟩) (rC_gr hK hw) hl.1 ⟨Nat.zero_le _, Nat.zero_le _⟩ rfl rfl (Nat.le_of_ble_eq_true rfl) dX9_seen_16 (fun r16 _ H locs h hw => ?_)
    refine lv_if_ne (tgt := 24) hx hb dX9_seen_19 (by decide) (fun hc => ?_) (fun hc => ?_)
    · replace h := h.2 hc
      refine lv_aload_n hx hb dX9_seen_24 rfl (lv_at hl 0 rfl) ?_
      refine gC_wh_pictures hx hb hts hin hown hK hw lk30 dX9_seen_25 ?_
      refine lv_iload_n hx hb dX9_seen_28 rfl (lv_at hl 1 rfl) ?_
      refine lv_iload_n hx hb dX9_seen_29 rfl (lv_at hl 2 rfl) ?_
      refine cV_i (b := (ad 2)) (As := [.int x1, .int x2]) (rest := []) ⟨hx, hb, hml, hown, hts⟩ hK hw (c_pi_isSeenFrom x1 x2 h) (cwV 2 hts (gd_RX9_153 hB) rfl rfl rfl (by decide +kernel) ⟨Nat.le_of_ble_eq_true rfl, Nat.le_of_ble_eq_true rfl⟩) (rC_pi hK hw) hl.1 ⟨Nat.zero_le _, Nat.zero_le _⟩ rfl rfl (Nat.le_of_ble_eq_true rfl) dX9_seen_30 (fun r30 _ H locs h hw => ?_)
      refine cS_i (As := [.int r30]) (rest := []) ⟨hx, hb, hml, hown, hts⟩ hK hw (c_wh_yesOrNo r30 h) (va_cwS 1 hts (gd_RX9_124 hB) rfl rfl rfl (by decide +kernel) ⟨Nat.le_of_ble_eq_true rfl, Nat.le_of_ble_eq_true rfl⟩) hl.1 ⟨Nat.zero_le _, Nat.zero_le _⟩ rfl rfl (Nat.le_of_ble_eq_true rfl) dX9_seen_33 (fun r33 _ H locs h hw => ?_)
      rw [hZ]
      exact rt_i () hx hb hr hlocks hw h dX9_seen_36
    · replace h := h.1 hc
      refine lv_iconst (v := (-1)) hx hb dX9_seen_22 (by decide) ?_
      rw [hZ]
      exact rt_i () hx hb hr hlocks hw h dX9_seen_23
def rm_wh_from : Room := { frames := 5, cells := 0, slots := 0, locals := 122 }
set_option maxHeartbeats 4000000 in
set_option maxRecDepth 100000 in
theorem c_wh_from {l : Launch} {D : va_G} {cI cL cZ : ClassId} {mx my : Nat} {A : Nat → Prop} {ad : Nat → Nat} {ga_sightings th_unseen th_goals tr_visited : Nat → Int64} {ga_bestShifts gr_kinds gr_before gr_columns gr_rows pi_cells pi_facings pi_sets po_needs ro_cells ro_lengths ro_shifts tr_marks wh_places : Nat → Int32} {ga_commonLength gr_width gr_height gr_size pi_size si_sightLaw si_sightRange th_commonLength tr_size : Int32} {ga_allTimes gr_floorCells gr_clearCells gr_standCells gr_firstColumn gr_lastColumn : Int64} (x1 : Int32) {Q : Int32 → Prop} (h : P_wh_from gr_width gr_size gr_columns gr_rows gr_floorCells gr_clearCells gr_standCells pi_cells pi_facings pi_size si_sightLaw si_sightRange x1 Q) : Met l yX9_from wsX9_from rm_wh_from (va_Pc [.ref (ad 9), .int x1] (WC D cI cL cZ mx my A (wdC cI cL cZ ad ga_sightings ga_bestShifts ga_commonLength ga_allTimes gr_width gr_height gr_size gr_kinds gr_before gr_columns gr_rows gr_floorCells gr_clearCells gr_standCells gr_firstColumn gr_lastColumn pi_cells pi_facings pi_sets pi_size po_needs ro_cells ro_lengths ro_shifts si_sightLaw si_sightRange th_unseen th_goals th_commonLength tr_marks tr_visited tr_size wh_places))) (va_Qi (fun (r : Int32) (u : Unit) => Q r) (fun (u : Unit) t => PW D A (wdC cI cL cZ ad ga_sightings ga_bestShifts ga_commonLength ga_allTimes gr_width gr_height gr_size gr_kinds gr_before gr_columns gr_rows gr_floorCells gr_clearCells gr_standCells gr_firstColumn gr_lastColumn pi_cells pi_facings pi_sets pi_size po_needs ro_cells ro_lengths ro_shifts si_sightLaw si_sightRange th_unseen th_goals th_commonLength tr_marks tr_visited tr_size wh_places) t.heap) A) 0 0 A := by
  refine Met.ofW (cc := cX9_from) (maxL := 2) (ret := (some .int)) (by decide) rfl ?_
  intro p e s m args below meth c s₁ B hml hv
  obtain ⟨hav, hP0, hD0, hK⟩ := hv
  have hx := B.exec
  have hb := B.bytes
  have hr := B.returns
  have hts := atoms_spec (ws := wsX9_from) B.pre
  have hown : s.vm.findClass RX9 = some m.cls := findClass_of_methodNamed B.named
  have hlocks := B.notSynchronized
  have hB : ∀ w ∈ BIG, w ∈ wsX9_from := fun _ h => List.mem_cons_of_mem _ h
  have hin : ∀ w ∈ wsX90, w ∈ wsX9_from := fun w h => hB w (inB_X9 w h)
  have lk12 := hts _ (hB _ m_300)
  have lk30 := hts _ (hB _ m_302)
  obtain ⟨Z, hZ⟩ : ∃ Z : State → Prop, Z = MQ below (va_Qi (fun (r : Int32) (u : Unit) => Q r) (fun (u : Unit) t => PW D A (wdC cI cL cZ ad ga_sightings ga_bestShifts ga_commonLength ga_allTimes gr_width gr_height gr_size gr_kinds gr_before gr_columns gr_rows gr_floorCells gr_clearCells gr_standCells gr_firstColumn gr_lastColumn pi_cells pi_facings pi_sets pi_size po_needs ro_cells ro_lengths ro_shifts si_sightLaw si_sightRange th_unseen th_goals th_commonLength tr_marks tr_visited tr_size wh_places) t.heap) A) args s 0 0 A := ⟨_, rfl⟩
  rw [← hZ]
  have hw : SW D A s.heap (wdC cI cL cZ ad ga_sightings ga_bestShifts ga_commonLength ga_allTimes gr_width gr_height gr_size gr_kinds gr_before gr_columns gr_rows gr_floorCells gr_clearCells gr_standCells gr_firstColumn gr_lastColumn pi_cells pi_facings pi_sets pi_size po_needs ro_cells ro_lengths ro_shifts si_sightLaw si_sightRange th_unseen th_goals th_commonLength tr_marks tr_visited tr_size wh_places) s.heap [] := ⟨hP0, hD0, va_S.rf⟩
  clear hP0 hD0 B
  unfold P_wh_from at h
  have he : entryFrame m args 2 = entryFrame m ([.ref (ad 9), .int x1] : List Value).toArray 2 := by rw [hav]
  refine W.eq he ?_
  have hl := lv_entry ([.ref (ad 9), .int x1]) (n := 2) (Nat.le_of_ble_eq_true rfl)
  rw [lg_entry_eq]
  generalize (lg_sl ([.ref (ad 9), .int x1]) ++ List.replicate (2 - (lg_sl ([.ref (ad 9), .int x1])).length) Slot.unset).toArray = ls at hl ⊢
  have hl : lv_has ls 2 [(0, .ref (ad 9)), (1, .int x1)] := hl
  refine lv_aload_n hx hb dX9_from_0 rfl (lv_at hl 0 rfl) ?_
  refine gC_wh_grid hx hb hts hin hown hK hw lk12 dX9_from_1 ?_
  refine lv_iload_n hx hb dX9_from_4 rfl (lv_at hl 1 rfl) ?_
  refine cV_i (b := (ad 1)) (As := [.int x1]) (rest := []) ⟨hx, hb, hml, hown, hts⟩ hK hw (c_gr_isCell x1 h) (cwV 1 hts (gd_RX9_100 hB) rfl rfl rfl (by decide +kernel) ⟨Nat.le_of_ble_eq_true rfl, Nat.le_of_ble_eq_true rfl⟩) (rC_gr hK hw) hl.1 ⟨Nat.zero_le _, Nat.zero_le _⟩ rfl rfl (Nat.le_of_ble_eq_true rfl) dX9_from_5 (fun r5 _ H locs h hw => ?_)
  refine lv_if_eq (tgt := 22) hx hb dX9_from_8 (by decide) (fun hc => ?_) (fun hc => ?_)
  · replace h := h.1 hc
    refine lv_iconst (v := (-1)) hx hb dX9_from_22 (by decide) ?_
    rw [hZ]
    exact rt_i () hx hb hr hlocks hw h dX9_from_23
  · replace h := h.2 hc
    refine lv_aload_n hx hb dX9_from_11 rfl (lv_at hl 0 rfl) ?_
    refine gC_wh_pictures hx hb hts hin hown hK hw lk30 dX9_from_12 ?_
    refine lv_iload_n hx hb dX9_from_15 rfl (lv_at hl 1 rfl) ?_
    refine cV_i (b := (ad 2)) (As := [.int x1]) (rest := []) ⟨hx, hb, hml, hown, hts⟩ hK hw (c_pi_lookFrom x1 h) (cwV 1 hts (gd_RX9_156 hB) rfl rfl rfl (by decide +kernel) ⟨Nat.le_of_ble_eq_true rfl, Nat.le_of_ble_eq_true rfl⟩) (rC_pi hK hw) hl.1 ⟨Nat.zero_le _, Nat.zero_le _⟩ rfl rfl (Nat.le_of_ble_eq_true rfl) dX9_from_16 (fun r16 _ H locs h hw => ?_)
    refine lv_goto (tgt := 23) hx hb dX9_from_19 (by decide) ?_
    rw [hZ]
    exact rt_i () hx hb hr hlocks hw h dX9_from_23
def rm_wh_fewest : Room := { frames := 6, cells := 0, slots := 0, locals := 143 }
set_option maxHeartbeats 4000000 in
set_option maxRecDepth 100000 in
theorem c_wh_fewest {l : Launch} {D : va_G} {cI cL cZ : ClassId} {mx my : Nat} {A : Nat → Prop} {ad : Nat → Nat} {ga_sightings th_unseen th_goals tr_visited : Nat → Int64} {ga_bestShifts gr_kinds gr_before gr_columns gr_rows pi_cells pi_facings pi_sets po_needs ro_cells ro_lengths ro_shifts tr_marks wh_places : Nat → Int32} {ga_commonLength gr_width gr_height gr_size pi_size si_sightLaw si_sightRange th_commonLength tr_size : Int32} {ga_allTimes gr_floorCells gr_clearCells gr_standCells gr_firstColumn gr_lastColumn : Int64}  {Q : Int32 → (Nat → Int32) → (Nat → Int32) → Prop} (h : P_wh_fewest gr_width gr_size gr_columns gr_rows gr_floorCells gr_clearCells gr_standCells pi_cells pi_facings pi_sets pi_size po_needs si_sightLaw si_sightRange Q) : Met l yX9_fewest wsX9_fewest rm_wh_fewest (va_Pc [.ref (ad 9)] (WC D cI cL cZ mx my A (wdC cI cL cZ ad ga_sightings ga_bestShifts ga_commonLength ga_allTimes gr_width gr_height gr_size gr_kinds gr_before gr_columns gr_rows gr_floorCells gr_clearCells gr_standCells gr_firstColumn gr_lastColumn pi_cells pi_facings pi_sets pi_size po_needs ro_cells ro_lengths ro_shifts si_sightLaw si_sightRange th_unseen th_goals th_commonLength tr_marks tr_visited tr_size wh_places))) (va_Qi (fun (r : Int32) (u : (Nat → Int32) × (Nat → Int32)) => Q r u.1 u.2) (fun (u : (Nat → Int32) × (Nat → Int32)) t => PW D A (wdC cI cL cZ ad ga_sightings ga_bestShifts ga_commonLength ga_allTimes gr_width gr_height gr_size gr_kinds gr_before gr_columns gr_rows gr_floorCells gr_clearCells gr_standCells gr_firstColumn gr_lastColumn pi_cells pi_facings u.1 pi_size u.2 ro_cells ro_lengths ro_shifts si_sightLaw si_sightRange th_unseen th_goals th_commonLength tr_marks tr_visited tr_size wh_places) t.heap) A) 0 0 A := by
  refine Met.ofW (cc := cX9_fewest) (maxL := 1) (ret := (some .int)) (by decide) rfl ?_
  intro p e s m args below meth c s₁ B hml hv
  obtain ⟨hav, hP0, hD0, hK⟩ := hv
  have hx := B.exec
  have hb := B.bytes
  have hr := B.returns
  have hts := atoms_spec (ws := wsX9_fewest) B.pre
  have hown : s.vm.findClass RX9 = some m.cls := findClass_of_methodNamed B.named
  have hlocks := B.notSynchronized
  have hB : ∀ w ∈ BIG, w ∈ wsX9_fewest := fun _ h => List.mem_cons_of_mem _ h
  have hin : ∀ w ∈ wsX90, w ∈ wsX9_fewest := fun w h => hB w (inB_X9 w h)
  have lk30 := hts _ (hB _ m_302)
  have lk46 := hts _ (hB _ m_304)
  obtain ⟨Z, hZ⟩ : ∃ Z : State → Prop, Z = MQ below (va_Qi (fun (r : Int32) (u : (Nat → Int32) × (Nat → Int32)) => Q r u.1 u.2) (fun (u : (Nat → Int32) × (Nat → Int32)) t => PW D A (wdC cI cL cZ ad ga_sightings ga_bestShifts ga_commonLength ga_allTimes gr_width gr_height gr_size gr_kinds gr_before gr_columns gr_rows gr_floorCells gr_clearCells gr_standCells gr_firstColumn gr_lastColumn pi_cells pi_facings u.1 pi_size u.2 ro_cells ro_lengths ro_shifts si_sightLaw si_sightRange th_unseen th_goals th_commonLength tr_marks tr_visited tr_size wh_places) t.heap) A) args s 0 0 A := ⟨_, rfl⟩
  rw [← hZ]
  have hw : SW D A s.heap (wdC cI cL cZ ad ga_sightings ga_bestShifts ga_commonLength ga_allTimes gr_width gr_height gr_size gr_kinds gr_before gr_columns gr_rows gr_floorCells gr_clearCells gr_standCells gr_firstColumn gr_lastColumn pi_cells pi_facings pi_sets pi_size po_needs ro_cells ro_lengths ro_shifts si_sightLaw si_sightRange th_unseen th_goals th_commonLength tr_marks tr_visited tr_size wh_places) s.heap [] := ⟨hP0, hD0, va_S.rf⟩
  clear hP0 hD0 B
  unfold P_wh_fewest at h
  have he : entryFrame m args 1 = entryFrame m ([.ref (ad 9)] : List Value).toArray 1 := by rw [hav]
  refine W.eq he ?_
  have hl := lv_entry ([.ref (ad 9)]) (n := 1) (Nat.le_of_ble_eq_true rfl)
  rw [lg_entry_eq]
  generalize (lg_sl ([.ref (ad 9)]) ++ List.replicate (1 - (lg_sl ([.ref (ad 9)])).length) Slot.unset).toArray = ls at hl ⊢
  have hl : lv_has ls 1 [(0, .ref (ad 9))] := hl
  refine lv_aload_n hx hb dX9_fewest_0 rfl (lv_at hl 0 rfl) ?_
  refine gC_wh_pictures hx hb hts hin hown hK hw lk30 dX9_fewest_1 ?_
  refine cV_v (b := (ad 2)) (As := []) (rest := []) ⟨hx, hb, hml, hown, hts⟩ hK hw (c_pi_survey h) (cwV 0 hts (gd_RX9_159 hB) rfl rfl rfl (by decide +kernel) ⟨Nat.le_of_ble_eq_true rfl, Nat.le_of_ble_eq_true rfl⟩) (rC_pi hK hw) hl.1 ⟨Nat.zero_le _, Nat.zero_le _⟩ rfl rfl (Nat.le_of_ble_eq_true rfl) dX9_fewest_4 (fun pi_sets_4 H locs h hw => ?_)
  refine lv_aload_n hx hb dX9_fewest_7 rfl (lv_at hl 0 rfl) ?_
  refine gC_wh_posts hx hb hts hin hown hK hw lk46 dX9_fewest_8 ?_
  refine cV_v (b := (ad 3)) (As := []) (rest := []) ⟨hx, hb, hml, hown, hts⟩ hK hw (c_po_weigh h) (cwV 0 hts (gd_RX9_162 hB) rfl rfl rfl (by decide +kernel) ⟨Nat.le_of_ble_eq_true rfl, Nat.le_of_ble_eq_true rfl⟩) (rC_po hK hw) hl.1 ⟨Nat.zero_le _, Nat.zero_le _⟩ rfl rfl (Nat.le_of_ble_eq_true rfl) dX9_fewest_11 (fun po_needs_11 H locs h hw => ?_)
  refine lv_aload_n hx hb dX9_fewest_14 rfl (lv_at hl 0 rfl) ?_
  refine gC_wh_posts hx hb hts hin hown hK hw lk46 dX9_fewest_15 ?_
  refine cV_i (b := (ad 3)) (As := []) (rest := []) ⟨hx, hb, hml, hown, hts⟩ hK hw (c_po_size h) (cwV 0 hts (gd_RX9_165 hB) rfl rfl rfl (by decide +kernel) ⟨Nat.le_of_ble_eq_true rfl, Nat.le_of_ble_eq_true rfl⟩) (rC_po hK hw) hl.1 ⟨Nat.zero_le _, Nat.zero_le _⟩ rfl rfl (Nat.le_of_ble_eq_true rfl) dX9_fewest_18 (fun r18 _ H locs h hw => ?_)
  rw [hZ]
  exact rt_i (pi_sets_4, po_needs_11) hx hb hr hlocks hw h dX9_fewest_21
def rm_wh_post : Room := { frames := 6, cells := 0, slots := 0, locals := 143 }
set_option maxHeartbeats 4000000 in
set_option maxRecDepth 100000 in
theorem c_wh_post {l : Launch} {D : va_G} {cI cL cZ : ClassId} {mx my : Nat} {A : Nat → Prop} {ad : Nat → Nat} {ga_sightings th_unseen th_goals tr_visited : Nat → Int64} {ga_bestShifts gr_kinds gr_before gr_columns gr_rows pi_cells pi_facings pi_sets po_needs ro_cells ro_lengths ro_shifts tr_marks wh_places : Nat → Int32} {ga_commonLength gr_width gr_height gr_size pi_size si_sightLaw si_sightRange th_commonLength tr_size : Int32} {ga_allTimes gr_floorCells gr_clearCells gr_standCells gr_firstColumn gr_lastColumn : Int64} (x1 : Int32) {Q : Int32 → (Nat → Int32) → (Nat → Int32) → Prop} (h : P_wh_post gr_width gr_size gr_columns gr_rows gr_floorCells gr_clearCells gr_standCells pi_cells pi_facings pi_sets pi_size po_needs si_sightLaw si_sightRange x1 Q) : Met l yX9_post wsX9_post rm_wh_post (va_Pc [.ref (ad 9), .int x1] (WC D cI cL cZ mx my A (wdC cI cL cZ ad ga_sightings ga_bestShifts ga_commonLength ga_allTimes gr_width gr_height gr_size gr_kinds gr_before gr_columns gr_rows gr_floorCells gr_clearCells gr_standCells gr_firstColumn gr_lastColumn pi_cells pi_facings pi_sets pi_size po_needs ro_cells ro_lengths ro_shifts si_sightLaw si_sightRange th_unseen th_goals th_commonLength tr_marks tr_visited tr_size wh_places))) (va_Qi (fun (r : Int32) (u : (Nat → Int32) × (Nat → Int32)) => Q r u.1 u.2) (fun (u : (Nat → Int32) × (Nat → Int32)) t => PW D A (wdC cI cL cZ ad ga_sightings ga_bestShifts ga_commonLength ga_allTimes gr_width gr_height gr_size gr_kinds gr_before gr_columns gr_rows gr_floorCells gr_clearCells gr_standCells gr_firstColumn gr_lastColumn pi_cells pi_facings u.1 pi_size u.2 ro_cells ro_lengths ro_shifts si_sightLaw si_sightRange th_unseen th_goals th_commonLength tr_marks tr_visited tr_size wh_places) t.heap) A) 0 0 A := by
  refine Met.ofW (cc := cX9_post) (maxL := 2) (ret := (some .int)) (by decide) rfl ?_
  intro p e s m args below meth c s₁ B hml hv
  obtain ⟨hav, hP0, hD0, hK⟩ := hv
  have hx := B.exec
  have hb := B.bytes
  have hr := B.returns
  have hts := atoms_spec (ws := wsX9_post) B.pre
  have hown : s.vm.findClass RX9 = some m.cls := findClass_of_methodNamed B.named
  have hlocks := B.notSynchronized
  have hB : ∀ w ∈ BIG, w ∈ wsX9_post := fun _ h => List.mem_cons_of_mem _ h
  have hin : ∀ w ∈ wsX90, w ∈ wsX9_post := fun w h => hB w (inB_X9 w h)
  have lk30 := hts _ (hB _ m_302)
  have lk46 := hts _ (hB _ m_304)
  obtain ⟨Z, hZ⟩ : ∃ Z : State → Prop, Z = MQ below (va_Qi (fun (r : Int32) (u : (Nat → Int32) × (Nat → Int32)) => Q r u.1 u.2) (fun (u : (Nat → Int32) × (Nat → Int32)) t => PW D A (wdC cI cL cZ ad ga_sightings ga_bestShifts ga_commonLength ga_allTimes gr_width gr_height gr_size gr_kinds gr_before gr_columns gr_rows gr_floorCells gr_clearCells gr_standCells gr_firstColumn gr_lastColumn pi_cells pi_facings u.1 pi_size u.2 ro_cells ro_lengths ro_shifts si_sightLaw si_sightRange th_unseen th_goals th_commonLength tr_marks tr_visited tr_size wh_places) t.heap) A) args s 0 0 A := ⟨_, rfl⟩
  rw [← hZ]
  have hw : SW D A s.heap (wdC cI cL cZ ad ga_sightings ga_bestShifts ga_commonLength ga_allTimes gr_width gr_height gr_size gr_kinds gr_before gr_columns gr_rows gr_floorCells gr_clearCells gr_standCells gr_firstColumn gr_lastColumn pi_cells pi_facings pi_sets pi_size po_needs ro_cells ro_lengths ro_shifts si_sightLaw si_sightRange th_unseen th_goals th_commonLength tr_marks tr_visited tr_size wh_places) s.heap [] := ⟨hP0, hD0, va_S.rf⟩
  clear hP0 hD0 B
  unfold P_wh_post at h
  have he : entryFrame m args 2 = entryFrame m ([.ref (ad 9), .int x1] : List Value).toArray 2 := by rw [hav]
  refine W.eq he ?_
  have hl := lv_entry ([.ref (ad 9), .int x1]) (n := 2) (Nat.le_of_ble_eq_true rfl)
  rw [lg_entry_eq]
  generalize (lg_sl ([.ref (ad 9), .int x1]) ++ List.replicate (2 - (lg_sl ([.ref (ad 9), .int x1])).length) Slot.unset).toArray = ls at hl ⊢
  have hl : lv_has ls 2 [(0, .ref (ad 9)), (1, .int x1)] := hl
  refine lv_aload_n hx hb dX9_post_0 rfl (lv_at hl 0 rfl) ?_
  refine gC_wh_pictures hx hb hts hin hown hK hw lk30 dX9_post_1 ?_
  refine cV_v (b := (ad 2)) (As := []) (rest := []) ⟨hx, hb, hml, hown, hts⟩ hK hw (c_pi_survey h) (cwV 0 hts (gd_RX9_159 hB) rfl rfl rfl (by decide +kernel) ⟨Nat.le_of_ble_eq_true rfl, Nat.le_of_ble_eq_true rfl⟩) (rC_pi hK hw) hl.1 ⟨Nat.zero_le _, Nat.zero_le _⟩ rfl rfl (Nat.le_of_ble_eq_true rfl) dX9_post_4 (fun pi_sets_4 H locs h hw => ?_)
  refine lv_aload_n hx hb dX9_post_7 rfl (lv_at hl 0 rfl) ?_
  refine gC_wh_posts hx hb hts hin hown hK hw lk46 dX9_post_8 ?_
  refine cV_v (b := (ad 3)) (As := []) (rest := []) ⟨hx, hb, hml, hown, hts⟩ hK hw (c_po_weigh h) (cwV 0 hts (gd_RX9_162 hB) rfl rfl rfl (by decide +kernel) ⟨Nat.le_of_ble_eq_true rfl, Nat.le_of_ble_eq_true rfl⟩) (rC_po hK hw) hl.1 ⟨Nat.zero_le _, Nat.zero_le _⟩ rfl rfl (Nat.le_of_ble_eq_true rfl) dX9_post_11 (fun po_needs_11 H locs h hw => ?_)
  refine lv_aload_n hx hb dX9_post_14 rfl (lv_at hl 0 rfl) ?_
  refine gC_wh_posts hx hb hts hin hown hK hw lk46 dX9_post_15 ?_
  refine lv_iload_n hx hb dX9_post_18 rfl (lv_at hl 1 rfl) ?_
  refine cV_i (b := (ad 3)) (As := [.int x1]) (rest := []) ⟨hx, hb, hml, hown, hts⟩ hK hw (c_po_cellOf x1 h) (cwV 1 hts (gd_RX9_166 hB) rfl rfl rfl (by decide +kernel) ⟨Nat.le_of_ble_eq_true rfl, Nat.le_of_ble_eq_true rfl⟩) (rC_po hK hw) hl.1 ⟨Nat.zero_le _, Nat.zero_le _⟩ rfl rfl (Nat.le_of_ble_eq_true rfl) dX9_post_19 (fun r19 _ H locs h hw => ?_)
  rw [hZ]
  exact rt_i (pi_sets_4, po_needs_11) hx hb hr hlocks hw h dX9_post_22
def rm_wh_tour : Room := { frames := 6, cells := 0, slots := 0, locals := 143 }
set_option maxHeartbeats 4000000 in
set_option maxRecDepth 100000 in
theorem c_wh_tour {l : Launch} {D : va_G} {cI cL cZ : ClassId} {mx my : Nat} {A : Nat → Prop} {ad : Nat → Nat} {ga_sightings th_unseen th_goals tr_visited : Nat → Int64} {ga_bestShifts gr_kinds gr_before gr_columns gr_rows pi_cells pi_facings pi_sets po_needs ro_cells ro_lengths ro_shifts tr_marks wh_places : Nat → Int32} {ga_commonLength gr_width gr_height gr_size pi_size si_sightLaw si_sightRange th_commonLength tr_size : Int32} {ga_allTimes gr_floorCells gr_clearCells gr_standCells gr_firstColumn gr_lastColumn : Int64} (x1 : Int32) {Q : Int32 → (Nat → Int32) → (Nat → Int32) → (Nat → Int64) → Int32 → Prop} (h : P_wh_tour gr_width gr_height gr_size gr_columns gr_rows gr_floorCells gr_clearCells gr_standCells pi_cells pi_facings pi_sets pi_size si_sightLaw si_sightRange tr_marks tr_visited tr_size x1 Q) : Met l yX9_tour wsX9_tour rm_wh_tour (va_Pc [.ref (ad 9), .int x1] (WC D cI cL cZ mx my A (wdC cI cL cZ ad ga_sightings ga_bestShifts ga_commonLength ga_allTimes gr_width gr_height gr_size gr_kinds gr_before gr_columns gr_rows gr_floorCells gr_clearCells gr_standCells gr_firstColumn gr_lastColumn pi_cells pi_facings pi_sets pi_size po_needs ro_cells ro_lengths ro_shifts si_sightLaw si_sightRange th_unseen th_goals th_commonLength tr_marks tr_visited tr_size wh_places))) (va_Qi (fun (r : Int32) (u : (Nat → Int32) × (Nat → Int32) × (Nat → Int64) × Int32) => Q r u.1 u.2.1 u.2.2.1 u.2.2.2) (fun (u : (Nat → Int32) × (Nat → Int32) × (Nat → Int64) × Int32) t => PW D A (wdC cI cL cZ ad ga_sightings ga_bestShifts ga_commonLength ga_allTimes gr_width gr_height gr_size gr_kinds gr_before gr_columns gr_rows gr_floorCells gr_clearCells gr_standCells gr_firstColumn gr_lastColumn pi_cells pi_facings u.1 pi_size po_needs ro_cells ro_lengths ro_shifts si_sightLaw si_sightRange th_unseen th_goals th_commonLength u.2.1 u.2.2.1 u.2.2.2 wh_places) t.heap) A) 0 0 A := by
  refine Met.ofW (cc := cX9_tour) (maxL := 2) (ret := (some .int)) (by decide) rfl ?_
  intro p e s m args below meth c s₁ B hml hv
  obtain ⟨hav, hP0, hD0, hK⟩ := hv
  have hx := B.exec
  have hb := B.bytes
  have hr := B.returns
  have hts := atoms_spec (ws := wsX9_tour) B.pre
  have hown : s.vm.findClass RX9 = some m.cls := findClass_of_methodNamed B.named
  have hlocks := B.notSynchronized
  have hB : ∀ w ∈ BIG, w ∈ wsX9_tour := fun _ h => List.mem_cons_of_mem _ h
  have hin : ∀ w ∈ wsX90, w ∈ wsX9_tour := fun w h => hB w (inB_X9 w h)
  have lk12 := hts _ (hB _ m_300)
  have lk30 := hts _ (hB _ m_302)
  have lk67 := hts _ (hB _ m_306)
  obtain ⟨Z, hZ⟩ : ∃ Z : State → Prop, Z = MQ below (va_Qi (fun (r : Int32) (u : (Nat → Int32) × (Nat → Int32) × (Nat → Int64) × Int32) => Q r u.1 u.2.1 u.2.2.1 u.2.2.2) (fun (u : (Nat → Int32) × (Nat → Int32) × (Nat → Int64) × Int32) t => PW D A (wdC cI cL cZ ad ga_sightings ga_bestShifts ga_commonLength ga_allTimes gr_width gr_height gr_size gr_kinds gr_before gr_columns gr_rows gr_floorCells gr_clearCells gr_standCells gr_firstColumn gr_lastColumn pi_cells pi_facings u.1 pi_size po_needs ro_cells ro_lengths ro_shifts si_sightLaw si_sightRange th_unseen th_goals th_commonLength u.2.1 u.2.2.1 u.2.2.2 wh_places) t.heap) A) args s 0 0 A := ⟨_, rfl⟩
  rw [← hZ]
  have hw : SW D A s.heap (wdC cI cL cZ ad ga_sightings ga_bestShifts ga_commonLength ga_allTimes gr_width gr_height gr_size gr_kinds gr_before gr_columns gr_rows gr_floorCells gr_clearCells gr_standCells gr_firstColumn gr_lastColumn pi_cells pi_facings pi_sets pi_size po_needs ro_cells ro_lengths ro_shifts si_sightLaw si_sightRange th_unseen th_goals th_commonLength tr_marks tr_visited tr_size wh_places) s.heap [] := ⟨hP0, hD0, va_S.rf⟩
  clear hP0 hD0 B
  unfold P_wh_tour at h
  have he : entryFrame m args 2 = entryFrame m ([.ref (ad 9), .int x1] : List Value).toArray 2 := by rw [hav]
  refine W.eq he ?_
  have hl := lv_entry ([.ref (ad 9), .int x1]) (n := 2) (Nat.le_of_ble_eq_true rfl)
  rw [lg_entry_eq]
  generalize (lg_sl ([.ref (ad 9), .int x1]) ++ List.replicate (2 - (lg_sl ([.ref (ad 9), .int x1])).length) Slot.unset).toArray = ls at hl ⊢
  have hl : lv_has ls 2 [(0, .ref (ad 9)), (1, .int x1)] := hl
  refine lv_aload_n hx hb dX9_tour_0 rfl (lv_at hl 0 rfl) ?_
  refine gC_wh_grid hx hb hts hin hown hK hw lk12 dX9_tour_1 ?_
  refine lv_iload_n hx hb dX9_tour_4 rfl (lv_at hl 1 rfl) ?_
  refine cV_i (b := (ad 1)) (As := [.int x1]) (rest := []) ⟨hx, hb, hml, hown, hts⟩ hK hw (c_gr_isCell x1 h) (cwV 1 hts (gd_RX9_100 hB) rfl rfl rfl (by decide +kernel) ⟨Nat.le_of_ble_eq_true rfl, Nat.le_of_ble_eq_true rfl⟩) (rC_gr hK hw) hl.1 ⟨Nat.zero_le _, Nat.zero_le _⟩ rfl rfl (Nat.le_of_ble_eq_true rfl) dX9_tour_5 (fun r5 _ H locs h hw => ?_)
  refine lv_if_ne (tgt := 13) hx hb dX9_tour_8 (by decide) (fun hc => ?_) (fun hc => ?_)
  · replace h := h.2 hc
    refine lv_aload_n hx hb dX9_tour_13 rfl (lv_at hl 0 rfl) ?_
    refine gC_wh_grid hx hb hts hin hown hK hw lk12 dX9_tour_14 ?_
    refine lv_iload_n hx hb dX9_tour_17 rfl (lv_at hl 1 rfl) ?_
    refine cV_i (b := (ad 1)) (As := [.int x1]) (rest := []) ⟨hx, hb, hml, hown, hts⟩ hK hw (c_gr_mayStand x1 h) (cwV 1 hts (gd_RX9_167 hB) rfl rfl rfl (by decide +kernel) ⟨Nat.le_of_ble_eq_true rfl, Nat.le_of_ble_eq_true rfl⟩) (rC_gr hK hw) hl.1 ⟨Nat.zero_le _, Nat.zero_le _⟩ rfl rfl (Nat.le_of_ble_eq_true rfl) dX9_tour_18 (fun r18 _ H locs h hw => ?_)
    refine lv_if_ne (tgt := 27) hx hb dX9_tour_21 (by decide) (fun hc => ?_) (fun hc => ?_)
    · replace h := h.2 hc
      refine lv_aload_n hx hb dX9_tour_27 rfl (lv_at hl 0 rfl) ?_
      refine gC_wh_pictures hx hb hts hin hown hK hw lk30 dX9_tour_28 ?_
      refine cV_v (b := (ad 2)) (As := []) (rest := []) ⟨hx, hb, hml, hown, hts⟩ hK hw (c_pi_survey h) (cwV 0 hts (gd_RX9_159 hB) rfl rfl rfl (by decide +kernel) ⟨Nat.le_of_ble_eq_true rfl, Nat.le_of_ble_eq_true rfl⟩) (rC_pi hK hw) hl.1 ⟨Nat.zero_le _, Nat.zero_le _⟩ rfl rfl (Nat.le_of_ble_eq_true rfl) dX9_tour_31 (fun pi_sets_31 H locs h hw => ?_)
      refine lv_aload_n hx hb dX9_tour_34 rfl (lv_at hl 0 rfl) ?_
      refine gC_wh_tours hx hb hts hin hown hK hw lk67 dX9_tour_35 ?_
      refine lv_iload_n hx hb dX9_tour_38 rfl (lv_at hl 1 rfl) ?_
      refine cV_i (b := (ad 7)) (As := [.int x1]) (rest := []) ⟨hx, hb, hml, hown, hts⟩ hK hw (c_to_lengthFrom x1 h) (cwV 1 hts (gd_RX9_170 hB) rfl rfl rfl (by decide +kernel) ⟨Nat.le_of_ble_eq_true rfl, Nat.le_of_ble_eq_true rfl⟩) (rC_to hK hw) hl.1 ⟨Nat.zero_le _, Nat.zero_le _⟩ rfl rfl (Nat.le_of_ble_eq_true rfl) dX9_tour_39 (fun r39 u39 H locs h hw => ?_)
      obtain ⟨tr_marks_39, tr_visited_39, tr_size_39⟩ := u39
      rw [hZ]
      exact rt_i (pi_sets_31, tr_marks_39, tr_visited_39, tr_size_39) hx hb hr hlocks hw h dX9_tour_42
    · replace h := h.1 hc
      refine lv_bipush (v := (-3)) hx hb dX9_tour_24 (by decide) ?_
      rw [hZ]
      exact rt_i (pi_sets, tr_marks, tr_visited, tr_size) hx hb hr hlocks hw h dX9_tour_26
  · replace h := h.1 hc
    refine lv_iconst (v := (-1)) hx hb dX9_tour_11 (by decide) ?_
    rw [hZ]
    exact rt_i (pi_sets, tr_marks, tr_visited, tr_size) hx hb hr hlocks hw h dX9_tour_12
def rm_wh_tourStep : Room := { frames := 6, cells := 0, slots := 0, locals := 143 }
set_option maxHeartbeats 4000000 in
set_option maxRecDepth 100000 in
theorem c_wh_tourStep {l : Launch} {D : va_G} {cI cL cZ : ClassId} {mx my : Nat} {A : Nat → Prop} {ad : Nat → Nat} {ga_sightings th_unseen th_goals tr_visited : Nat → Int64} {ga_bestShifts gr_kinds gr_before gr_columns gr_rows pi_cells pi_facings pi_sets po_needs ro_cells ro_lengths ro_shifts tr_marks wh_places : Nat → Int32} {ga_commonLength gr_width gr_height gr_size pi_size si_sightLaw si_sightRange th_commonLength tr_size : Int32} {ga_allTimes gr_floorCells gr_clearCells gr_standCells gr_firstColumn gr_lastColumn : Int64} (x1 : Int32) (x2 : Int32) {Q : Int32 → (Nat → Int32) → (Nat → Int32) → (Nat → Int64) → Int32 → Prop} (h : P_wh_tourStep gr_width gr_height gr_size gr_columns gr_rows gr_floorCells gr_clearCells gr_standCells pi_cells pi_facings pi_sets pi_size si_sightLaw si_sightRange tr_marks tr_visited tr_size x1 x2 Q) : Met l yX9_tourStep wsX9_tourStep rm_wh_tourStep (va_Pc [.ref (ad 9), .int x1, .int x2] (WC D cI cL cZ mx my A (wdC cI cL cZ ad ga_sightings ga_bestShifts ga_commonLength ga_allTimes gr_width gr_height gr_size gr_kinds gr_before gr_columns gr_rows gr_floorCells gr_clearCells gr_standCells gr_firstColumn gr_lastColumn pi_cells pi_facings pi_sets pi_size po_needs ro_cells ro_lengths ro_shifts si_sightLaw si_sightRange th_unseen th_goals th_commonLength tr_marks tr_visited tr_size wh_places))) (va_Qi (fun (r : Int32) (u : (Nat → Int32) × (Nat → Int32) × (Nat → Int64) × Int32) => Q r u.1 u.2.1 u.2.2.1 u.2.2.2) (fun (u : (Nat → Int32) × (Nat → Int32) × (Nat → Int64) × Int32) t => PW D A (wdC cI cL cZ ad ga_sightings ga_bestShifts ga_commonLength ga_allTimes gr_width gr_height gr_size gr_kinds gr_before gr_columns gr_rows gr_floorCells gr_clearCells gr_standCells gr_firstColumn gr_lastColumn pi_cells pi_facings u.1 pi_size po_needs ro_cells ro_lengths ro_shifts si_sightLaw si_sightRange th_unseen th_goals th_commonLength u.2.1 u.2.2.1 u.2.2.2 wh_places) t.heap) A) 0 0 A := by
  refine Met.ofW (cc := cX9_tourStep) (maxL := 3) (ret := (some .int)) (by decide) rfl ?_
  intro p e s m args below meth c s₁ B hml hv
  obtain ⟨hav, hP0, hD0, hK⟩ := hv
  have hx := B.exec
  have hb := B.bytes
  have hr := B.returns
  have hts := atoms_spec (ws := wsX9_tourStep) B.pre
  have hown : s.vm.findClass RX9 = some m.cls := findClass_of_methodNamed B.named
  have hlocks := B.notSynchronized
  have hB : ∀ w ∈ BIG, w ∈ wsX9_tourStep := fun _ h => List.mem_cons_of_mem _ h
  have hin : ∀ w ∈ wsX90, w ∈ wsX9_tourStep := fun w h => hB w (inB_X9 w h)
  have lk12 := hts _ (hB _ m_300)
  have lk30 := hts _ (hB _ m_302)
  have lk67 := hts _ (hB _ m_306)
  obtain ⟨Z, hZ⟩ : ∃ Z : State → Prop, Z = MQ below (va_Qi (fun (r : Int32) (u : (Nat → Int32) × (Nat → Int32) × (Nat → Int64) × Int32) => Q r u.1 u.2.1 u.2.2.1 u.2.2.2) (fun (u : (Nat → Int32) × (Nat → Int32) × (Nat → Int64) × Int32) t => PW D A (wdC cI cL cZ ad ga_sightings ga_bestShifts ga_commonLength ga_allTimes gr_width gr_height gr_size gr_kinds gr_before gr_columns gr_rows gr_floorCells gr_clearCells gr_standCells gr_firstColumn gr_lastColumn pi_cells pi_facings u.1 pi_size po_needs ro_cells ro_lengths ro_shifts si_sightLaw si_sightRange th_unseen th_goals th_commonLength u.2.1 u.2.2.1 u.2.2.2 wh_places) t.heap) A) args s 0 0 A := ⟨_, rfl⟩
  rw [← hZ]
  have hw : SW D A s.heap (wdC cI cL cZ ad ga_sightings ga_bestShifts ga_commonLength ga_allTimes gr_width gr_height gr_size gr_kinds gr_before gr_columns gr_rows gr_floorCells gr_clearCells gr_standCells gr_firstColumn gr_lastColumn pi_cells pi_facings pi_sets pi_size po_needs ro_cells ro_lengths ro_shifts si_sightLaw si_sightRange th_unseen th_goals th_commonLength tr_marks tr_visited tr_size wh_places) s.heap [] := ⟨hP0, hD0, va_S.rf⟩
  clear hP0 hD0 B
  unfold P_wh_tourStep at h
  have he : entryFrame m args 3 = entryFrame m ([.ref (ad 9), .int x1, .int x2] : List Value).toArray 3 := by rw [hav]
  refine W.eq he ?_
  have hl := lv_entry ([.ref (ad 9), .int x1, .int x2]) (n := 3) (Nat.le_of_ble_eq_true rfl)
  rw [lg_entry_eq]
  generalize (lg_sl ([.ref (ad 9), .int x1, .int x2]) ++ List.replicate (3 - (lg_sl ([.ref (ad 9), .int x1, .int x2])).length) Slot.unset).toArray = ls at hl ⊢
  have hl : lv_has ls 3 [(0, .ref (ad 9)), (1, .int x1), (2, .int x2)] := hl
  refine lv_aload_n hx hb dX9_tourStep_0 rfl (lv_at hl 0 rfl) ?_
  refine gC_wh_grid hx hb hts hin hown hK hw lk12 dX9_tourStep_1 ?_
  refine lv_iload_n hx hb dX9_tourStep_4 rfl (lv_at hl 1 rfl) ?_
  refine cV_i (b := (ad 1)) (As := [.int x1]) (rest := []) ⟨hx, hb, hml, hown, hts⟩ hK hw (c_gr_isCell x1 h) (cwV 1 hts (gd_RX9_100 hB) rfl rfl rfl (by decide +kernel) ⟨Nat.le_of_ble_eq_true rfl, Nat.le_of_ble_eq_true rfl⟩) (rC_gr hK hw) hl.1 ⟨Nat.zero_le _, Nat.zero_le _⟩ rfl rfl (Nat.le_of_ble_eq_true rfl) dX9_tourStep_5 (fun r5 _ H locs h hw => ?_)
  refine lv_if_ne (tgt := 13) hx hb dX9_tourStep_8 (by decide) (fun hc => ?_) (fun hc => ?_)
  · replace h := h.2 hc
    refine lv_aload_n hx hb dX9_tourStep_13 rfl (lv_at hl 0 rfl) ?_
    refine gC_wh_grid hx hb hts hin hown hK hw lk12 dX9_tourStep_14 ?_
    refine lv_iload_n hx hb dX9_tourStep_17 rfl (lv_at hl 1 rfl) ?_
    refine cV_i (b := (ad 1)) (As := [.int x1]) (rest := []) ⟨hx, hb, hml, hown, hts⟩ hK hw (c_gr_mayStand x1 h) (cwV 1 hts (gd_RX9_167 hB) rfl rfl rfl (by decide +kernel) ⟨Nat.le_of_ble_eq_true rfl, Nat.le_of_ble_eq_true rfl⟩) (rC_gr hK hw) hl.1 ⟨Nat.zero_le _, Nat.zero_le _⟩ rfl rfl (Nat.le_of_ble_eq_true rfl) dX9_tourStep_18 (fun r18 _ H locs h hw => ?_)
    refine lv_if_ne (tgt := 27) hx hb dX9_tourStep_21 (by decide) (fun hc => ?_) (fun hc => ?_)
    · replace h := h.2 hc
      refine lv_aload_n hx hb dX9_tourStep_27 rfl (lv_at hl 0 rfl) ?_
      refine gC_wh_pictures hx hb hts hin hown hK hw lk30 dX9_tourStep_28 ?_
      refine cV_v (b := (ad 2)) (As := []) (rest := []) ⟨hx, hb, hml, hown, hts⟩ hK hw (c_pi_survey h) (cwV 0 hts (gd_RX9_159 hB) rfl rfl rfl (by decide +kernel) ⟨Nat.le_of_ble_eq_true rfl, Nat.le_of_ble_eq_true rfl⟩) (rC_pi hK hw) hl.1 ⟨Nat.zero_le _, Nat.zero_le _⟩ rfl rfl (Nat.le_of_ble_eq_true rfl) dX9_tourStep_31 (fun pi_sets_31 H locs h hw => ?_)
      refine lv_aload_n hx hb dX9_tourStep_34 rfl (lv_at hl 0 rfl) ?_
      refine gC_wh_tours hx hb hts hin hown hK hw lk67 dX9_tourStep_35 ?_
      refine lv_iload_n hx hb dX9_tourStep_38 rfl (lv_at hl 1 rfl) ?_
      refine lv_iload_n hx hb dX9_tourStep_39 rfl (lv_at hl 2 rfl) ?_
      refine cV_i (b := (ad 7)) (As := [.int x1, .int x2]) (rest := []) ⟨hx, hb, hml, hown, hts⟩ hK hw (c_to_moveFrom x1 x2 h) (cwV 2 hts (gd_RX9_173 hB) rfl rfl rfl (by decide +kernel) ⟨Nat.le_of_ble_eq_true rfl, Nat.le_of_ble_eq_true rfl⟩) (rC_to hK hw) hl.1 ⟨Nat.zero_le _, Nat.zero_le _⟩ rfl rfl (Nat.le_of_ble_eq_true rfl) dX9_tourStep_40 (fun r40 u40 H locs h hw => ?_)
      obtain ⟨tr_marks_40, tr_visited_40, tr_size_40⟩ := u40
      rw [hZ]
      exact rt_i (pi_sets_31, tr_marks_40, tr_visited_40, tr_size_40) hx hb hr hlocks hw h dX9_tourStep_43
    · replace h := h.1 hc
      refine lv_bipush (v := (-3)) hx hb dX9_tourStep_24 (by decide) ?_
      rw [hZ]
      exact rt_i (pi_sets, tr_marks, tr_visited, tr_size) hx hb hr hlocks hw h dX9_tourStep_26
  · replace h := h.1 hc
    refine lv_iconst (v := (-1)) hx hb dX9_tourStep_11 (by decide) ?_
    rw [hZ]
    exact rt_i (pi_sets, tr_marks, tr_visited, tr_size) hx hb hr hlocks hw h dX9_tourStep_12
def rm_wh_isWatcher : Room := { frames := 0, cells := 0, slots := 0, locals := 0 }
set_option maxHeartbeats 4000000 in
set_option maxRecDepth 100000 in
theorem c_wh_isWatcher {l : Launch} {D : va_G} {cI cL cZ : ClassId} {mx my : Nat} {A : Nat → Prop}  {w : va_W} (x0 : Int32) {Q : Int32 → Prop} (h : P_wh_isWatcher x0 Q) : Met l yX9_isWatcher wsX9_isWatcher rm_wh_isWatcher (va_Pc [.int x0] (WC D cI cL cZ mx my A w)) (va_Qi (fun (r : Int32) (u : Unit) => Q r) (fun (u : Unit) t => PW D A w t.heap) A) 0 0 A := by
  refine Met.ofW (cc := cX9_isWatcher) (maxL := 1) (ret := (some .boolean)) (by decide) rfl ?_
  intro p e s m args below meth c s₁ B hml hv
  obtain ⟨hav, hP0, hD0, hK⟩ := hv
  have hx := B.exec
  have hb := B.bytes
  have hr := B.returns
  have hts := atoms_spec (ws := wsX9_isWatcher) B.pre
  have hown : s.vm.findClass RX9 = some m.cls := findClass_of_methodNamed B.named
  have hlocks := B.notSynchronized
  have hB : ∀ w ∈ BIG, w ∈ wsX9_isWatcher := fun _ h => List.mem_cons_of_mem _ h
  obtain ⟨Z, hZ⟩ : ∃ Z : State → Prop, Z = MQ below (va_Qi (fun (r : Int32) (u : Unit) => Q r) (fun (u : Unit) t => PW D A w t.heap) A) args s 0 0 A := ⟨_, rfl⟩
  rw [← hZ]
  have hw : SW D A s.heap w s.heap [] := ⟨hP0, hD0, va_S.rf⟩
  clear hP0 hD0 B
  unfold P_wh_isWatcher at h
  have he : entryFrame m args 1 = entryFrame m ([.int x0] : List Value).toArray 1 := by rw [hav]
  refine W.eq he ?_
  have hl := lv_entry ([.int x0]) (n := 1) (Nat.le_of_ble_eq_true rfl)
  rw [lg_entry_eq]
  generalize (lg_sl ([.int x0]) ++ List.replicate (1 - (lg_sl ([.int x0])).length) Slot.unset).toArray = ls at hl ⊢
  have hl : lv_has ls 1 [(0, .int x0)] := hl
  refine lv_iload_n hx hb dX9_isWatcher_0 rfl (lv_at hl 0 rfl) ?_
  refine lv_if_lt (tgt := 13) hx hb dX9_isWatcher_1 (by decide) (fun hc => ?_) (fun hc => ?_)
  · replace h := h.1 hc
    refine lv_iconst (v := 0) hx hb dX9_isWatcher_13 (by decide) ?_
    rw [hZ]
    exact rt_z () hx hb hr hlocks hw (by decide) h dX9_isWatcher_14
  · replace h := h.2 hc
    refine lv_iload_n hx hb dX9_isWatcher_4 rfl (lv_at hl 0 rfl) ?_
    refine lv_iconst (v := 4) hx hb dX9_isWatcher_5 (by decide) ?_
    refine lv_icmp_ge (tgt := 13) hx hb dX9_isWatcher_6 (by decide) (fun hc => ?_) (fun hc => ?_)
    · replace h := h.1 hc
      refine lv_iconst (v := 0) hx hb dX9_isWatcher_13 (by decide) ?_
      rw [hZ]
      exact rt_z () hx hb hr hlocks hw (by decide) h dX9_isWatcher_14
    · replace h := h.2 hc
      refine lv_iconst (v := 1) hx hb dX9_isWatcher_9 (by decide) ?_
      refine lv_goto (tgt := 14) hx hb dX9_isWatcher_10 (by decide) ?_
      rw [hZ]
      exact rt_z () hx hb hr hlocks hw (by decide) h dX9_isWatcher_14
def rm_wh_step : Room := { frames := 3, cells := 0, slots := 0, locals := 66 }
set_option maxHeartbeats 4000000 in
set_option maxRecDepth 100000 in
theorem c_wh_step {l : Launch} {D : va_G} {cI cL cZ : ClassId} {mx my : Nat} {A : Nat → Prop} {ad : Nat → Nat} {ga_sightings th_unseen th_goals tr_visited : Nat → Int64} {ga_bestShifts gr_kinds gr_before gr_columns gr_rows pi_cells pi_facings pi_sets po_needs ro_cells ro_lengths ro_shifts tr_marks wh_places : Nat → Int32} {ga_commonLength gr_width gr_height gr_size pi_size si_sightLaw si_sightRange th_commonLength tr_size : Int32} {ga_allTimes gr_floorCells gr_clearCells gr_standCells gr_firstColumn gr_lastColumn : Int64} (x1 : Int32) (x2 : Int32) {Q : Int32 → (Nat → Int32) → (Nat → Int32) → Prop} (h : P_wh_step gr_size gr_columns gr_rows gr_standCells ro_cells ro_lengths x1 x2 Q) : Met l yX9_step wsX9_step rm_wh_step (va_Pc [.ref (ad 9), .int x1, .int x2] (WC D cI cL cZ mx my A (wdC cI cL cZ ad ga_sightings ga_bestShifts ga_commonLength ga_allTimes gr_width gr_height gr_size gr_kinds gr_before gr_columns gr_rows gr_floorCells gr_clearCells gr_standCells gr_firstColumn gr_lastColumn pi_cells pi_facings pi_sets pi_size po_needs ro_cells ro_lengths ro_shifts si_sightLaw si_sightRange th_unseen th_goals th_commonLength tr_marks tr_visited tr_size wh_places))) (va_Qi (fun (r : Int32) (u : (Nat → Int32) × (Nat → Int32)) => Q r u.1 u.2) (fun (u : (Nat → Int32) × (Nat → Int32)) t => PW D A (wdC cI cL cZ ad ga_sightings ga_bestShifts ga_commonLength ga_allTimes gr_width gr_height gr_size gr_kinds gr_before gr_columns gr_rows gr_floorCells gr_clearCells gr_standCells gr_firstColumn gr_lastColumn pi_cells pi_facings pi_sets pi_size po_needs u.1 u.2 ro_shifts si_sightLaw si_sightRange th_unseen th_goals th_commonLength tr_marks tr_visited tr_size wh_places) t.heap) A) 0 0 A := by
  refine Met.ofW (cc := cX9_step) (maxL := 4) (ret := (some .int)) (by decide) rfl ?_
  intro p e s m args below meth c s₁ B hml hv
  obtain ⟨hav, hP0, hD0, hK⟩ := hv
  have hx := B.exec
  have hb := B.bytes
  have hr := B.returns
  have hts := atoms_spec (ws := wsX9_step) B.pre
  have hown : s.vm.findClass RX9 = some m.cls := findClass_of_methodNamed B.named
  have hlocks := B.notSynchronized
  have hB : ∀ w ∈ BIG, w ∈ wsX9_step := fun _ h => List.mem_cons_of_mem _ h
  have hin : ∀ w ∈ wsX90, w ∈ wsX9_step := fun w h => hB w (inB_X9 w h)
  have lk12 := hts _ (hB _ m_300)
  have lk37 := hts _ (hB _ m_303)
  obtain ⟨Z, hZ⟩ : ∃ Z : State → Prop, Z = MQ below (va_Qi (fun (r : Int32) (u : (Nat → Int32) × (Nat → Int32)) => Q r u.1 u.2) (fun (u : (Nat → Int32) × (Nat → Int32)) t => PW D A (wdC cI cL cZ ad ga_sightings ga_bestShifts ga_commonLength ga_allTimes gr_width gr_height gr_size gr_kinds gr_before gr_columns gr_rows gr_floorCells gr_clearCells gr_standCells gr_firstColumn gr_lastColumn pi_cells pi_facings pi_sets pi_size po_needs u.1 u.2 ro_shifts si_sightLaw si_sightRange th_unseen th_goals th_commonLength tr_marks tr_visited tr_size wh_places) t.heap) A) args s 0 0 A := ⟨_, rfl⟩
  rw [← hZ]
  have hw : SW D A s.heap (wdC cI cL cZ ad ga_sightings ga_bestShifts ga_commonLength ga_allTimes gr_width gr_height gr_size gr_kinds gr_before gr_columns gr_rows gr_floorCells gr_clearCells gr_standCells gr_firstColumn gr_lastColumn pi_cells pi_facings pi_sets pi_size po_needs ro_cells ro_lengths ro_shifts si_sightLaw si_sightRange th_unseen th_goals th_commonLength tr_marks tr_visited tr_size wh_places) s.heap [] := ⟨hP0, hD0, va_S.rf⟩
  clear hP0 hD0 B
  have J69 : ∀ (_ : True) (ro_cells : (Nat → Int32)) (ro_lengths : (Nat → Int32)) (x1 : Int32) (x2 : Int32) , B_wh_step_69 Q ro_cells ro_lengths x1 x2 → ∀ (H : Heap) (locs : List Loc) (ls : Array Slot), SW D A s.heap (wdC cI cL cZ ad ga_sightings ga_bestShifts ga_commonLength ga_allTimes gr_width gr_height gr_size gr_kinds gr_before gr_columns gr_rows gr_floorCells gr_clearCells gr_standCells gr_firstColumn gr_lastColumn pi_cells pi_facings pi_sets pi_size po_needs ro_cells ro_lengths ro_shifts si_sightLaw si_sightRange th_unseen th_goals th_commonLength tr_marks tr_visited tr_size wh_places) H locs → lv_has ls 4 [(0, .ref (ad 9)), (1, .int x1), (2, .int x2)] → W p l e (headSpec wsX9_step rm_wh_step).room s m args below meth c H locs 0 0 Z (F0 m 69 ls []) := by
    intro _  ro_cells ro_lengths x1 x2 h H locs ls hw hl
    unfold B_wh_step_69 at h
    refine lv_aload_n hx hb dX9_step_69 rfl (lv_at hl 0 rfl) ?_
    refine gC_wh_rounds hx hb hts hin hown hK hw lk37 dX9_step_70 ?_
    refine lv_iload_n hx hb dX9_step_73 rfl (lv_at hl 1 rfl) ?_
    refine lv_iload_n hx hb dX9_step_74 rfl (lv_at hl 2 rfl) ?_
    refine cV_i (b := (ad 4)) (As := [.int x1, .int x2]) (rest := []) ⟨hx, hb, hml, hown, hts⟩ hK hw (c_ro_lengthen x1 x2 h) (cwV 2 hts (gd_RX9_185 hB) rfl rfl rfl (by decide +kernel) ⟨Nat.le_of_ble_eq_true rfl, Nat.le_of_ble_eq_true rfl⟩) (rC_ro hK hw) hl.1 ⟨Nat.zero_le _, Nat.zero_le _⟩ rfl rfl (Nat.le_of_ble_eq_true rfl) dX9_step_75 (fun r75 u75 H locs h hw => ?_)
    obtain ⟨ro_cells_75, ro_lengths_75⟩ := u75
    rw [hZ]
    exact rt_i (ro_cells_75, ro_lengths_75) hx hb hr hlocks hw h dX9_step_78
  unfold P_wh_step at h
  have he : entryFrame m args 4 = entryFrame m ([.ref (ad 9), .int x1, .int x2] : List Value).toArray 4 := by rw [hav]
  refine W.eq he ?_
  have hl := lv_entry ([.ref (ad 9), .int x1, .int x2]) (n := 4) (Nat.le_of_ble_eq_true rfl)
  rw [lg_entry_eq]
  generalize (lg_sl ([.ref (ad 9), .int x1, .int x2]) ++ List.replicate (4 - (lg_sl ([.ref (ad 9), .int x1, .int x2])).length) Slot.unset).toArray = ls at hl ⊢
  have hl : lv_has ls 4 [(0, .ref (ad 9)), (1, .int x1), (2, .int x2)] := hl
  refine lv_iload_n hx hb dX9_step_0 rfl (lv_at hl 1 rfl) ?_
  refine cS_i (As := [.int x1]) (rest := []) ⟨hx, hb, hml, hown, hts⟩ hK hw (c_wh_isWatcher x1 h) (va_cwS 1 hts (gd_RX9_176 hB) rfl rfl rfl (by decide +kernel) ⟨Nat.le_of_ble_eq_true rfl, Nat.le_of_ble_eq_true rfl⟩) hl.1 ⟨Nat.zero_le _, Nat.zero_le _⟩ rfl rfl (Nat.le_of_ble_eq_true rfl) dX9_step_1 (fun r1 _ H locs h hw => ?_)
  refine lv_if_eq (tgt := 18) hx hb dX9_step_4 (by decide) (fun hc => ?_) (fun hc => ?_)
  · replace h := h.1 hc
    refine lv_iconst (v := (-1)) hx hb dX9_step_18 (by decide) ?_
    rw [hZ]
    exact rt_i (ro_cells, ro_lengths) hx hb hr hlocks hw h dX9_step_19
  · replace h := h.2 hc
    refine lv_aload_n hx hb dX9_step_7 rfl (lv_at hl 0 rfl) ?_
    refine gC_wh_grid hx hb hts hin hown hK hw lk12 dX9_step_8 ?_
    refine lv_iload_n hx hb dX9_step_11 rfl (lv_at hl 2 rfl) ?_
    refine cV_i (b := (ad 1)) (As := [.int x2]) (rest := []) ⟨hx, hb, hml, hown, hts⟩ hK hw (c_gr_isCell x2 h) (cwV 1 hts (gd_RX9_100 hB) rfl rfl rfl (by decide +kernel) ⟨Nat.le_of_ble_eq_true rfl, Nat.le_of_ble_eq_true rfl⟩) (rC_gr hK hw) hl.1 ⟨Nat.zero_le _, Nat.zero_le _⟩ rfl rfl (Nat.le_of_ble_eq_true rfl) dX9_step_12 (fun r12 _ H locs h hw => ?_)
    refine lv_if_ne (tgt := 20) hx hb dX9_step_15 (by decide) (fun hc => ?_) (fun hc => ?_)
    · replace h := h.2 hc
      refine lv_aload_n hx hb dX9_step_20 rfl (lv_at hl 0 rfl) ?_
      refine gC_wh_grid hx hb hts hin hown hK hw lk12 dX9_step_21 ?_
      refine lv_iload_n hx hb dX9_step_24 rfl (lv_at hl 2 rfl) ?_
      refine cV_i (b := (ad 1)) (As := [.int x2]) (rest := []) ⟨hx, hb, hml, hown, hts⟩ hK hw (c_gr_mayStand x2 h) (cwV 1 hts (gd_RX9_167 hB) rfl rfl rfl (by decide +kernel) ⟨Nat.le_of_ble_eq_true rfl, Nat.le_of_ble_eq_true rfl⟩) (rC_gr hK hw) hl.1 ⟨Nat.zero_le _, Nat.zero_le _⟩ rfl rfl (Nat.le_of_ble_eq_true rfl) dX9_step_25 (fun r25 _ H locs h hw => ?_)
      refine lv_if_ne (tgt := 34) hx hb dX9_step_28 (by decide) (fun hc => ?_) (fun hc => ?_)
      · replace h := h.2 hc
        refine lv_aload_n hx hb dX9_step_34 rfl (lv_at hl 0 rfl) ?_
        refine gC_wh_rounds hx hb hts hin hown hK hw lk37 dX9_step_35 ?_
        refine lv_iload_n hx hb dX9_step_38 rfl (lv_at hl 1 rfl) ?_
        refine cV_i (b := (ad 4)) (As := [.int x1]) (rest := []) ⟨hx, hb, hml, hown, hts⟩ hK hw (c_ro_lastOf x1 h) (cwV 1 hts (gd_RX9_179 hB) rfl rfl rfl (by decide +kernel) ⟨Nat.le_of_ble_eq_true rfl, Nat.le_of_ble_eq_true rfl⟩) (rC_ro hK hw) hl.1 ⟨Nat.zero_le _, Nat.zero_le _⟩ rfl rfl (Nat.le_of_ble_eq_true rfl) dX9_step_39 (fun r39 _ H locs h hw => ?_)
        refine lv_istore_n (lv' := [(3, .int r39), (0, .ref (ad 9)), (1, .int x1), (2, .int x2)]) hx hb dX9_step_42 rfl hl (by decide) rfl (fun ls hl => ?_)
        refine lv_iload_n hx hb dX9_step_43 rfl (lv_at hl 0 rfl) ?_
        refine lv_bipush (v := (-9)) hx hb dX9_step_44 (by decide) ?_
        refine lv_icmp_eq (tgt := 69) hx hb dX9_step_46 (by decide) (fun hc => ?_) (fun hc => ?_)
        · replace h := h.1 hc
          exact J69 trivial  _ _ _ _ h _ _ _ hw (lv_sub hl [1, 2, 3] rfl)
        · replace h := h.2 hc
          refine lv_iload_n hx hb dX9_step_49 rfl (lv_at hl 0 rfl) ?_
          refine lv_iload_n hx hb dX9_step_50 rfl (lv_at hl 3 rfl) ?_
          refine lv_icmp_eq (tgt := 69) hx hb dX9_step_51 (by decide) (fun hc => ?_) (fun hc => ?_)
          · replace h := h.1 hc
            exact J69 trivial  _ _ _ _ h _ _ _ hw (lv_sub hl [1, 2, 3] rfl)
          · replace h := h.2 hc
            refine lv_aload_n hx hb dX9_step_54 rfl (lv_at hl 1 rfl) ?_
            refine gC_wh_grid hx hb hts hin hown hK hw lk12 dX9_step_55 ?_
            refine lv_iload_n hx hb dX9_step_58 rfl (lv_at hl 0 rfl) ?_
            refine lv_iload_n hx hb dX9_step_59 rfl (lv_at hl 3 rfl) ?_
            refine cV_i (b := (ad 1)) (As := [.int r39, .int x2]) (rest := []) ⟨hx, hb, hml, hown, hts⟩ hK hw (c_gr_areNeighbours r39 x2 h) (cwV 2 hts (gd_RX9_182 hB) rfl rfl rfl (by decide +kernel) ⟨Nat.le_of_ble_eq_true rfl, Nat.le_of_ble_eq_true rfl⟩) (rC_gr hK hw) hl.1 ⟨Nat.zero_le _, Nat.zero_le _⟩ rfl rfl (Nat.le_of_ble_eq_true rfl) dX9_step_60 (fun r60 _ H locs h hw => ?_)
            refine lv_if_ne (tgt := 69) hx hb dX9_step_63 (by decide) (fun hc => ?_) (fun hc => ?_)
            · replace h := h.2 hc
              exact J69 trivial  _ _ _ _ h _ _ _ hw (lv_sub hl [1, 2, 3] rfl)
            · replace h := h.1 hc
              refine lv_bipush (v := (-3)) hx hb dX9_step_66 (by decide) ?_
              rw [hZ]
              exact rt_i (ro_cells, ro_lengths) hx hb hr hlocks hw h dX9_step_68
      · replace h := h.1 hc
        refine lv_bipush (v := (-3)) hx hb dX9_step_31 (by decide) ?_
        rw [hZ]
        exact rt_i (ro_cells, ro_lengths) hx hb hr hlocks hw h dX9_step_33
    · replace h := h.1 hc
      refine lv_iconst (v := (-1)) hx hb dX9_step_18 (by decide) ?_
      rw [hZ]
      exact rt_i (ro_cells, ro_lengths) hx hb hr hlocks hw h dX9_step_19
def rm_wh_wipe : Room := { frames := 1, cells := 0, slots := 0, locals := 22 }
set_option maxHeartbeats 4000000 in
set_option maxRecDepth 100000 in
theorem c_wh_wipe {l : Launch} {D : va_G} {cI cL cZ : ClassId} {mx my : Nat} {A : Nat → Prop} {ad : Nat → Nat} {ga_sightings th_unseen th_goals tr_visited : Nat → Int64} {ga_bestShifts gr_kinds gr_before gr_columns gr_rows pi_cells pi_facings pi_sets po_needs ro_cells ro_lengths ro_shifts tr_marks wh_places : Nat → Int32} {ga_commonLength gr_width gr_height gr_size pi_size si_sightLaw si_sightRange th_commonLength tr_size : Int32} {ga_allTimes gr_floorCells gr_clearCells gr_standCells gr_firstColumn gr_lastColumn : Int64} (x1 : Int32) {Q : Int32 → (Nat → Int32) → Prop} (h : P_wh_wipe ro_lengths x1 Q) : Met l yX9_wipe wsX9_wipe rm_wh_wipe (va_Pc [.ref (ad 9), .int x1] (WC D cI cL cZ mx my A (wdC cI cL cZ ad ga_sightings ga_bestShifts ga_commonLength ga_allTimes gr_width gr_height gr_size gr_kinds gr_before gr_columns gr_rows gr_floorCells gr_clearCells gr_standCells gr_firstColumn gr_lastColumn pi_cells pi_facings pi_sets pi_size po_needs ro_cells ro_lengths ro_shifts si_sightLaw si_sightRange th_unseen th_goals th_commonLength tr_marks tr_visited tr_size wh_places))) (va_Qi (fun (r : Int32) (u : (Nat → Int32)) => Q r u) (fun (u : (Nat → Int32)) t => PW D A (wdC cI cL cZ ad ga_sightings ga_bestShifts ga_commonLength ga_allTimes gr_width gr_height gr_size gr_kinds gr_before gr_columns gr_rows gr_floorCells gr_clearCells gr_standCells gr_firstColumn gr_lastColumn pi_cells pi_facings pi_sets pi_size po_needs ro_cells u ro_shifts si_sightLaw si_sightRange th_unseen th_goals th_commonLength tr_marks tr_visited tr_size wh_places) t.heap) A) 0 0 A := by
  refine Met.ofW (cc := cX9_wipe) (maxL := 2) (ret := (some .int)) (by decide) rfl ?_
  intro p e s m args below meth c s₁ B hml hv
  obtain ⟨hav, hP0, hD0, hK⟩ := hv
  have hx := B.exec
  have hb := B.bytes
  have hr := B.returns
  have hts := atoms_spec (ws := wsX9_wipe) B.pre
  have hown : s.vm.findClass RX9 = some m.cls := findClass_of_methodNamed B.named
  have hlocks := B.notSynchronized
  have hB : ∀ w ∈ BIG, w ∈ wsX9_wipe := fun _ h => List.mem_cons_of_mem _ h
  have hin : ∀ w ∈ wsX90, w ∈ wsX9_wipe := fun w h => hB w (inB_X9 w h)
  have lk37 := hts _ (hB _ m_303)
  obtain ⟨Z, hZ⟩ : ∃ Z : State → Prop, Z = MQ below (va_Qi (fun (r : Int32) (u : (Nat → Int32)) => Q r u) (fun (u : (Nat → Int32)) t => PW D A (wdC cI cL cZ ad ga_sightings ga_bestShifts ga_commonLength ga_allTimes gr_width gr_height gr_size gr_kinds gr_before gr_columns gr_rows gr_floorCells gr_clearCells gr_standCells gr_firstColumn gr_lastColumn pi_cells pi_facings pi_sets pi_size po_needs ro_cells u ro_shifts si_sightLaw si_sightRange th_unseen th_goals th_commonLength tr_marks tr_visited tr_size wh_places) t.heap) A) args s 0 0 A := ⟨_, rfl⟩
  rw [← hZ]
  have hw : SW D A s.heap (wdC cI cL cZ ad ga_sightings ga_bestShifts ga_commonLength ga_allTimes gr_width gr_height gr_size gr_kinds gr_before gr_columns gr_rows gr_floorCells gr_clearCells gr_standCells gr_firstColumn gr_lastColumn pi_cells pi_facings pi_sets pi_size po_needs ro_cells ro_lengths ro_shifts si_sightLaw si_sightRange th_unseen th_goals th_commonLength tr_marks tr_visited tr_size wh_places) s.heap [] := ⟨hP0, hD0, va_S.rf⟩
  clear hP0 hD0 B
  unfold P_wh_wipe at h
  have he : entryFrame m args 2 = entryFrame m ([.ref (ad 9), .int x1] : List Value).toArray 2 := by rw [hav]
  refine W.eq he ?_
  have hl := lv_entry ([.ref (ad 9), .int x1]) (n := 2) (Nat.le_of_ble_eq_true rfl)
  rw [lg_entry_eq]
  generalize (lg_sl ([.ref (ad 9), .int x1]) ++ List.replicate (2 - (lg_sl ([.ref (ad 9), .int x1])).length) Slot.unset).toArray = ls at hl ⊢
  have hl : lv_has ls 2 [(0, .ref (ad 9)), (1, .int x1)] := hl
  refine lv_iload_n hx hb dX9_wipe_0 rfl (lv_at hl 1 rfl) ?_
  refine cS_i (As := [.int x1]) (rest := []) ⟨hx, hb, hml, hown, hts⟩ hK hw (c_wh_isWatcher x1 h) (va_cwS 1 hts (gd_RX9_176 hB) rfl rfl rfl (by decide +kernel) ⟨Nat.le_of_ble_eq_true rfl, Nat.le_of_ble_eq_true rfl⟩) hl.1 ⟨Nat.zero_le _, Nat.zero_le _⟩ rfl rfl (Nat.le_of_ble_eq_true rfl) dX9_wipe_1 (fun r1 _ H locs h hw => ?_)
  refine lv_if_eq (tgt := 18) hx hb dX9_wipe_4 (by decide) (fun hc => ?_) (fun hc => ?_)
  · replace h := h.1 hc
    refine lv_iconst (v := (-1)) hx hb dX9_wipe_18 (by decide) ?_
    rw [hZ]
    exact rt_i ro_lengths hx hb hr hlocks hw h dX9_wipe_19
  · replace h := h.2 hc
    refine lv_aload_n hx hb dX9_wipe_7 rfl (lv_at hl 0 rfl) ?_
    refine gC_wh_rounds hx hb hts hin hown hK hw lk37 dX9_wipe_8 ?_
    refine lv_iload_n hx hb dX9_wipe_11 rfl (lv_at hl 1 rfl) ?_
    refine cV_i (b := (ad 4)) (As := [.int x1]) (rest := []) ⟨hx, hb, hml, hown, hts⟩ hK hw (c_ro_drop x1 h) (cwV 1 hts (gd_RX9_188 hB) rfl rfl rfl (by decide +kernel) ⟨Nat.le_of_ble_eq_true rfl, Nat.le_of_ble_eq_true rfl⟩) (rC_ro hK hw) hl.1 ⟨Nat.zero_le _, Nat.zero_le _⟩ rfl rfl (Nat.le_of_ble_eq_true rfl) dX9_wipe_12 (fun r12 ro_lengths_12 H locs h hw => ?_)
    refine lv_goto (tgt := 19) hx hb dX9_wipe_15 (by decide) ?_
    rw [hZ]
    exact rt_i ro_lengths_12 hx hb hr hlocks hw h dX9_wipe_19
def rm_wh_closed : Room := { frames := 3, cells := 0, slots := 0, locals := 66 }
set_option maxHeartbeats 4000000 in
set_option maxRecDepth 100000 in
theorem c_wh_closed {l : Launch} {D : va_G} {cI cL cZ : ClassId} {mx my : Nat} {A : Nat → Prop} {ad : Nat → Nat} {ga_sightings th_unseen th_goals tr_visited : Nat → Int64} {ga_bestShifts gr_kinds gr_before gr_columns gr_rows pi_cells pi_facings pi_sets po_needs ro_cells ro_lengths ro_shifts tr_marks wh_places : Nat → Int32} {ga_commonLength gr_width gr_height gr_size pi_size si_sightLaw si_sightRange th_commonLength tr_size : Int32} {ga_allTimes gr_floorCells gr_clearCells gr_standCells gr_firstColumn gr_lastColumn : Int64} (x1 : Int32) {Q : Int32 → Prop} (h : P_wh_closed gr_columns gr_rows gr_standCells ro_cells ro_lengths x1 Q) : Met l yX9_closed wsX9_closed rm_wh_closed (va_Pc [.ref (ad 9), .int x1] (WC D cI cL cZ mx my A (wdC cI cL cZ ad ga_sightings ga_bestShifts ga_commonLength ga_allTimes gr_width gr_height gr_size gr_kinds gr_before gr_columns gr_rows gr_floorCells gr_clearCells gr_standCells gr_firstColumn gr_lastColumn pi_cells pi_facings pi_sets pi_size po_needs ro_cells ro_lengths ro_shifts si_sightLaw si_sightRange th_unseen th_goals th_commonLength tr_marks tr_visited tr_size wh_places))) (va_Qi (fun (r : Int32) (u : Unit) => Q r) (fun (u : Unit) t => PW D A (wdC cI cL cZ ad ga_sightings ga_bestShifts ga_commonLength ga_allTimes gr_width gr_height gr_size gr_kinds gr_before gr_columns gr_rows gr_floorCells gr_clearCells gr_standCells gr_firstColumn gr_lastColumn pi_cells pi_facings pi_sets pi_size po_needs ro_cells ro_lengths ro_shifts si_sightLaw si_sightRange th_unseen th_goals th_commonLength tr_marks tr_visited tr_size wh_places) t.heap) A) 0 0 A := by
  refine Met.ofW (cc := cX9_closed) (maxL := 4) (ret := (some .int)) (by decide) rfl ?_
  intro p e s m args below meth c s₁ B hml hv
  obtain ⟨hav, hP0, hD0, hK⟩ := hv
  have hx := B.exec
  have hb := B.bytes
  have hr := B.returns
  have hts := atoms_spec (ws := wsX9_closed) B.pre
  have hown : s.vm.findClass RX9 = some m.cls := findClass_of_methodNamed B.named
  have hlocks := B.notSynchronized
  have hB : ∀ w ∈ BIG, w ∈ wsX9_closed := fun _ h => List.mem_cons_of_mem _ h
  have hin : ∀ w ∈ wsX90, w ∈ wsX9_closed := fun w h => hB w (inB_X9 w h)
  have lk12 := hts _ (hB _ m_300)
  have lk37 := hts _ (hB _ m_303)
  obtain ⟨Z, hZ⟩ : ∃ Z : State → Prop, Z = MQ below (va_Qi (fun (r : Int32) (u : Unit) => Q r) (fun (u : Unit) t => PW D A (wdC cI cL cZ ad ga_sightings ga_bestShifts ga_commonLength ga_allTimes gr_width gr_height gr_size gr_kinds gr_before gr_columns gr_rows gr_floorCells gr_clearCells gr_standCells gr_firstColumn gr_lastColumn pi_cells pi_facings pi_sets pi_size po_needs ro_cells ro_lengths ro_shifts si_sightLaw si_sightRange th_unseen th_goals th_commonLength tr_marks tr_visited tr_size wh_places) t.heap) A) args s 0 0 A := ⟨_, rfl⟩
  rw [← hZ]
  have hw : SW D A s.heap (wdC cI cL cZ ad ga_sightings ga_bestShifts ga_commonLength ga_allTimes gr_width gr_height gr_size gr_kinds gr_before gr_columns gr_rows gr_floorCells gr_clearCells gr_standCells gr_firstColumn gr_lastColumn pi_cells pi_facings pi_sets pi_size po_needs ro_cells ro_lengths ro_shifts si_sightLaw si_sightRange th_unseen th_goals th_commonLength tr_marks tr_visited tr_size wh_places) s.heap [] := ⟨hP0, hD0, va_S.rf⟩
  clear hP0 hD0 B
  unfold P_wh_closed at h
  have he : entryFrame m args 4 = entryFrame m ([.ref (ad 9), .int x1] : List Value).toArray 4 := by rw [hav]
  refine W.eq he ?_
  have hl := lv_entry ([.ref (ad 9), .int x1]) (n := 4) (Nat.le_of_ble_eq_true rfl)
  rw [lg_entry_eq]
  generalize (lg_sl ([.ref (ad 9), .int x1]) ++ List.replicate (4 - (lg_sl ([.ref (ad 9), .int x1])).length) Slot.unset).toArray = ls at hl ⊢
  have hl : lv_has ls 4 [(0, .ref (ad 9)), (1, .int x1)] := hl
  refine lv_iload_n hx hb dX9_closed_0 rfl (lv_at hl 1 rfl) ?_
  refine cS_i (As := [.int x1]) (rest := []) ⟨hx, hb, hml, hown, hts⟩ hK hw (c_wh_isWatcher x1 h) (va_cwS 1 hts (gd_RX9_176 hB) rfl rfl rfl (by decide +kernel) ⟨Nat.le_of_ble_eq_true rfl, Nat.le_of_ble_eq_true rfl⟩) hl.1 ⟨Nat.zero_le _, Nat.zero_le _⟩ rfl rfl (Nat.le_of_ble_eq_true rfl) dX9_closed_1 (fun r1 _ H locs h hw => ?_)
  refine lv_if_ne (tgt := 9) hx hb dX9_closed_4 (by decide) (fun hc => ?_) (fun hc => ?_)
  · replace h := h.2 hc
    refine lv_aload_n hx hb dX9_closed_9 rfl (lv_at hl 0 rfl) ?_
    refine gC_wh_rounds hx hb hts hin hown hK hw lk37 dX9_closed_10 ?_
    refine lv_iload_n hx hb dX9_closed_13 rfl (lv_at hl 1 rfl) ?_
    refine cV_i (b := (ad 4)) (As := [.int x1]) (rest := []) ⟨hx, hb, hml, hown, hts⟩ hK hw (c_ro_firstOf x1 h) (cwV 1 hts (gd_RX9_191 hB) rfl rfl rfl (by decide +kernel) ⟨Nat.le_of_ble_eq_true rfl, Nat.le_of_ble_eq_true rfl⟩) (rC_ro hK hw) hl.1 ⟨Nat.zero_le _, Nat.zero_le _⟩ rfl rfl (Nat.le_of_ble_eq_true rfl) dX9_closed_14 (fun r14 _ H locs h hw => ?_)
    refine lv_istore_n (lv' := [(2, .int r14), (0, .ref (ad 9)), (1, .int x1)]) hx hb dX9_closed_17 rfl hl (by decide) rfl (fun ls hl => ?_)
    refine lv_aload_n hx hb dX9_closed_18 rfl (lv_at hl 1 rfl) ?_
    refine gC_wh_rounds hx hb hts hin hown hK hw lk37 dX9_closed_19 ?_
    refine lv_iload_n hx hb dX9_closed_22 rfl (lv_at hl 2 rfl) ?_
    refine cV_i (b := (ad 4)) (As := [.int x1]) (rest := []) ⟨hx, hb, hml, hown, hts⟩ hK hw (c_ro_lastOf x1 h) (cwV 1 hts (gd_RX9_179 hB) rfl rfl rfl (by decide +kernel) ⟨Nat.le_of_ble_eq_true rfl, Nat.le_of_ble_eq_true rfl⟩) (rC_ro hK hw) hl.1 ⟨Nat.zero_le _, Nat.zero_le _⟩ rfl rfl (Nat.le_of_ble_eq_true rfl) dX9_closed_23 (fun r23 _ H locs h hw => ?_)
    refine lv_istore_n (lv' := [(3, .int r23), (2, .int r14), (0, .ref (ad 9)), (1, .int x1)]) hx hb dX9_closed_26 rfl hl (by decide) rfl (fun ls hl => ?_)
    refine lv_iload_n hx hb dX9_closed_27 rfl (lv_at hl 1 rfl) ?_
    refine lv_iload_n hx hb dX9_closed_28 rfl (lv_at hl 0 rfl) ?_
    refine lv_icmp_eq (tgt := 44) hx hb dX9_closed_29 (by decide) (fun hc => ?_) (fun hc => ?_)
    · replace h := h.1 hc
      refine lv_iconst (v := 1) hx hb dX9_closed_44 (by decide) ?_
      refine lv_goto (tgt := 49) hx hb dX9_closed_45 (by decide) ?_
      refine cS_i (As := [.int (1 : Int32)]) (rest := []) ⟨hx, hb, hml, hown, hts⟩ hK hw (c_wh_yesOrNo (1 : Int32) h) (va_cwS 1 hts (gd_RX9_124 hB) rfl rfl rfl (by decide +kernel) ⟨Nat.le_of_ble_eq_true rfl, Nat.le_of_ble_eq_true rfl⟩) hl.1 ⟨Nat.zero_le _, Nat.zero_le _⟩ rfl rfl (Nat.le_of_ble_eq_true rfl) dX9_closed_49 (fun r49 _ H locs h hw => ?_)
      rw [hZ]
      exact rt_i () hx hb hr hlocks hw h dX9_closed_52
    · replace h := h.2 hc
      refine lv_aload_n hx hb dX9_closed_32 rfl (lv_at hl 2 rfl) ?_
      refine gC_wh_grid hx hb hts hin hown hK hw lk12 dX9_closed_33 ?_
      refine lv_iload_n hx hb dX9_closed_36 rfl (lv_at hl 1 rfl) ?_
      refine lv_iload_n hx hb dX9_closed_37 rfl (lv_at hl 0 rfl) ?_
      refine cV_i (b := (ad 1)) (As := [.int r14, .int r23]) (rest := []) ⟨hx, hb, hml, hown, hts⟩ hK hw (c_gr_areNeighbours r14 r23 h) (cwV 2 hts (gd_RX9_182 hB) rfl rfl rfl (by decide +kernel) ⟨Nat.le_of_ble_eq_true rfl, Nat.le_of_ble_eq_true rfl⟩) (rC_gr hK hw) hl.1 ⟨Nat.zero_le _, Nat.zero_le _⟩ rfl rfl (Nat.le_of_ble_eq_true rfl) dX9_closed_38 (fun r38 _ H locs h hw => ?_)
      refine lv_if_eq (tgt := 48) hx hb dX9_closed_41 (by decide) (fun hc => ?_) (fun hc => ?_)
      · replace h := h.1 hc
        refine lv_iconst (v := 0) hx hb dX9_closed_48 (by decide) ?_
        refine cS_i (As := [.int (0 : Int32)]) (rest := []) ⟨hx, hb, hml, hown, hts⟩ hK hw (c_wh_yesOrNo (0 : Int32) h) (va_cwS 1 hts (gd_RX9_124 hB) rfl rfl rfl (by decide +kernel) ⟨Nat.le_of_ble_eq_true rfl, Nat.le_of_ble_eq_true rfl⟩) hl.1 ⟨Nat.zero_le _, Nat.zero_le _⟩ rfl rfl (Nat.le_of_ble_eq_true rfl) dX9_closed_49 (fun r49 _ H locs h hw => ?_)
        rw [hZ]
        exact rt_i () hx hb hr hlocks hw h dX9_closed_52
      · replace h := h.2 hc
        refine lv_iconst (v := 1) hx hb dX9_closed_44 (by decide) ?_
        refine lv_goto (tgt := 49) hx hb dX9_closed_45 (by decide) ?_
        refine cS_i (As := [.int (1 : Int32)]) (rest := []) ⟨hx, hb, hml, hown, hts⟩ hK hw (c_wh_yesOrNo (1 : Int32) h) (va_cwS 1 hts (gd_RX9_124 hB) rfl rfl rfl (by decide +kernel) ⟨Nat.le_of_ble_eq_true rfl, Nat.le_of_ble_eq_true rfl⟩) hl.1 ⟨Nat.zero_le _, Nat.zero_le _⟩ rfl rfl (Nat.le_of_ble_eq_true rfl) dX9_closed_49 (fun r49 _ H locs h hw => ?_)
        rw [hZ]
        exact rt_i () hx hb hr hlocks hw h dX9_closed_52
  · replace h := h.1 hc
    refine lv_iconst (v := (-1)) hx hb dX9_closed_7 (by decide) ?_
    rw [hZ]
    exact rt_i () hx hb hr hlocks hw h dX9_closed_8
def rm_wh_shift : Room := { frames := 1, cells := 0, slots := 0, locals := 22 }
set_option maxHeartbeats 4000000 in
set_option maxRecDepth 100000 in
theorem c_wh_shift {l : Launch} {D : va_G} {cI cL cZ : ClassId} {mx my : Nat} {A : Nat → Prop} {ad : Nat → Nat} {ga_sightings th_unseen th_goals tr_visited : Nat → Int64} {ga_bestShifts gr_kinds gr_before gr_columns gr_rows pi_cells pi_facings pi_sets po_needs ro_cells ro_lengths ro_shifts tr_marks wh_places : Nat → Int32} {ga_commonLength gr_width gr_height gr_size pi_size si_sightLaw si_sightRange th_commonLength tr_size : Int32} {ga_allTimes gr_floorCells gr_clearCells gr_standCells gr_firstColumn gr_lastColumn : Int64} (x1 : Int32) (x2 : Int32) {Q : Int32 → (Nat → Int32) → Prop} (h : P_wh_shift ro_shifts x1 x2 Q) : Met l yX9_shift wsX9_shift rm_wh_shift (va_Pc [.ref (ad 9), .int x1, .int x2] (WC D cI cL cZ mx my A (wdC cI cL cZ ad ga_sightings ga_bestShifts ga_commonLength ga_allTimes gr_width gr_height gr_size gr_kinds gr_before gr_columns gr_rows gr_floorCells gr_clearCells gr_standCells gr_firstColumn gr_lastColumn pi_cells pi_facings pi_sets pi_size po_needs ro_cells ro_lengths ro_shifts si_sightLaw si_sightRange th_unseen th_goals th_commonLength tr_marks tr_visited tr_size wh_places))) (va_Qi (fun (r : Int32) (u : (Nat → Int32)) => Q r u) (fun (u : (Nat → Int32)) t => PW D A (wdC cI cL cZ ad ga_sightings ga_bestShifts ga_commonLength ga_allTimes gr_width gr_height gr_size gr_kinds gr_before gr_columns gr_rows gr_floorCells gr_clearCells gr_standCells gr_firstColumn gr_lastColumn pi_cells pi_facings pi_sets pi_size po_needs ro_cells ro_lengths u si_sightLaw si_sightRange th_unseen th_goals th_commonLength tr_marks tr_visited tr_size wh_places) t.heap) A) 0 0 A := by
  refine Met.ofW (cc := cX9_shift) (maxL := 4) (ret := (some .int)) (by decide) rfl ?_
  intro p e s m args below meth c s₁ B hml hv
  obtain ⟨hav, hP0, hD0, hK⟩ := hv
  have hx := B.exec
  have hb := B.bytes
  have hr := B.returns
  have hts := atoms_spec (ws := wsX9_shift) B.pre
  have hown : s.vm.findClass RX9 = some m.cls := findClass_of_methodNamed B.named
  have hlocks := B.notSynchronized
  have hB : ∀ w ∈ BIG, w ∈ wsX9_shift := fun _ h => List.mem_cons_of_mem _ h
  have hin : ∀ w ∈ wsX90, w ∈ wsX9_shift := fun w h => hB w (inB_X9 w h)
  have lk37 := hts _ (hB _ m_303)
  obtain ⟨Z, hZ⟩ : ∃ Z : State → Prop, Z = MQ below (va_Qi (fun (r : Int32) (u : (Nat → Int32)) => Q r u) (fun (u : (Nat → Int32)) t => PW D A (wdC cI cL cZ ad ga_sightings ga_bestShifts ga_commonLength ga_allTimes gr_width gr_height gr_size gr_kinds gr_before gr_columns gr_rows gr_floorCells gr_clearCells gr_standCells gr_firstColumn gr_lastColumn pi_cells pi_facings pi_sets pi_size po_needs ro_cells ro_lengths u si_sightLaw si_sightRange th_unseen th_goals th_commonLength tr_marks tr_visited tr_size wh_places) t.heap) A) args s 0 0 A := ⟨_, rfl⟩
  rw [← hZ]
  have hw : SW D A s.heap (wdC cI cL cZ ad ga_sightings ga_bestShifts ga_commonLength ga_allTimes gr_width gr_height gr_size gr_kinds gr_before gr_columns gr_rows gr_floorCells gr_clearCells gr_standCells gr_firstColumn gr_lastColumn pi_cells pi_facings pi_sets pi_size po_needs ro_cells ro_lengths ro_shifts si_sightLaw si_sightRange th_unseen th_goals th_commonLength tr_marks tr_visited tr_size wh_places) s.heap [] := ⟨hP0, hD0, va_S.rf⟩
  clear hP0 hD0 B
  unfold P_wh_shift at h
  have he : entryFrame m args 4 = entryFrame m ([.ref (ad 9), .int x1, .int x2] : List Value).toArray 4 := by rw [hav]
  refine W.eq he ?_
  have hl := lv_entry ([.ref (ad 9), .int x1, .int x2]) (n := 4) (Nat.le_of_ble_eq_true rfl)
  rw [lg_entry_eq]
  generalize (lg_sl ([.ref (ad 9), .int x1, .int x2]) ++ List.replicate (4 - (lg_sl ([.ref (ad 9), .int x1, .int x2])).length) Slot.unset).toArray = ls at hl ⊢
  have hl : lv_has ls 4 [(0, .ref (ad 9)), (1, .int x1), (2, .int x2)] := hl
  refine lv_iload_n hx hb dX9_shift_0 rfl (lv_at hl 1 rfl) ?_
  refine cS_i (As := [.int x1]) (rest := []) ⟨hx, hb, hml, hown, hts⟩ hK hw (c_wh_isWatcher x1 h) (va_cwS 1 hts (gd_RX9_176 hB) rfl rfl rfl (by decide +kernel) ⟨Nat.le_of_ble_eq_true rfl, Nat.le_of_ble_eq_true rfl⟩) hl.1 ⟨Nat.zero_le _, Nat.zero_le _⟩ rfl rfl (Nat.le_of_ble_eq_true rfl) dX9_shift_1 (fun r1 _ H locs h hw => ?_)
  refine lv_if_ne (tgt := 9) hx hb dX9_shift_4 (by decide) (fun hc => ?_) (fun hc => ?_)
  · replace h := h.2 hc
    refine lv_iload_n hx hb dX9_shift_9 rfl (lv_at hl 2 rfl) ?_
    refine lv_if_lt (tgt := 18) hx hb dX9_shift_10 (by decide) (fun hc => ?_) (fun hc => ?_)
    · replace h := h.1 hc
      refine lv_bipush (v := (-2)) hx hb dX9_shift_18 (by decide) ?_
      rw [hZ]
      exact rt_i ro_shifts hx hb hr hlocks hw h dX9_shift_20
    · replace h := h.2 hc
      refine lv_iload_n hx hb dX9_shift_13 rfl (lv_at hl 2 rfl) ?_
      refine lv_iconst (v := 5) hx hb dX9_shift_14 (by decide) ?_
      refine lv_icmp_le (tgt := 21) hx hb dX9_shift_15 (by decide) (fun hc => ?_) (fun hc => ?_)
      · replace h := h.1 hc
        refine lv_aload_n hx hb dX9_shift_21 rfl (lv_at hl 0 rfl) ?_
        refine gC_wh_rounds hx hb hts hin hown hK hw lk37 dX9_shift_22 ?_
        refine lv_iload_n hx hb dX9_shift_25 rfl (lv_at hl 1 rfl) ?_
        refine cV_i (b := (ad 4)) (As := [.int x1]) (rest := []) ⟨hx, hb, hml, hown, hts⟩ hK hw (c_ro_shiftOf x1 h) (cwV 1 hts (gd_RX9_194 hB) rfl rfl rfl (by decide +kernel) ⟨Nat.le_of_ble_eq_true rfl, Nat.le_of_ble_eq_true rfl⟩) (rC_ro hK hw) hl.1 ⟨Nat.zero_le _, Nat.zero_le _⟩ rfl rfl (Nat.le_of_ble_eq_true rfl) dX9_shift_26 (fun r26 _ H locs h hw => ?_)
        refine lv_istore_n (lv' := [(3, .int r26), (0, .ref (ad 9)), (1, .int x1), (2, .int x2)]) hx hb dX9_shift_29 rfl hl (by decide) rfl (fun ls hl => ?_)
        refine lv_aload_n hx hb dX9_shift_30 rfl (lv_at hl 1 rfl) ?_
        refine gC_wh_rounds hx hb hts hin hown hK hw lk37 dX9_shift_31 ?_
        refine lv_iload_n hx hb dX9_shift_34 rfl (lv_at hl 2 rfl) ?_
        refine lv_iload_n hx hb dX9_shift_35 rfl (lv_at hl 3 rfl) ?_
        refine cV_v (b := (ad 4)) (As := [.int x1, .int x2]) (rest := []) ⟨hx, hb, hml, hown, hts⟩ hK hw (c_ro_changeShift x1 x2 h) (cwV 2 hts (gd_RX9_197 hB) rfl rfl rfl (by decide +kernel) ⟨Nat.le_of_ble_eq_true rfl, Nat.le_of_ble_eq_true rfl⟩) (rC_ro hK hw) hl.1 ⟨Nat.zero_le _, Nat.zero_le _⟩ rfl rfl (Nat.le_of_ble_eq_true rfl) dX9_shift_36 (fun ro_shifts_36 H locs h hw => ?_)
        refine lv_iload_n hx hb dX9_shift_39 rfl (lv_at hl 0 rfl) ?_
        rw [hZ]
        exact rt_i ro_shifts_36 hx hb hr hlocks hw h dX9_shift_40
      · replace h := h.2 hc
        refine lv_bipush (v := (-2)) hx hb dX9_shift_18 (by decide) ?_
        rw [hZ]
        exact rt_i ro_shifts hx hb hr hlocks hw h dX9_shift_20
  · replace h := h.1 hc
    refine lv_iconst (v := (-1)) hx hb dX9_shift_7 (by decide) ?_
    rw [hZ]
    exact rt_i ro_shifts hx hb hr hlocks hw h dX9_shift_8
def rm_wh_isTime : Room := { frames := 0, cells := 0, slots := 0, locals := 0 }
set_option maxHeartbeats 4000000 in
set_option maxRecDepth 100000 in
theorem c_wh_isTime {l : Launch} {D : va_G} {cI cL cZ : ClassId} {mx my : Nat} {A : Nat → Prop}  {w : va_W} (x0 : Int32) {Q : Int32 → Prop} (h : P_wh_isTime x0 Q) : Met l yX9_isTime wsX9_isTime rm_wh_isTime (va_Pc [.int x0] (WC D cI cL cZ mx my A w)) (va_Qi (fun (r : Int32) (u : Unit) => Q r) (fun (u : Unit) t => PW D A w t.heap) A) 0 0 A := by
  refine Met.ofW (cc := cX9_isTime) (maxL := 1) (ret := (some .boolean)) (by decide) rfl ?_
  intro p e s m args below meth c s₁ B hml hv
  obtain ⟨hav, hP0, hD0, hK⟩ := hv
  have hx := B.exec
  have hb := B.bytes
  have hr := B.returns
  have hts := atoms_spec (ws := wsX9_isTime) B.pre
  have hown : s.vm.findClass RX9 = some m.cls := findClass_of_methodNamed B.named
  have hlocks := B.notSynchronized
  have hB : ∀ w ∈ BIG, w ∈ wsX9_isTime := fun _ h => List.mem_cons_of_mem _ h
  obtain ⟨Z, hZ⟩ : ∃ Z : State → Prop, Z = MQ below (va_Qi (fun (r : Int32) (u : Unit) => Q r) (fun (u : Unit) t => PW D A w t.heap) A) args s 0 0 A := ⟨_, rfl⟩
  rw [← hZ]
  have hw : SW D A s.heap w s.heap [] := ⟨hP0, hD0, va_S.rf⟩
  clear hP0 hD0 B
  unfold P_wh_isTime at h
  have he : entryFrame m args 1 = entryFrame m ([.int x0] : List Value).toArray 1 := by rw [hav]
  refine W.eq he ?_
  have hl := lv_entry ([.int x0]) (n := 1) (Nat.le_of_ble_eq_true rfl)
  rw [lg_entry_eq]
  generalize (lg_sl ([.int x0]) ++ List.replicate (1 - (lg_sl ([.int x0])).length) Slot.unset).toArray = ls at hl ⊢
  have hl : lv_has ls 1 [(0, .int x0)] := hl
  refine lv_iload_n hx hb dX9_isTime_0 rfl (lv_at hl 0 rfl) ?_
  refine lv_if_lt (tgt := 15) hx hb dX9_isTime_1 (by decide) (fun hc => ?_) (fun hc => ?_)
  · replace h := h.1 hc
    refine lv_iconst (v := 0) hx hb dX9_isTime_15 (by decide) ?_
    rw [hZ]
    exact rt_z () hx hb hr hlocks hw (by decide) h dX9_isTime_16
  · replace h := h.2 hc
    refine lv_iload_n hx hb dX9_isTime_4 rfl (lv_at hl 0 rfl) ?_
    refine lv_sipush (v := 9999) hx hb dX9_isTime_5 (by decide) ?_
    refine lv_icmp_gt (tgt := 15) hx hb dX9_isTime_8 (by decide) (fun hc => ?_) (fun hc => ?_)
    · replace h := h.1 hc
      refine lv_iconst (v := 0) hx hb dX9_isTime_15 (by decide) ?_
      rw [hZ]
      exact rt_z () hx hb hr hlocks hw (by decide) h dX9_isTime_16
    · replace h := h.2 hc
      refine lv_iconst (v := 1) hx hb dX9_isTime_11 (by decide) ?_
      refine lv_goto (tgt := 16) hx hb dX9_isTime_12 (by decide) ?_
      rw [hZ]
      exact rt_z () hx hb hr hlocks hw (by decide) h dX9_isTime_16
def rm_wh_where : Room := { frames := 2, cells := 0, slots := 0, locals := 45 }
set_option maxHeartbeats 4000000 in
set_option maxRecDepth 100000 in
theorem c_wh_where {l : Launch} {D : va_G} {cI cL cZ : ClassId} {mx my : Nat} {A : Nat → Prop} {ad : Nat → Nat} {ga_sightings th_unseen th_goals tr_visited : Nat → Int64} {ga_bestShifts gr_kinds gr_before gr_columns gr_rows pi_cells pi_facings pi_sets po_needs ro_cells ro_lengths ro_shifts tr_marks wh_places : Nat → Int32} {ga_commonLength gr_width gr_height gr_size pi_size si_sightLaw si_sightRange th_commonLength tr_size : Int32} {ga_allTimes gr_floorCells gr_clearCells gr_standCells gr_firstColumn gr_lastColumn : Int64} (x1 : Int32) (x2 : Int32) {Q : Int32 → Prop} (h : P_wh_where ro_cells ro_lengths ro_shifts x1 x2 Q) : Met l yX9_where wsX9_where rm_wh_where (va_Pc [.ref (ad 9), .int x1, .int x2] (WC D cI cL cZ mx my A (wdC cI cL cZ ad ga_sightings ga_bestShifts ga_commonLength ga_allTimes gr_width gr_height gr_size gr_kinds gr_before gr_columns gr_rows gr_floorCells gr_clearCells gr_standCells gr_firstColumn gr_lastColumn pi_cells pi_facings pi_sets pi_size po_needs ro_cells ro_lengths ro_shifts si_sightLaw si_sightRange th_unseen th_goals th_commonLength tr_marks tr_visited tr_size wh_places))) (va_Qi (fun (r : Int32) (u : Unit) => Q r) (fun (u : Unit) t => PW D A (wdC cI cL cZ ad ga_sightings ga_bestShifts ga_commonLength ga_allTimes gr_width gr_height gr_size gr_kinds gr_before gr_columns gr_rows gr_floorCells gr_clearCells gr_standCells gr_firstColumn gr_lastColumn pi_cells pi_facings pi_sets pi_size po_needs ro_cells ro_lengths ro_shifts si_sightLaw si_sightRange th_unseen th_goals th_commonLength tr_marks tr_visited tr_size wh_places) t.heap) A) 0 0 A := by
  refine Met.ofW (cc := cX9_where) (maxL := 3) (ret := (some .int)) (by decide) rfl ?_
  intro p e s m args below meth c s₁ B hml hv
  obtain ⟨hav, hP0, hD0, hK⟩ := hv
  have hx := B.exec
  have hb := B.bytes
  have hr := B.returns
  have hts := atoms_spec (ws := wsX9_where) B.pre
  have hown : s.vm.findClass RX9 = some m.cls := findClass_of_methodNamed B.named
  have hlocks := B.notSynchronized
  have hB : ∀ w ∈ BIG, w ∈ wsX9_where := fun _ h => List.mem_cons_of_mem _ h
  have hin : ∀ w ∈ wsX90, w ∈ wsX9_where := fun w h => hB w (inB_X9 w h)
  have lk37 := hts _ (hB _ m_303)
  obtain ⟨Z, hZ⟩ : ∃ Z : State → Prop, Z = MQ below (va_Qi (fun (r : Int32) (u : Unit) => Q r) (fun (u : Unit) t => PW D A (wdC cI cL cZ ad ga_sightings ga_bestShifts ga_commonLength ga_allTimes gr_width gr_height gr_size gr_kinds gr_before gr_columns gr_rows gr_floorCells gr_clearCells gr_standCells gr_firstColumn gr_lastColumn pi_cells pi_facings pi_sets pi_size po_needs ro_cells ro_lengths ro_shifts si_sightLaw si_sightRange th_unseen th_goals th_commonLength tr_marks tr_visited tr_size wh_places) t.heap) A) args s 0 0 A := ⟨_, rfl⟩
  rw [← hZ]
  have hw : SW D A s.heap (wdC cI cL cZ ad ga_sightings ga_bestShifts ga_commonLength ga_allTimes gr_width gr_height gr_size gr_kinds gr_before gr_columns gr_rows gr_floorCells gr_clearCells gr_standCells gr_firstColumn gr_lastColumn pi_cells pi_facings pi_sets pi_size po_needs ro_cells ro_lengths ro_shifts si_sightLaw si_sightRange th_unseen th_goals th_commonLength tr_marks tr_visited tr_size wh_places) s.heap [] := ⟨hP0, hD0, va_S.rf⟩
  clear hP0 hD0 B
  unfold P_wh_where at h
  have he : entryFrame m args 3 = entryFrame m ([.ref (ad 9), .int x1, .int x2] : List Value).toArray 3 := by rw [hav]
  refine W.eq he ?_
  have hl := lv_entry ([.ref (ad 9), .int x1, .int x2]) (n := 3) (Nat.le_of_ble_eq_true rfl)
  rw [lg_entry_eq]
  generalize (lg_sl ([.ref (ad 9), .int x1, .int x2]) ++ List.replicate (3 - (lg_sl ([.ref (ad 9), .int x1, .int x2])).length) Slot.unset).toArray = ls at hl ⊢
  have hl : lv_has ls 3 [(0, .ref (ad 9)), (1, .int x1), (2, .int x2)] := hl
  refine lv_iload_n hx hb dX9_where_0 rfl (lv_at hl 1 rfl) ?_
  refine cS_i (As := [.int x1]) (rest := []) ⟨hx, hb, hml, hown, hts⟩ hK hw (c_wh_isWatcher x1 h) (va_cwS 1 hts (gd_RX9_176 hB) rfl rfl rfl (by decide +kernel) ⟨Nat.le_of_ble_eq_true rfl, Nat.le_of_ble_eq_true rfl⟩) hl.1 ⟨Nat.zero_le _, Nat.zero_le _⟩ rfl rfl (Nat.le_of_ble_eq_true rfl) dX9_where_1 (fun r1 _ H locs h hw => ?_)
  refine lv_if_ne (tgt := 9) hx hb dX9_where_4 (by decide) (fun hc => ?_) (fun hc => ?_)
  · replace h := h.2 hc
    refine lv_iload_n hx hb dX9_where_9 rfl (lv_at hl 2 rfl) ?_
    refine cS_i (As := [.int x2]) (rest := []) ⟨hx, hb, hml, hown, hts⟩ hK hw (c_wh_isTime x2 h) (va_cwS 1 hts (gd_RX9_200 hB) rfl rfl rfl (by decide +kernel) ⟨Nat.le_of_ble_eq_true rfl, Nat.le_of_ble_eq_true rfl⟩) hl.1 ⟨Nat.zero_le _, Nat.zero_le _⟩ rfl rfl (Nat.le_of_ble_eq_true rfl) dX9_where_10 (fun r10 _ H locs h hw => ?_)
    refine lv_if_eq (tgt := 28) hx hb dX9_where_13 (by decide) (fun hc => ?_) (fun hc => ?_)
    · replace h := h.1 hc
      refine lv_bipush (v := (-2)) hx hb dX9_where_28 (by decide) ?_
      rw [hZ]
      exact rt_i () hx hb hr hlocks hw h dX9_where_30
    · replace h := h.2 hc
      refine lv_aload_n hx hb dX9_where_16 rfl (lv_at hl 0 rfl) ?_
      refine gC_wh_rounds hx hb hts hin hown hK hw lk37 dX9_where_17 ?_
      refine lv_iload_n hx hb dX9_where_20 rfl (lv_at hl 1 rfl) ?_
      refine lv_iload_n hx hb dX9_where_21 rfl (lv_at hl 2 rfl) ?_
      refine cV_i (b := (ad 4)) (As := [.int x1, .int x2]) (rest := []) ⟨hx, hb, hml, hown, hts⟩ hK hw (c_ro_placeAt x1 x2 h) (cwV 2 hts (gd_RX9_203 hB) rfl rfl rfl (by decide +kernel) ⟨Nat.le_of_ble_eq_true rfl, Nat.le_of_ble_eq_true rfl⟩) (rC_ro hK hw) hl.1 ⟨Nat.zero_le _, Nat.zero_le _⟩ rfl rfl (Nat.le_of_ble_eq_true rfl) dX9_where_22 (fun r22 _ H locs h hw => ?_)
      refine lv_goto (tgt := 30) hx hb dX9_where_25 (by decide) ?_
      rw [hZ]
      exact rt_i () hx hb hr hlocks hw h dX9_where_30
  · replace h := h.1 hc
    refine lv_iconst (v := (-1)) hx hb dX9_where_7 (by decide) ?_
    rw [hZ]
    exact rt_i () hx hb hr hlocks hw h dX9_where_8
def rm_wh_watched : Room := { frames := 3, cells := 0, slots := 0, locals := 77 }
set_option maxHeartbeats 4000000 in
set_option maxRecDepth 100000 in
theorem c_wh_watched {l : Launch} {D : va_G} {cI cL cZ : ClassId} {mx my : Nat} {A : Nat → Prop} {ad : Nat → Nat} {ga_sightings th_unseen th_goals tr_visited : Nat → Int64} {ga_bestShifts gr_kinds gr_before gr_columns gr_rows pi_cells pi_facings pi_sets po_needs ro_cells ro_lengths ro_shifts tr_marks wh_places : Nat → Int32} {ga_commonLength gr_width gr_height gr_size pi_size si_sightLaw si_sightRange th_commonLength tr_size : Int32} {ga_allTimes gr_floorCells gr_clearCells gr_standCells gr_firstColumn gr_lastColumn : Int64} (x1 : Int32) (x2 : Int32) {Q : Int32 → Prop} (h : P_wh_watched gr_width gr_size gr_columns gr_rows gr_floorCells gr_clearCells gr_standCells ro_cells ro_lengths ro_shifts si_sightLaw si_sightRange x1 x2 Q) : Met l yX9_watched wsX9_watched rm_wh_watched (va_Pc [.ref (ad 9), .int x1, .int x2] (WC D cI cL cZ mx my A (wdC cI cL cZ ad ga_sightings ga_bestShifts ga_commonLength ga_allTimes gr_width gr_height gr_size gr_kinds gr_before gr_columns gr_rows gr_floorCells gr_clearCells gr_standCells gr_firstColumn gr_lastColumn pi_cells pi_facings pi_sets pi_size po_needs ro_cells ro_lengths ro_shifts si_sightLaw si_sightRange th_unseen th_goals th_commonLength tr_marks tr_visited tr_size wh_places))) (va_Qi (fun (r : Int32) (u : Unit) => Q r) (fun (u : Unit) t => PW D A (wdC cI cL cZ ad ga_sightings ga_bestShifts ga_commonLength ga_allTimes gr_width gr_height gr_size gr_kinds gr_before gr_columns gr_rows gr_floorCells gr_clearCells gr_standCells gr_firstColumn gr_lastColumn pi_cells pi_facings pi_sets pi_size po_needs ro_cells ro_lengths ro_shifts si_sightLaw si_sightRange th_unseen th_goals th_commonLength tr_marks tr_visited tr_size wh_places) t.heap) A) 0 0 A := by
  refine Met.ofW (cc := cX9_watched) (maxL := 5) (ret := (some .int)) (by decide) rfl ?_
  intro p e s m args below meth c s₁ B hml hv
  obtain ⟨hav, hP0, hD0, hK⟩ := hv
  have hx := B.exec
  have hb := B.bytes
  have hr := B.returns
  have hts := atoms_spec (ws := wsX9_watched) B.pre
  have hown : s.vm.findClass RX9 = some m.cls := findClass_of_methodNamed B.named
  have hlocks := B.notSynchronized
  have hB : ∀ w ∈ BIG, w ∈ wsX9_watched := fun _ h => List.mem_cons_of_mem _ h
  have hin : ∀ w ∈ wsX90, w ∈ wsX9_watched := fun w h => hB w (inB_X9 w h)
  have lk12 := hts _ (hB _ m_300)
  have lk21 := hts _ (hB _ m_301)
  have lk37 := hts _ (hB _ m_303)
  obtain ⟨Z, hZ⟩ : ∃ Z : State → Prop, Z = MQ below (va_Qi (fun (r : Int32) (u : Unit) => Q r) (fun (u : Unit) t => PW D A (wdC cI cL cZ ad ga_sightings ga_bestShifts ga_commonLength ga_allTimes gr_width gr_height gr_size gr_kinds gr_before gr_columns gr_rows gr_floorCells gr_clearCells gr_standCells gr_firstColumn gr_lastColumn pi_cells pi_facings pi_sets pi_size po_needs ro_cells ro_lengths ro_shifts si_sightLaw si_sightRange th_unseen th_goals th_commonLength tr_marks tr_visited tr_size wh_places) t.heap) A) args s 0 0 A := ⟨_, rfl⟩
  rw [← hZ]
  have hw : SW D A s.heap (wdC cI cL cZ ad ga_sightings ga_bestShifts ga_commonLength ga_allTimes gr_width gr_height gr_size gr_kinds gr_before gr_columns gr_rows gr_floorCells gr_clearCells gr_standCells gr_firstColumn gr_lastColumn pi_cells pi_facings pi_sets pi_size po_needs ro_cells ro_lengths ro_shifts si_sightLaw si_sightRange th_unseen th_goals th_commonLength tr_marks tr_visited tr_size wh_places) s.heap [] := ⟨hP0, hD0, va_S.rf⟩
  clear hP0 hD0 B
  have J25 : ∀ (n : Nat) (x1 : Int32) (x2 : Int32) (x3 : Int32) , L_wh_watched_25 gr_width gr_columns gr_rows gr_floorCells gr_clearCells gr_standCells ro_cells ro_lengths ro_shifts si_sightLaw si_sightRange Q n x1 x2 x3 → ∀ (H : Heap) (locs : List Loc) (ls : Array Slot), SW D A s.heap (wdC cI cL cZ ad ga_sightings ga_bestShifts ga_commonLength ga_allTimes gr_width gr_height gr_size gr_kinds gr_before gr_columns gr_rows gr_floorCells gr_clearCells gr_standCells gr_firstColumn gr_lastColumn pi_cells pi_facings pi_sets pi_size po_needs ro_cells ro_lengths ro_shifts si_sightLaw si_sightRange th_unseen th_goals th_commonLength tr_marks tr_visited tr_size wh_places) H locs → lv_has ls 5 [(0, .ref (ad 9)), (1, .int x1), (2, .int x2), (3, .int x3)] → W p l e (headSpec wsX9_watched rm_wh_watched).room s m args below meth c H locs 0 0 Z (F0 m 25 ls []) := by
    intro  n
    induction n with
    | zero => intro x1 x2 x3 h; exact h.elim
    | succ n ih =>
    intro x1 x2 x3 h H locs ls hw hl
    unfold L_wh_watched_25 at h
    refine lv_iload_n hx hb dX9_watched_25 rfl (lv_at hl 3 rfl) ?_
    refine lv_iconst (v := 4) hx hb dX9_watched_26 (by decide) ?_
    refine lv_icmp_ge (tgt := 69) hx hb dX9_watched_27 (by decide) (fun hc => ?_) (fun hc => ?_)
    · replace h := h.1 hc
      refine lv_iconst (v := 0) hx hb dX9_watched_69 (by decide) ?_
      rw [hZ]
      exact rt_i () hx hb hr hlocks hw h dX9_watched_70
    · replace h := h.2 hc
      refine lv_aload_n hx hb dX9_watched_30 rfl (lv_at hl 0 rfl) ?_
      refine gC_wh_rounds hx hb hts hin hown hK hw lk37 dX9_watched_31 ?_
      refine lv_iload_n hx hb dX9_watched_34 rfl (lv_at hl 3 rfl) ?_
      refine lv_iload_n hx hb dX9_watched_35 rfl (lv_at hl 2 rfl) ?_
      refine cV_i (b := (ad 4)) (As := [.int x3, .int x2]) (rest := []) ⟨hx, hb, hml, hown, hts⟩ hK hw (c_ro_placeAt x3 x2 h) (cwV 2 hts (gd_RX9_203 hB) rfl rfl rfl (by decide +kernel) ⟨Nat.le_of_ble_eq_true rfl, Nat.le_of_ble_eq_true rfl⟩) (rC_ro hK hw) hl.1 ⟨Nat.zero_le _, Nat.zero_le _⟩ rfl rfl (Nat.le_of_ble_eq_true rfl) dX9_watched_36 (fun r36 _ H locs h hw => ?_)
      refine lv_istore (lv' := [(4, .int r36), (0, .ref (ad 9)), (1, .int x1), (2, .int x2), (3, .int x3)]) hx hb dX9_watched_39 hl (by decide) rfl (fun ls hl => ?_)
      refine lv_iload hx hb dX9_watched_41 (lv_at hl 0 rfl) ?_
      refine lv_bipush (v := (-9)) hx hb dX9_watched_43 (by decide) ?_
      refine lv_icmp_eq (tgt := 63) hx hb dX9_watched_45 (by decide) (fun hc => ?_) (fun hc => ?_)
      · replace h := h.1 hc
        refine lv_iinc (v := (x3 + (1 : Int32))) (lv' := [(3, .int (x3 + (1 : Int32))), (4, .int r36), (0, .ref (ad 9)), (1, .int x1), (2, .int x2)]) hx hb dX9_watched_63 hl (k := 4) rfl rfl (by decide) rfl (fun ls hl => ?_)
        refine lv_goto (tgt := 25) hx hb dX9_watched_66 (by decide) ?_
        exact ih _ _ _ h _ _ _ hw (lv_sub hl [2, 3, 4, 0] rfl)
      · replace h := h.2 hc
        refine lv_aload_n hx hb dX9_watched_48 rfl (lv_at hl 1 rfl) ?_
        refine gC_wh_sight hx hb hts hin hown hK hw lk21 dX9_watched_49 ?_
        refine lv_iload hx hb dX9_watched_52 (lv_at hl 0 rfl) ?_
        refine lv_iload_n hx hb dX9_watched_54 rfl (lv_at hl 2 rfl) ?_
        refine cV_i (b := (ad 5)) (As := [.int r36, .int x1]) (rest := []) ⟨hx, hb, hml, hown, hts⟩ hK hw (c_si_reaches r36 x1 h) (cwV 2 hts (gd_RX9_120 hB) rfl rfl rfl (by decide +kernel) ⟨Nat.le_of_ble_eq_true rfl, Nat.le_of_ble_eq_true rfl⟩) (rC_si hK hw) hl.1 ⟨Nat.zero_le _, Nat.zero_le _⟩ rfl rfl (Nat.le_of_ble_eq_true rfl) dX9_watched_55 (fun r55 _ H locs h hw => ?_)
        refine lv_if_eq (tgt := 63) hx hb dX9_watched_58 (by decide) (fun hc => ?_) (fun hc => ?_)
        · replace h := h.1 hc
          refine lv_iinc (v := (x3 + (1 : Int32))) (lv' := [(3, .int (x3 + (1 : Int32))), (4, .int r36), (0, .ref (ad 9)), (1, .int x1), (2, .int x2)]) hx hb dX9_watched_63 hl (k := 4) rfl rfl (by decide) rfl (fun ls hl => ?_)
          refine lv_goto (tgt := 25) hx hb dX9_watched_66 (by decide) ?_
          exact ih _ _ _ h _ _ _ hw (lv_sub hl [2, 3, 4, 0] rfl)
        · replace h := h.2 hc
          refine lv_iconst (v := 1) hx hb dX9_watched_61 (by decide) ?_
          rw [hZ]
          exact rt_i () hx hb hr hlocks hw h dX9_watched_62
  unfold P_wh_watched at h
  have he : entryFrame m args 5 = entryFrame m ([.ref (ad 9), .int x1, .int x2] : List Value).toArray 5 := by rw [hav]
  refine W.eq he ?_
  have hl := lv_entry ([.ref (ad 9), .int x1, .int x2]) (n := 5) (Nat.le_of_ble_eq_true rfl)
  rw [lg_entry_eq]
  generalize (lg_sl ([.ref (ad 9), .int x1, .int x2]) ++ List.replicate (5 - (lg_sl ([.ref (ad 9), .int x1, .int x2])).length) Slot.unset).toArray = ls at hl ⊢
  have hl : lv_has ls 5 [(0, .ref (ad 9)), (1, .int x1), (2, .int x2)] := hl
  refine lv_aload_n hx hb dX9_watched_0 rfl (lv_at hl 0 rfl) ?_
  refine gC_wh_grid hx hb hts hin hown hK hw lk12 dX9_watched_1 ?_
  refine lv_iload_n hx hb dX9_watched_4 rfl (lv_at hl 1 rfl) ?_
  refine cV_i (b := (ad 1)) (As := [.int x1]) (rest := []) ⟨hx, hb, hml, hown, hts⟩ hK hw (c_gr_isCell x1 h) (cwV 1 hts (gd_RX9_100 hB) rfl rfl rfl (by decide +kernel) ⟨Nat.le_of_ble_eq_true rfl, Nat.le_of_ble_eq_true rfl⟩) (rC_gr hK hw) hl.1 ⟨Nat.zero_le _, Nat.zero_le _⟩ rfl rfl (Nat.le_of_ble_eq_true rfl) dX9_watched_5 (fun r5 _ H locs h hw => ?_)
  refine lv_if_ne (tgt := 13) hx hb dX9_watched_8 (by decide) (fun hc => ?_) (fun hc => ?_)
  · replace h := h.2 hc
    refine lv_iload_n hx hb dX9_watched_13 rfl (lv_at hl 2 rfl) ?_
    refine cS_i (As := [.int x2]) (rest := []) ⟨hx, hb, hml, hown, hts⟩ hK hw (c_wh_isTime x2 h) (va_cwS 1 hts (gd_RX9_200 hB) rfl rfl rfl (by decide +kernel) ⟨Nat.le_of_ble_eq_true rfl, Nat.le_of_ble_eq_true rfl⟩) hl.1 ⟨Nat.zero_le _, Nat.zero_le _⟩ rfl rfl (Nat.le_of_ble_eq_true rfl) dX9_watched_14 (fun r14 _ H locs h hw => ?_)
    refine lv_if_ne (tgt := 23) hx hb dX9_watched_17 (by decide) (fun hc => ?_) (fun hc => ?_)
    · replace h := h.2 hc
      refine lv_iconst (v := 0) hx hb dX9_watched_23 (by decide) ?_
      refine lv_istore_n (lv' := [(3, .int (0 : Int32)), (0, .ref (ad 9)), (1, .int x1), (2, .int x2)]) hx hb dX9_watched_24 rfl hl (by decide) rfl (fun ls hl => ?_)
      obtain ⟨n25, h⟩ := h
      exact J25  n25 _ _ _ h _ _ _ hw (lv_sub hl [1, 2, 3, 0] rfl)
    · replace h := h.1 hc
      refine lv_bipush (v := (-2)) hx hb dX9_watched_20 (by decide) ?_
      rw [hZ]
      exact rt_i () hx hb hr hlocks hw h dX9_watched_22
  · replace h := h.1 hc
    refine lv_iconst (v := (-1)) hx hb dX9_watched_11 (by decide) ?_
    rw [hZ]
    exact rt_i () hx hb hr hlocks hw h dX9_watched_12
