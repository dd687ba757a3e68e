def rm_wh_period : Room := { frames := 2, cells := 0, slots := 0, locals := 43 }
set_option maxHeartbeats 4000000 in
set_option maxRecDepth 100000 in
theorem c_wh_period {l : Launch} {D : va_G} {cI cL cZ : ClassId} {mx my : Nat} {A : Nat → Prop} {ad : Nat → Nat} {ga_sightings th_unseen th_goals tr_visited : Nat → Int64} {ga_bestShifts gr_kinds gr_before gr_columns gr_rows pi_cells pi_facings pi_sets po_needs ro_cells ro_lengths ro_shifts tr_marks wh_places : Nat → Int32} {ga_commonLength gr_width gr_height gr_size pi_size si_sightLaw si_sightRange th_commonLength tr_size : Int32} {ga_allTimes gr_floorCells gr_clearCells gr_standCells gr_firstColumn gr_lastColumn : Int64}  {Q : Int32 → Prop} (h : P_wh_period ro_lengths Q) : Met l yX9_period wsX9_period rm_wh_period (va_Pc [.ref (ad 9)] (WC D cI cL cZ mx my A (wdC cI cL cZ ad ga_sightings ga_bestShifts ga_commonLength ga_allTimes gr_width gr_height gr_size gr_kinds gr_before gr_columns gr_rows gr_floorCells gr_clearCells gr_standCells gr_firstColumn gr_lastColumn pi_cells pi_facings pi_sets pi_size po_needs ro_cells ro_lengths ro_shifts si_sightLaw si_sightRange th_unseen th_goals th_commonLength tr_marks tr_visited tr_size wh_places))) (va_Qi (fun (r : Int32) (u : Unit) => Q r) (fun (u : Unit) t => PW D A (wdC cI cL cZ ad ga_sightings ga_bestShifts ga_commonLength ga_allTimes gr_width gr_height gr_size gr_kinds gr_before gr_columns gr_rows gr_floorCells gr_clearCells gr_standCells gr_firstColumn gr_lastColumn pi_cells pi_facings pi_sets pi_size po_needs ro_cells ro_lengths ro_shifts si_sightLaw si_sightRange th_unseen th_goals th_commonLength tr_marks tr_visited tr_size wh_places) t.heap) A) 0 0 A := by
  refine Met.ofW (cc := cX9_period) (maxL := 1) (ret := (some .int)) (by decide) rfl ?_
  intro p e s m args below meth c s₁ B hml hv
  obtain ⟨hav, hP0, hD0, hK⟩ := hv
  have hx := B.exec
  have hb := B.bytes
  have hr := B.returns
  have hts := atoms_spec (ws := wsX9_period) B.pre
  have hown : s.vm.findClass RX9 = some m.cls := findClass_of_methodNamed B.named
  have hlocks := B.notSynchronized
  have hB : ∀ w ∈ BIG, w ∈ wsX9_period := fun _ h => List.mem_cons_of_mem _ h
  have hin : ∀ w ∈ wsX90, w ∈ wsX9_period := fun w h => hB w (inB_X9 w h)
  have lk37 := hts _ (hB _ m_303)
  obtain ⟨Z, hZ⟩ : ∃ Z : State → Prop, Z = MQ below (va_Qi (fun (r : Int32) (u : Unit) => Q r) (fun (u : Unit) t => PW D A (wdC cI cL cZ ad ga_sightings ga_bestShifts ga_commonLength ga_allTimes gr_width gr_height gr_size gr_kinds gr_before gr_columns gr_rows gr_floorCells gr_clearCells gr_standCells gr_firstColumn gr_lastColumn pi_cells pi_facings pi_sets pi_size po_needs ro_cells ro_lengths ro_shifts si_sightLaw si_sightRange th_unseen th_goals th_commonLength tr_marks tr_visited tr_size wh_places) t.heap) A) args s 0 0 A := ⟨_, rfl⟩
  rw [← hZ]
  have hw : SW D A s.heap (wdC cI cL cZ ad ga_sightings ga_bestShifts ga_commonLength ga_allTimes gr_width gr_height gr_size gr_kinds gr_before gr_columns gr_rows gr_floorCells gr_clearCells gr_standCells gr_firstColumn gr_lastColumn pi_cells pi_facings pi_sets pi_size po_needs ro_cells ro_lengths ro_shifts si_sightLaw si_sightRange th_unseen th_goals th_commonLength tr_marks tr_visited tr_size wh_places) s.heap [] := ⟨hP0, hD0, va_S.rf⟩
  clear hP0 hD0 B
  unfold P_wh_period at h
  have he : entryFrame m args 1 = entryFrame m ([.ref (ad 9)] : List Value).toArray 1 := by rw [hav]
  refine W.eq he ?_
  have hl := lv_entry ([.ref (ad 9)]) (n := 1) (Nat.le_of_ble_eq_true rfl)
  rw [lg_entry_eq]
  generalize (lg_sl ([.ref (ad 9)]) ++ List.replicate (1 - (lg_sl ([.ref (ad 9)])).length) Slot.unset).toArray = ls at hl ⊢
  have hl : lv_has ls 1 [(0, .ref (ad 9))] := hl
  refine lv_aload_n hx hb dX9_period_0 rfl (lv_at hl 0 rfl) ?_
  refine gC_wh_rounds hx hb hts hin hown hK hw lk37 dX9_period_1 ?_
  refine cV_i (b := (ad 4)) (As := []) (rest := []) ⟨hx, hb, hml, hown, hts⟩ hK hw (c_ro_commonLength h) (cwV 0 hts (gd_RX9_206 hB) rfl rfl rfl (by decide +kernel) ⟨Nat.le_of_ble_eq_true rfl, Nat.le_of_ble_eq_true rfl⟩) (rC_ro hK hw) hl.1 ⟨Nat.zero_le _, Nat.zero_le _⟩ rfl rfl (Nat.le_of_ble_eq_true rfl) dX9_period_4 (fun r4 _ H locs h hw => ?_)
  rw [hZ]
  exact rt_i () hx hb hr hlocks hw h dX9_period_7
def rm_wh_gap : Room := { frames := 6, cells := 0, slots := 0, locals := 148 }
set_option maxHeartbeats 4000000 in
set_option maxRecDepth 100000 in
theorem c_wh_gap {l : Launch} {D : va_G} {cI cL cZ : ClassId} {mx my : Nat} {A : Nat → Prop} {ad : Nat → Nat} {ga_sightings th_unseen th_goals tr_visited : Nat → Int64} {ga_bestShifts gr_kinds gr_before gr_columns gr_rows pi_cells pi_facings pi_sets po_needs ro_cells ro_lengths ro_shifts tr_marks wh_places : Nat → Int32} {ga_commonLength gr_width gr_height gr_size pi_size si_sightLaw si_sightRange th_commonLength tr_size : Int32} {ga_allTimes gr_floorCells gr_clearCells gr_standCells gr_firstColumn gr_lastColumn : Int64} (x1 : Int32) {Q : Int32 → (Nat → Int64) → Int32 → Int64 → Prop} (h : P_wh_gap ga_sightings ga_commonLength ga_allTimes gr_width gr_columns gr_rows gr_floorCells gr_clearCells gr_standCells pi_cells pi_facings pi_size ro_cells ro_lengths ro_shifts si_sightLaw si_sightRange x1 Q) : Met l yX9_gap wsX9_gap rm_wh_gap (va_Pc [.ref (ad 9), .int x1] (WC D cI cL cZ mx my A (wdC cI cL cZ ad ga_sightings ga_bestShifts ga_commonLength ga_allTimes gr_width gr_height gr_size gr_kinds gr_before gr_columns gr_rows gr_floorCells gr_clearCells gr_standCells gr_firstColumn gr_lastColumn pi_cells pi_facings pi_sets pi_size po_needs ro_cells ro_lengths ro_shifts si_sightLaw si_sightRange th_unseen th_goals th_commonLength tr_marks tr_visited tr_size wh_places))) (va_Qi (fun (r : Int32) (u : (Nat → Int64) × Int32 × Int64) => Q r u.1 u.2.1 u.2.2) (fun (u : (Nat → Int64) × Int32 × Int64) t => PW D A (wdC cI cL cZ ad u.1 ga_bestShifts u.2.1 u.2.2 gr_width gr_height gr_size gr_kinds gr_before gr_columns gr_rows gr_floorCells gr_clearCells gr_standCells gr_firstColumn gr_lastColumn pi_cells pi_facings pi_sets pi_size po_needs ro_cells ro_lengths ro_shifts si_sightLaw si_sightRange th_unseen th_goals th_commonLength tr_marks tr_visited tr_size wh_places) t.heap) A) 0 0 A := by
  refine Met.ofW (cc := cX9_gap) (maxL := 2) (ret := (some .int)) (by decide) rfl ?_
  intro p e s m args below meth c s₁ B hml hv
  obtain ⟨hav, hP0, hD0, hK⟩ := hv
  have hx := B.exec
  have hb := B.bytes
  have hr := B.returns
  have hts := atoms_spec (ws := wsX9_gap) B.pre
  have hown : s.vm.findClass RX9 = some m.cls := findClass_of_methodNamed B.named
  have hlocks := B.notSynchronized
  have hB : ∀ w ∈ BIG, w ∈ wsX9_gap := fun _ h => List.mem_cons_of_mem _ h
  have hin : ∀ w ∈ wsX90, w ∈ wsX9_gap := fun w h => hB w (inB_X9 w h)
  have lk30 := hts _ (hB _ m_302)
  have lk55 := hts _ (hB _ m_305)
  obtain ⟨Z, hZ⟩ : ∃ Z : State → Prop, Z = MQ below (va_Qi (fun (r : Int32) (u : (Nat → Int64) × Int32 × Int64) => Q r u.1 u.2.1 u.2.2) (fun (u : (Nat → Int64) × Int32 × Int64) t => PW D A (wdC cI cL cZ ad u.1 ga_bestShifts u.2.1 u.2.2 gr_width gr_height gr_size gr_kinds gr_before gr_columns gr_rows gr_floorCells gr_clearCells gr_standCells gr_firstColumn gr_lastColumn pi_cells pi_facings pi_sets pi_size po_needs ro_cells ro_lengths ro_shifts si_sightLaw si_sightRange th_unseen th_goals th_commonLength tr_marks tr_visited tr_size wh_places) t.heap) A) args s 0 0 A := ⟨_, rfl⟩
  rw [← hZ]
  have hw : SW D A s.heap (wdC cI cL cZ ad ga_sightings ga_bestShifts ga_commonLength ga_allTimes gr_width gr_height gr_size gr_kinds gr_before gr_columns gr_rows gr_floorCells gr_clearCells gr_standCells gr_firstColumn gr_lastColumn pi_cells pi_facings pi_sets pi_size po_needs ro_cells ro_lengths ro_shifts si_sightLaw si_sightRange th_unseen th_goals th_commonLength tr_marks tr_visited tr_size wh_places) s.heap [] := ⟨hP0, hD0, va_S.rf⟩
  clear hP0 hD0 B
  unfold P_wh_gap at h
  have he : entryFrame m args 2 = entryFrame m ([.ref (ad 9), .int x1] : List Value).toArray 2 := by rw [hav]
  refine W.eq he ?_
  have hl := lv_entry ([.ref (ad 9), .int x1]) (n := 2) (Nat.le_of_ble_eq_true rfl)
  rw [lg_entry_eq]
  generalize (lg_sl ([.ref (ad 9), .int x1]) ++ List.replicate (2 - (lg_sl ([.ref (ad 9), .int x1])).length) Slot.unset).toArray = ls at hl ⊢
  have hl : lv_has ls 2 [(0, .ref (ad 9)), (1, .int x1)] := hl
  refine lv_aload_n hx hb dX9_gap_0 rfl (lv_at hl 0 rfl) ?_
  refine gC_wh_pictures hx hb hts hin hown hK hw lk30 dX9_gap_1 ?_
  refine lv_iload_n hx hb dX9_gap_4 rfl (lv_at hl 1 rfl) ?_
  refine cV_i (b := (ad 2)) (As := [.int x1]) (rest := []) ⟨hx, hb, hml, hown, hts⟩ hK hw (c_pi_isPicture x1 h) (cwV 1 hts (gd_RX9_144 hB) rfl rfl rfl (by decide +kernel) ⟨Nat.le_of_ble_eq_true rfl, Nat.le_of_ble_eq_true rfl⟩) (rC_pi hK hw) hl.1 ⟨Nat.zero_le _, Nat.zero_le _⟩ rfl rfl (Nat.le_of_ble_eq_true rfl) dX9_gap_5 (fun r5 _ H locs h hw => ?_)
  refine lv_if_ne (tgt := 13) hx hb dX9_gap_8 (by decide) (fun hc => ?_) (fun hc => ?_)
  · replace h := h.2 hc
    refine lv_aload_n hx hb dX9_gap_13 rfl (lv_at hl 0 rfl) ?_
    refine gC_wh_gaps hx hb hts hin hown hK hw lk55 dX9_gap_14 ?_
    refine cV_v (b := (ad 0)) (As := []) (rest := []) ⟨hx, hb, hml, hown, hts⟩ hK hw (c_ga_survey h) (cwV 0 hts (gd_RX9_209 hB) rfl rfl rfl (by decide +kernel) ⟨Nat.le_of_ble_eq_true rfl, Nat.le_of_ble_eq_true rfl⟩) (rC_ga hK hw) hl.1 ⟨Nat.zero_le _, Nat.zero_le _⟩ rfl rfl (Nat.le_of_ble_eq_true rfl) dX9_gap_17 (fun u17 H locs h hw => ?_)
    obtain ⟨ga_sightings_17, ga_commonLength_17, ga_allTimes_17⟩ := u17
    refine lv_aload_n hx hb dX9_gap_20 rfl (lv_at hl 0 rfl) ?_
    refine gC_wh_gaps hx hb hts hin hown hK hw lk55 dX9_gap_21 ?_
    refine lv_iload_n hx hb dX9_gap_24 rfl (lv_at hl 1 rfl) ?_
    refine cV_i (b := (ad 0)) (As := [.int x1]) (rest := []) ⟨hx, hb, hml, hown, hts⟩ hK hw (c_ga_gapOf x1 h) (cwV 1 hts (gd_RX9_210 hB) rfl rfl rfl (by decide +kernel) ⟨Nat.le_of_ble_eq_true rfl, Nat.le_of_ble_eq_true rfl⟩) (rC_ga hK hw) hl.1 ⟨Nat.zero_le _, Nat.zero_le _⟩ rfl rfl (Nat.le_of_ble_eq_true rfl) dX9_gap_25 (fun r25 _ H locs h hw => ?_)
    rw [hZ]
    exact rt_i (ga_sightings_17, ga_commonLength_17, ga_allTimes_17) hx hb hr hlocks hw h dX9_gap_28
  · replace h := h.1 hc
    refine lv_iconst (v := (-1)) hx hb dX9_gap_11 (by decide) ?_
    rw [hZ]
    exact rt_i (ga_sightings, ga_commonLength, ga_allTimes) hx hb hr hlocks hw h dX9_gap_12
def rm_wh_worst : Room := { frames := 6, cells := 0, slots := 0, locals := 148 }
set_option maxHeartbeats 4000000 in
set_option maxRecDepth 100000 in
theorem c_wh_worst {l : Launch} {D : va_G} {cI cL cZ : ClassId} {mx my : Nat} {A : Nat → Prop} {ad : Nat → Nat} {ga_sightings th_unseen th_goals tr_visited : Nat → Int64} {ga_bestShifts gr_kinds gr_before gr_columns gr_rows pi_cells pi_facings pi_sets po_needs ro_cells ro_lengths ro_shifts tr_marks wh_places : Nat → Int32} {ga_commonLength gr_width gr_height gr_size pi_size si_sightLaw si_sightRange th_commonLength tr_size : Int32} {ga_allTimes gr_floorCells gr_clearCells gr_standCells gr_firstColumn gr_lastColumn : Int64}  {Q : Int32 → (Nat → Int64) → Int32 → Int64 → Prop} (h : P_wh_worst ga_sightings ga_commonLength ga_allTimes gr_width gr_columns gr_rows gr_floorCells gr_clearCells gr_standCells pi_cells pi_facings pi_size ro_cells ro_lengths ro_shifts si_sightLaw si_sightRange Q) : Met l yX9_worst wsX9_worst rm_wh_worst (va_Pc [.ref (ad 9)] (WC D cI cL cZ mx my A (wdC cI cL cZ ad ga_sightings ga_bestShifts ga_commonLength ga_allTimes gr_width gr_height gr_size gr_kinds gr_before gr_columns gr_rows gr_floorCells gr_clearCells gr_standCells gr_firstColumn gr_lastColumn pi_cells pi_facings pi_sets pi_size po_needs ro_cells ro_lengths ro_shifts si_sightLaw si_sightRange th_unseen th_goals th_commonLength tr_marks tr_visited tr_size wh_places))) (va_Qi (fun (r : Int32) (u : (Nat → Int64) × Int32 × Int64) => Q r u.1 u.2.1 u.2.2) (fun (u : (Nat → Int64) × Int32 × Int64) t => PW D A (wdC cI cL cZ ad u.1 ga_bestShifts u.2.1 u.2.2 gr_width gr_height gr_size gr_kinds gr_before gr_columns gr_rows gr_floorCells gr_clearCells gr_standCells gr_firstColumn gr_lastColumn pi_cells pi_facings pi_sets pi_size po_needs ro_cells ro_lengths ro_shifts si_sightLaw si_sightRange th_unseen th_goals th_commonLength tr_marks tr_visited tr_size wh_places) t.heap) A) 0 0 A := by
  refine Met.ofW (cc := cX9_worst) (maxL := 1) (ret := (some .int)) (by decide) rfl ?_
  intro p e s m args below meth c s₁ B hml hv
  obtain ⟨hav, hP0, hD0, hK⟩ := hv
  have hx := B.exec
  have hb := B.bytes
  have hr := B.returns
  have hts := atoms_spec (ws := wsX9_worst) B.pre
  have hown : s.vm.findClass RX9 = some m.cls := findClass_of_methodNamed B.named
  have hlocks := B.notSynchronized
  have hB : ∀ w ∈ BIG, w ∈ wsX9_worst := fun _ h => List.mem_cons_of_mem _ h
  have hin : ∀ w ∈ wsX90, w ∈ wsX9_worst := fun w h => hB w (inB_X9 w h)
  have lk55 := hts _ (hB _ m_305)
  obtain ⟨Z, hZ⟩ : ∃ Z : State → Prop, Z = MQ below (va_Qi (fun (r : Int32) (u : (Nat → Int64) × Int32 × Int64) => Q r u.1 u.2.1 u.2.2) (fun (u : (Nat → Int64) × Int32 × Int64) t => PW D A (wdC cI cL cZ ad u.1 ga_bestShifts u.2.1 u.2.2 gr_width gr_height gr_size gr_kinds gr_before gr_columns gr_rows gr_floorCells gr_clearCells gr_standCells gr_firstColumn gr_lastColumn pi_cells pi_facings pi_sets pi_size po_needs ro_cells ro_lengths ro_shifts si_sightLaw si_sightRange th_unseen th_goals th_commonLength tr_marks tr_visited tr_size wh_places) t.heap) A) args s 0 0 A := ⟨_, rfl⟩
  rw [← hZ]
  have hw : SW D A s.heap (wdC cI cL cZ ad ga_sightings ga_bestShifts ga_commonLength ga_allTimes gr_width gr_height gr_size gr_kinds gr_before gr_columns gr_rows gr_floorCells gr_clearCells gr_standCells gr_firstColumn gr_lastColumn pi_cells pi_facings pi_sets pi_size po_needs ro_cells ro_lengths ro_shifts si_sightLaw si_sightRange th_unseen th_goals th_commonLength tr_marks tr_visited tr_size wh_places) s.heap [] := ⟨hP0, hD0, va_S.rf⟩
  clear hP0 hD0 B
  unfold P_wh_worst at h
  have he : entryFrame m args 1 = entryFrame m ([.ref (ad 9)] : List Value).toArray 1 := by rw [hav]
  refine W.eq he ?_
  have hl := lv_entry ([.ref (ad 9)]) (n := 1) (Nat.le_of_ble_eq_true rfl)
  rw [lg_entry_eq]
  generalize (lg_sl ([.ref (ad 9)]) ++ List.replicate (1 - (lg_sl ([.ref (ad 9)])).length) Slot.unset).toArray = ls at hl ⊢
  have hl : lv_has ls 1 [(0, .ref (ad 9))] := hl
  refine lv_aload_n hx hb dX9_worst_0 rfl (lv_at hl 0 rfl) ?_
  refine gC_wh_gaps hx hb hts hin hown hK hw lk55 dX9_worst_1 ?_
  refine cV_v (b := (ad 0)) (As := []) (rest := []) ⟨hx, hb, hml, hown, hts⟩ hK hw (c_ga_survey h) (cwV 0 hts (gd_RX9_209 hB) rfl rfl rfl (by decide +kernel) ⟨Nat.le_of_ble_eq_true rfl, Nat.le_of_ble_eq_true rfl⟩) (rC_ga hK hw) hl.1 ⟨Nat.zero_le _, Nat.zero_le _⟩ rfl rfl (Nat.le_of_ble_eq_true rfl) dX9_worst_4 (fun u4 H locs h hw => ?_)
  obtain ⟨ga_sightings_4, ga_commonLength_4, ga_allTimes_4⟩ := u4
  refine lv_aload_n hx hb dX9_worst_7 rfl (lv_at hl 0 rfl) ?_
  refine gC_wh_gaps hx hb hts hin hown hK hw lk55 dX9_worst_8 ?_
  refine cV_i (b := (ad 0)) (As := []) (rest := []) ⟨hx, hb, hml, hown, hts⟩ hK hw (c_ga_worstOfAll h) (cwV 0 hts (gd_RX9_213 hB) rfl rfl rfl (by decide +kernel) ⟨Nat.le_of_ble_eq_true rfl, Nat.le_of_ble_eq_true rfl⟩) (rC_ga hK hw) hl.1 ⟨Nat.zero_le _, Nat.zero_le _⟩ rfl rfl (Nat.le_of_ble_eq_true rfl) dX9_worst_11 (fun r11 _ H locs h hw => ?_)
  rw [hZ]
  exact rt_i (ga_sightings_4, ga_commonLength_4, ga_allTimes_4) hx hb hr hlocks hw h dX9_worst_14
def rm_wh_arrange : Room := { frames := 6, cells := 0, slots := 0, locals := 148 }
set_option maxHeartbeats 4000000 in
set_option maxRecDepth 100000 in
theorem c_wh_arrange {l : Launch} {D : va_G} {cI cL cZ : ClassId} {mx my : Nat} {A : Nat → Prop} {ad : Nat → Nat} {ga_sightings th_unseen th_goals tr_visited : Nat → Int64} {ga_bestShifts gr_kinds gr_before gr_columns gr_rows pi_cells pi_facings pi_sets po_needs ro_cells ro_lengths ro_shifts tr_marks wh_places : Nat → Int32} {ga_commonLength gr_width gr_height gr_size pi_size si_sightLaw si_sightRange th_commonLength tr_size : Int32} {ga_allTimes gr_floorCells gr_clearCells gr_standCells gr_firstColumn gr_lastColumn : Int64}  {Q : Int32 → (Nat → Int64) → (Nat → Int32) → Int32 → Int64 → (Nat → Int32) → Prop} (h : P_wh_arrange ga_sightings ga_bestShifts ga_commonLength ga_allTimes gr_width gr_columns gr_rows gr_floorCells gr_clearCells gr_standCells pi_cells pi_facings pi_size ro_cells ro_lengths ro_shifts si_sightLaw si_sightRange Q) : Met l yX9_arrange wsX9_arrange rm_wh_arrange (va_Pc [.ref (ad 9)] (WC D cI cL cZ mx my A (wdC cI cL cZ ad ga_sightings ga_bestShifts ga_commonLength ga_allTimes gr_width gr_height gr_size gr_kinds gr_before gr_columns gr_rows gr_floorCells gr_clearCells gr_standCells gr_firstColumn gr_lastColumn pi_cells pi_facings pi_sets pi_size po_needs ro_cells ro_lengths ro_shifts si_sightLaw si_sightRange th_unseen th_goals th_commonLength tr_marks tr_visited tr_size wh_places))) (va_Qi (fun (r : Int32) (u : (Nat → Int64) × (Nat → Int32) × Int32 × Int64 × (Nat → Int32)) => Q r u.1 u.2.1 u.2.2.1 u.2.2.2.1 u.2.2.2.2) (fun (u : (Nat → Int64) × (Nat → Int32) × Int32 × Int64 × (Nat → Int32)) t => PW D A (wdC cI cL cZ ad u.1 u.2.1 u.2.2.1 u.2.2.2.1 gr_width gr_height gr_size gr_kinds gr_before gr_columns gr_rows gr_floorCells gr_clearCells gr_standCells gr_firstColumn gr_lastColumn pi_cells pi_facings pi_sets pi_size po_needs ro_cells ro_lengths u.2.2.2.2 si_sightLaw si_sightRange th_unseen th_goals th_commonLength tr_marks tr_visited tr_size wh_places) t.heap) A) 0 0 A := by
  refine Met.ofW (cc := cX9_arrange) (maxL := 1) (ret := (some .int)) (by decide) rfl ?_
  intro p e s m args below meth c s₁ B hml hv
  obtain ⟨hav, hP0, hD0, hK⟩ := hv
  have hx := B.exec
  have hb := B.bytes
  have hr := B.returns
  have hts := atoms_spec (ws := wsX9_arrange) B.pre
  have hown : s.vm.findClass RX9 = some m.cls := findClass_of_methodNamed B.named
  have hlocks := B.notSynchronized
  have hB : ∀ w ∈ BIG, w ∈ wsX9_arrange := fun _ h => List.mem_cons_of_mem _ h
  have hin : ∀ w ∈ wsX90, w ∈ wsX9_arrange := fun w h => hB w (inB_X9 w h)
  have lk55 := hts _ (hB _ m_305)
  obtain ⟨Z, hZ⟩ : ∃ Z : State → Prop, Z = MQ below (va_Qi (fun (r : Int32) (u : (Nat → Int64) × (Nat → Int32) × Int32 × Int64 × (Nat → Int32)) => Q r u.1 u.2.1 u.2.2.1 u.2.2.2.1 u.2.2.2.2) (fun (u : (Nat → Int64) × (Nat → Int32) × Int32 × Int64 × (Nat → Int32)) t => PW D A (wdC cI cL cZ ad u.1 u.2.1 u.2.2.1 u.2.2.2.1 gr_width gr_height gr_size gr_kinds gr_before gr_columns gr_rows gr_floorCells gr_clearCells gr_standCells gr_firstColumn gr_lastColumn pi_cells pi_facings pi_sets pi_size po_needs ro_cells ro_lengths u.2.2.2.2 si_sightLaw si_sightRange th_unseen th_goals th_commonLength tr_marks tr_visited tr_size wh_places) t.heap) A) args s 0 0 A := ⟨_, rfl⟩
  rw [← hZ]
  have hw : SW D A s.heap (wdC cI cL cZ ad ga_sightings ga_bestShifts ga_commonLength ga_allTimes gr_width gr_height gr_size gr_kinds gr_before gr_columns gr_rows gr_floorCells gr_clearCells gr_standCells gr_firstColumn gr_lastColumn pi_cells pi_facings pi_sets pi_size po_needs ro_cells ro_lengths ro_shifts si_sightLaw si_sightRange th_unseen th_goals th_commonLength tr_marks tr_visited tr_size wh_places) s.heap [] := ⟨hP0, hD0, va_S.rf⟩
  clear hP0 hD0 B
  unfold P_wh_arrange at h
  have he : entryFrame m args 1 = entryFrame m ([.ref (ad 9)] : List Value).toArray 1 := by rw [hav]
  refine W.eq he ?_
  have hl := lv_entry ([.ref (ad 9)]) (n := 1) (Nat.le_of_ble_eq_true rfl)
  rw [lg_entry_eq]
  generalize (lg_sl ([.ref (ad 9)]) ++ List.replicate (1 - (lg_sl ([.ref (ad 9)])).length) Slot.unset).toArray = ls at hl ⊢
  have hl : lv_has ls 1 [(0, .ref (ad 9))] := hl
  refine lv_aload_n hx hb dX9_arrange_0 rfl (lv_at hl 0 rfl) ?_
  refine gC_wh_gaps hx hb hts hin hown hK hw lk55 dX9_arrange_1 ?_
  refine cV_v (b := (ad 0)) (As := []) (rest := []) ⟨hx, hb, hml, hown, hts⟩ hK hw (c_ga_survey h) (cwV 0 hts (gd_RX9_209 hB) rfl rfl rfl (by decide +kernel) ⟨Nat.le_of_ble_eq_true rfl, Nat.le_of_ble_eq_true rfl⟩) (rC_ga hK hw) hl.1 ⟨Nat.zero_le _, Nat.zero_le _⟩ rfl rfl (Nat.le_of_ble_eq_true rfl) dX9_arrange_4 (fun u4 H locs h hw => ?_)
  obtain ⟨ga_sightings_4, ga_commonLength_4, ga_allTimes_4⟩ := u4
  refine lv_aload_n hx hb dX9_arrange_7 rfl (lv_at hl 0 rfl) ?_
  refine gC_wh_gaps hx hb hts hin hown hK hw lk55 dX9_arrange_8 ?_
  refine cV_i (b := (ad 0)) (As := []) (rest := []) ⟨hx, hb, hml, hown, hts⟩ hK hw (c_ga_setBestShifts h) (cwV 0 hts (gd_RX9_216 hB) rfl rfl rfl (by decide +kernel) ⟨Nat.le_of_ble_eq_true rfl, Nat.le_of_ble_eq_true rfl⟩) (rC_ga hK hw) hl.1 ⟨Nat.zero_le _, Nat.zero_le _⟩ rfl rfl (Nat.le_of_ble_eq_true rfl) dX9_arrange_11 (fun r11 u11 H locs h hw => ?_)
  obtain ⟨ga_bestShifts_11, ro_shifts_11⟩ := u11
  rw [hZ]
  exact rt_i (ga_sightings_4, ga_bestShifts_11, ga_commonLength_4, ga_allTimes_4, ro_shifts_11) hx hb hr hlocks hw h dX9_arrange_14
def rm_wh_theft : Room := { frames := 6, cells := 0, slots := 0, locals := 144 }
set_option maxHeartbeats 4000000 in
set_option maxRecDepth 100000 in
theorem c_wh_theft {l : Launch} {D : va_G} {cI cL cZ : ClassId} {mx my : Nat} {A : Nat → Prop} {ad : Nat → Nat} {ga_sightings th_unseen th_goals tr_visited : Nat → Int64} {ga_bestShifts gr_kinds gr_before gr_columns gr_rows pi_cells pi_facings pi_sets po_needs ro_cells ro_lengths ro_shifts tr_marks wh_places : Nat → Int32} {ga_commonLength gr_width gr_height gr_size pi_size si_sightLaw si_sightRange th_commonLength tr_size : Int32} {ga_allTimes gr_floorCells gr_clearCells gr_standCells gr_firstColumn gr_lastColumn : Int64} (x1 : Int32) (x2 : Int32) (x3 : Int32) {Q : Int32 → (Nat → Int64) → Int32 → (Nat → Int32) → (Nat → Int64) → Int32 → Prop} (h : P_wh_theft gr_width gr_height gr_size gr_columns gr_rows gr_floorCells gr_clearCells gr_standCells pi_cells pi_size ro_cells ro_lengths ro_shifts si_sightLaw si_sightRange th_unseen th_commonLength tr_marks tr_visited tr_size x1 x2 x3 Q) : Met l yX9_theft wsX9_theft rm_wh_theft (va_Pc [.ref (ad 9), .int x1, .int x2, .int x3] (WC D cI cL cZ mx my A (wdC cI cL cZ ad ga_sightings ga_bestShifts ga_commonLength ga_allTimes gr_width gr_height gr_size gr_kinds gr_before gr_columns gr_rows gr_floorCells gr_clearCells gr_standCells gr_firstColumn gr_lastColumn pi_cells pi_facings pi_sets pi_size po_needs ro_cells ro_lengths ro_shifts si_sightLaw si_sightRange th_unseen th_goals th_commonLength tr_marks tr_visited tr_size wh_places))) (va_Qi (fun (r : Int32) (u : (Nat → Int64) × Int32 × (Nat → Int32) × (Nat → Int64) × Int32) => Q r u.1 u.2.1 u.2.2.1 u.2.2.2.1 u.2.2.2.2) (fun (u : (Nat → Int64) × Int32 × (Nat → Int32) × (Nat → Int64) × Int32) t => PW D A (wdC cI cL cZ ad ga_sightings ga_bestShifts ga_commonLength ga_allTimes gr_width gr_height gr_size gr_kinds gr_before gr_columns gr_rows gr_floorCells gr_clearCells gr_standCells gr_firstColumn gr_lastColumn pi_cells pi_facings pi_sets pi_size po_needs ro_cells ro_lengths ro_shifts si_sightLaw si_sightRange u.1 th_goals u.2.1 u.2.2.1 u.2.2.2.1 u.2.2.2.2 wh_places) t.heap) A) 0 0 A := by
  refine Met.ofW (cc := cX9_theft) (maxL := 4) (ret := (some .int)) (by decide) rfl ?_
  intro p e s m args below meth c s₁ B hml hv
  obtain ⟨hav, hP0, hD0, hK⟩ := hv
  have hx := B.exec
  have hb := B.bytes
  have hr := B.returns
  have hts := atoms_spec (ws := wsX9_theft) B.pre
  have hown : s.vm.findClass RX9 = some m.cls := findClass_of_methodNamed B.named
  have hlocks := B.notSynchronized
  have hB : ∀ w ∈ BIG, w ∈ wsX9_theft := fun _ h => List.mem_cons_of_mem _ h
  have hin : ∀ w ∈ wsX90, w ∈ wsX9_theft := fun w h => hB w (inB_X9 w h)
  have lk12 := hts _ (hB _ m_300)
  have lk30 := hts _ (hB _ m_302)
  have lk76 := hts _ (hB _ m_307)
  obtain ⟨Z, hZ⟩ : ∃ Z : State → Prop, Z = MQ below (va_Qi (fun (r : Int32) (u : (Nat → Int64) × Int32 × (Nat → Int32) × (Nat → Int64) × Int32) => Q r u.1 u.2.1 u.2.2.1 u.2.2.2.1 u.2.2.2.2) (fun (u : (Nat → Int64) × Int32 × (Nat → Int32) × (Nat → Int64) × Int32) t => PW D A (wdC cI cL cZ ad ga_sightings ga_bestShifts ga_commonLength ga_allTimes gr_width gr_height gr_size gr_kinds gr_before gr_columns gr_rows gr_floorCells gr_clearCells gr_standCells gr_firstColumn gr_lastColumn pi_cells pi_facings pi_sets pi_size po_needs ro_cells ro_lengths ro_shifts si_sightLaw si_sightRange u.1 th_goals u.2.1 u.2.2.1 u.2.2.2.1 u.2.2.2.2 wh_places) t.heap) A) args s 0 0 A := ⟨_, rfl⟩
  rw [← hZ]
  have hw : SW D A s.heap (wdC cI cL cZ ad ga_sightings ga_bestShifts ga_commonLength ga_allTimes gr_width gr_height gr_size gr_kinds gr_before gr_columns gr_rows gr_floorCells gr_clearCells gr_standCells gr_firstColumn gr_lastColumn pi_cells pi_facings pi_sets pi_size po_needs ro_cells ro_lengths ro_shifts si_sightLaw si_sightRange th_unseen th_goals th_commonLength tr_marks tr_visited tr_size wh_places) s.heap [] := ⟨hP0, hD0, va_S.rf⟩
  clear hP0 hD0 B
  unfold P_wh_theft at h
  have he : entryFrame m args 4 = entryFrame m ([.ref (ad 9), .int x1, .int x2, .int x3] : List Value).toArray 4 := by rw [hav]
  refine W.eq he ?_
  have hl := lv_entry ([.ref (ad 9), .int x1, .int x2, .int x3]) (n := 4) (Nat.le_of_ble_eq_true rfl)
  rw [lg_entry_eq]
  generalize (lg_sl ([.ref (ad 9), .int x1, .int x2, .int x3]) ++ List.replicate (4 - (lg_sl ([.ref (ad 9), .int x1, .int x2, .int x3])).length) Slot.unset).toArray = ls at hl ⊢
  have hl : lv_has ls 4 [(0, .ref (ad 9)), (1, .int x1), (2, .int x2), (3, .int x3)] := hl
  refine lv_aload_n hx hb dX9_theft_0 rfl (lv_at hl 0 rfl) ?_
  refine gC_wh_pictures hx hb hts hin hown hK hw lk30 dX9_theft_1 ?_
  refine lv_iload_n hx hb dX9_theft_4 rfl (lv_at hl 1 rfl) ?_
  refine cV_i (b := (ad 2)) (As := [.int x1]) (rest := []) ⟨hx, hb, hml, hown, hts⟩ hK hw (c_pi_isPicture x1 h) (cwV 1 hts (gd_RX9_144 hB) rfl rfl rfl (by decide +kernel) ⟨Nat.le_of_ble_eq_true rfl, Nat.le_of_ble_eq_true rfl⟩) (rC_pi hK hw) hl.1 ⟨Nat.zero_le _, Nat.zero_le _⟩ rfl rfl (Nat.le_of_ble_eq_true rfl) dX9_theft_5 (fun r5 _ H locs h hw => ?_)
  refine lv_if_eq (tgt := 22) hx hb dX9_theft_8 (by decide) (fun hc => ?_) (fun hc => ?_)
  · replace h := h.1 hc
    refine lv_iconst (v := (-1)) hx hb dX9_theft_22 (by decide) ?_
    rw [hZ]
    exact rt_i (th_unseen, th_commonLength, tr_marks, tr_visited, tr_size) hx hb hr hlocks hw h dX9_theft_23
  · replace h := h.2 hc
    refine lv_aload_n hx hb dX9_theft_11 rfl (lv_at hl 0 rfl) ?_
    refine gC_wh_grid hx hb hts hin hown hK hw lk12 dX9_theft_12 ?_
    refine lv_iload_n hx hb dX9_theft_15 rfl (lv_at hl 2 rfl) ?_
    refine cV_i (b := (ad 1)) (As := [.int x2]) (rest := []) ⟨hx, hb, hml, hown, hts⟩ hK hw (c_gr_isCell x2 h) (cwV 1 hts (gd_RX9_100 hB) rfl rfl rfl (by decide +kernel) ⟨Nat.le_of_ble_eq_true rfl, Nat.le_of_ble_eq_true rfl⟩) (rC_gr hK hw) hl.1 ⟨Nat.zero_le _, Nat.zero_le _⟩ rfl rfl (Nat.le_of_ble_eq_true rfl) dX9_theft_16 (fun r16 _ H locs h hw => ?_)
    refine lv_if_ne (tgt := 24) hx hb dX9_theft_19 (by decide) (fun hc => ?_) (fun hc => ?_)
    · replace h := h.2 hc
      refine lv_iload_n hx hb dX9_theft_24 rfl (lv_at hl 3 rfl) ?_
      refine cS_i (As := [.int x3]) (rest := []) ⟨hx, hb, hml, hown, hts⟩ hK hw (c_wh_isTime x3 h) (va_cwS 1 hts (gd_RX9_200 hB) rfl rfl rfl (by decide +kernel) ⟨Nat.le_of_ble_eq_true rfl, Nat.le_of_ble_eq_true rfl⟩) hl.1 ⟨Nat.zero_le _, Nat.zero_le _⟩ rfl rfl (Nat.le_of_ble_eq_true rfl) dX9_theft_25 (fun r25 _ H locs h hw => ?_)
      refine lv_if_ne (tgt := 34) hx hb dX9_theft_28 (by decide) (fun hc => ?_) (fun hc => ?_)
      · replace h := h.2 hc
        refine lv_aload_n hx hb dX9_theft_34 rfl (lv_at hl 0 rfl) ?_
        refine gC_wh_thefts hx hb hts hin hown hK hw lk76 dX9_theft_35 ?_
        refine cV_v (b := (ad 6)) (As := []) (rest := []) ⟨hx, hb, hml, hown, hts⟩ hK hw (c_th_survey h) (cwV 0 hts (gd_RX9_219 hB) rfl rfl rfl (by decide +kernel) ⟨Nat.le_of_ble_eq_true rfl, Nat.le_of_ble_eq_true rfl⟩) (rC_th hK hw) hl.1 ⟨Nat.zero_le _, Nat.zero_le _⟩ rfl rfl (Nat.le_of_ble_eq_true rfl) dX9_theft_38 (fun u38 H locs h hw => ?_)
        obtain ⟨th_unseen_38, th_commonLength_38⟩ := u38
        refine lv_aload_n hx hb dX9_theft_41 rfl (lv_at hl 0 rfl) ?_
        refine gC_wh_thefts hx hb hts hin hown hK hw lk76 dX9_theft_42 ?_
        refine lv_aload_n hx hb dX9_theft_45 rfl (lv_at hl 0 rfl) ?_
        refine gC_wh_pictures hx hb hts hin hown hK hw lk30 dX9_theft_46 ?_
        refine lv_iload_n hx hb dX9_theft_49 rfl (lv_at hl 1 rfl) ?_
        refine cV_i (b := (ad 2)) (As := [.int x1]) (rest := [.ref (ad 6)]) ⟨hx, hb, hml, hown, hts⟩ hK hw (c_pi_cellOf x1 h) (cwV 1 hts (gd_RX9_147 hB) rfl rfl rfl (by decide +kernel) ⟨Nat.le_of_ble_eq_true rfl, Nat.le_of_ble_eq_true rfl⟩) (rC_pi hK hw) hl.1 ⟨Nat.zero_le _, Nat.zero_le _⟩ rfl rfl (Nat.le_of_ble_eq_true rfl) dX9_theft_50 (fun r50 _ H locs h hw => ?_)
        refine lv_iload_n hx hb dX9_theft_53 rfl (lv_at hl 2 rfl) ?_
        refine lv_iload_n hx hb dX9_theft_54 rfl (lv_at hl 3 rfl) ?_
        refine cV_i (b := (ad 6)) (As := [.int r50, .int x2, .int x3]) (rest := []) ⟨hx, hb, hml, hown, hts⟩ hK hw (c_th_lengthOf r50 x2 x3 h) (cwV 3 hts (gd_RX9_220 hB) rfl rfl rfl (by decide +kernel) ⟨Nat.le_of_ble_eq_true rfl, Nat.le_of_ble_eq_true rfl⟩) (rC_th hK hw) hl.1 ⟨Nat.zero_le _, Nat.zero_le _⟩ rfl rfl (Nat.le_of_ble_eq_true rfl) dX9_theft_55 (fun r55 u55 H locs h hw => ?_)
        obtain ⟨tr_marks_55, tr_visited_55, tr_size_55⟩ := u55
        rw [hZ]
        exact rt_i (th_unseen_38, th_commonLength_38, tr_marks_55, tr_visited_55, tr_size_55) hx hb hr hlocks hw h dX9_theft_58
      · replace h := h.1 hc
        refine lv_bipush (v := (-2)) hx hb dX9_theft_31 (by decide) ?_
        rw [hZ]
        exact rt_i (th_unseen, th_commonLength, tr_marks, tr_visited, tr_size) hx hb hr hlocks hw h dX9_theft_33
    · replace h := h.1 hc
      refine lv_iconst (v := (-1)) hx hb dX9_theft_22 (by decide) ?_
      rw [hZ]
      exact rt_i (th_unseen, th_commonLength, tr_marks, tr_visited, tr_size) hx hb hr hlocks hw h dX9_theft_23
def rm_wh_theftStep : Room := { frames := 6, cells := 0, slots := 0, locals := 145 }
set_option maxHeartbeats 4000000 in
set_option maxRecDepth 100000 in
theorem c_wh_theftStep {l : Launch} {D : va_G} {cI cL cZ : ClassId} {mx my : Nat} {A : Nat → Prop} {ad : Nat → Nat} {ga_sightings th_unseen th_goals tr_visited : Nat → Int64} {ga_bestShifts gr_kinds gr_before gr_columns gr_rows pi_cells pi_facings pi_sets po_needs ro_cells ro_lengths ro_shifts tr_marks wh_places : Nat → Int32} {ga_commonLength gr_width gr_height gr_size pi_size si_sightLaw si_sightRange th_commonLength tr_size : Int32} {ga_allTimes gr_floorCells gr_clearCells gr_standCells gr_firstColumn gr_lastColumn : Int64} (x1 : Int32) (x2 : Int32) (x3 : Int32) (x4 : Int32) {Q : Int32 → (Nat → Int64) → Int32 → (Nat → Int32) → (Nat → Int64) → Int32 → Prop} (h : P_wh_theftStep gr_width gr_height gr_size gr_columns gr_rows gr_floorCells gr_clearCells gr_standCells pi_cells pi_size ro_cells ro_lengths ro_shifts si_sightLaw si_sightRange th_unseen th_commonLength tr_marks tr_visited tr_size x1 x2 x3 x4 Q) : Met l yX9_theftStep wsX9_theftStep rm_wh_theftStep (va_Pc [.ref (ad 9), .int x1, .int x2, .int x3, .int x4] (WC D cI cL cZ mx my A (wdC cI cL cZ ad ga_sightings ga_bestShifts ga_commonLength ga_allTimes gr_width gr_height gr_size gr_kinds gr_before gr_columns gr_rows gr_floorCells gr_clearCells gr_standCells gr_firstColumn gr_lastColumn pi_cells pi_facings pi_sets pi_size po_needs ro_cells ro_lengths ro_shifts si_sightLaw si_sightRange th_unseen th_goals th_commonLength tr_marks tr_visited tr_size wh_places))) (va_Qi (fun (r : Int32) (u : (Nat → Int64) × Int32 × (Nat → Int32) × (Nat → Int64) × Int32) => Q r u.1 u.2.1 u.2.2.1 u.2.2.2.1 u.2.2.2.2) (fun (u : (Nat → Int64) × Int32 × (Nat → Int32) × (Nat → Int64) × Int32) t => PW D A (wdC cI cL cZ ad ga_sightings ga_bestShifts ga_commonLength ga_allTimes gr_width gr_height gr_size gr_kinds gr_before gr_columns gr_rows gr_floorCells gr_clearCells gr_standCells gr_firstColumn gr_lastColumn pi_cells pi_facings pi_sets pi_size po_needs ro_cells ro_lengths ro_shifts si_sightLaw si_sightRange u.1 th_goals u.2.1 u.2.2.1 u.2.2.2.1 u.2.2.2.2 wh_places) t.heap) A) 0 0 A := by
  refine Met.ofW (cc := cX9_theftStep) (maxL := 5) (ret := (some .int)) (by decide) rfl ?_
  intro p e s m args below meth c s₁ B hml hv
  obtain ⟨hav, hP0, hD0, hK⟩ := hv
  have hx := B.exec
  have hb := B.bytes
  have hr := B.returns
  have hts := atoms_spec (ws := wsX9_theftStep) B.pre
  have hown : s.vm.findClass RX9 = some m.cls := findClass_of_methodNamed B.named
  have hlocks := B.notSynchronized
  have hB : ∀ w ∈ BIG, w ∈ wsX9_theftStep := fun _ h => List.mem_cons_of_mem _ h
  have hin : ∀ w ∈ wsX90, w ∈ wsX9_theftStep := fun w h => hB w (inB_X9 w h)
  have lk12 := hts _ (hB _ m_300)
  have lk30 := hts _ (hB _ m_302)
  have lk76 := hts _ (hB _ m_307)
  obtain ⟨Z, hZ⟩ : ∃ Z : State → Prop, Z = MQ below (va_Qi (fun (r : Int32) (u : (Nat → Int64) × Int32 × (Nat → Int32) × (Nat → Int64) × Int32) => Q r u.1 u.2.1 u.2.2.1 u.2.2.2.1 u.2.2.2.2) (fun (u : (Nat → Int64) × Int32 × (Nat → Int32) × (Nat → Int64) × Int32) t => PW D A (wdC cI cL cZ ad ga_sightings ga_bestShifts ga_commonLength ga_allTimes gr_width gr_height gr_size gr_kinds gr_before gr_columns gr_rows gr_floorCells gr_clearCells gr_standCells gr_firstColumn gr_lastColumn pi_cells pi_facings pi_sets pi_size po_needs ro_cells ro_lengths ro_shifts si_sightLaw si_sightRange u.1 th_goals u.2.1 u.2.2.1 u.2.2.2.1 u.2.2.2.2 wh_places) t.heap) A) args s 0 0 A := ⟨_, rfl⟩
  rw [← hZ]
  have hw : SW D A s.heap (wdC cI cL cZ ad ga_sightings ga_bestShifts ga_commonLength ga_allTimes gr_width gr_height gr_size gr_kinds gr_before gr_columns gr_rows gr_floorCells gr_clearCells gr_standCells gr_firstColumn gr_lastColumn pi_cells pi_facings pi_sets pi_size po_needs ro_cells ro_lengths ro_shifts si_sightLaw si_sightRange th_unseen th_goals th_commonLength tr_marks tr_visited tr_size wh_places) s.heap [] := ⟨hP0, hD0, va_S.rf⟩
  clear hP0 hD0 B
  unfold P_wh_theftStep at h
  have he : entryFrame m args 5 = entryFrame m ([.ref (ad 9), .int x1, .int x2, .int x3, .int x4] : List Value).toArray 5 := by rw [hav]
  refine W.eq he ?_
  have hl := lv_entry ([.ref (ad 9), .int x1, .int x2, .int x3, .int x4]) (n := 5) (Nat.le_of_ble_eq_true rfl)
  rw [lg_entry_eq]
  generalize (lg_sl ([.ref (ad 9), .int x1, .int x2, .int x3, .int x4]) ++ List.replicate (5 - (lg_sl ([.ref (ad 9), .int x1, .int x2, .int x3, .int x4])).length) Slot.unset).toArray = ls at hl ⊢
  have hl : lv_has ls 5 [(0, .ref (ad 9)), (1, .int x1), (2, .int x2), (3, .int x3), (4, .int x4)] := hl
  refine lv_aload_n hx hb dX9_theftStep_0 rfl (lv_at hl 0 rfl) ?_
  refine gC_wh_pictures hx hb hts hin hown hK hw lk30 dX9_theftStep_1 ?_
  refine lv_iload_n hx hb dX9_theftStep_4 rfl (lv_at hl 1 rfl) ?_
  refine cV_i (b := (ad 2)) (As := [.int x1]) (rest := []) ⟨hx, hb, hml, hown, hts⟩ hK hw (c_pi_isPicture x1 h) (cwV 1 hts (gd_RX9_144 hB) rfl rfl rfl (by decide +kernel) ⟨Nat.le_of_ble_eq_true rfl, Nat.le_of_ble_eq_true rfl⟩) (rC_pi hK hw) hl.1 ⟨Nat.zero_le _, Nat.zero_le _⟩ rfl rfl (Nat.le_of_ble_eq_true rfl) dX9_theftStep_5 (fun r5 _ H locs h hw => ?_)
  refine lv_if_eq (tgt := 22) hx hb dX9_theftStep_8 (by decide) (fun hc => ?_) (fun hc => ?_)
  · replace h := h.1 hc
    refine lv_iconst (v := (-1)) hx hb dX9_theftStep_22 (by decide) ?_
    rw [hZ]
    exact rt_i (th_unseen, th_commonLength, tr_marks, tr_visited, tr_size) hx hb hr hlocks hw h dX9_theftStep_23
  · replace h := h.2 hc
    refine lv_aload_n hx hb dX9_theftStep_11 rfl (lv_at hl 0 rfl) ?_
    refine gC_wh_grid hx hb hts hin hown hK hw lk12 dX9_theftStep_12 ?_
    refine lv_iload_n hx hb dX9_theftStep_15 rfl (lv_at hl 2 rfl) ?_
    refine cV_i (b := (ad 1)) (As := [.int x2]) (rest := []) ⟨hx, hb, hml, hown, hts⟩ hK hw (c_gr_isCell x2 h) (cwV 1 hts (gd_RX9_100 hB) rfl rfl rfl (by decide +kernel) ⟨Nat.le_of_ble_eq_true rfl, Nat.le_of_ble_eq_true rfl⟩) (rC_gr hK hw) hl.1 ⟨Nat.zero_le _, Nat.zero_le _⟩ rfl rfl (Nat.le_of_ble_eq_true rfl) dX9_theftStep_16 (fun r16 _ H locs h hw => ?_)
    refine lv_if_ne (tgt := 24) hx hb dX9_theftStep_19 (by decide) (fun hc => ?_) (fun hc => ?_)
    · replace h := h.2 hc
      refine lv_iload_n hx hb dX9_theftStep_24 rfl (lv_at hl 3 rfl) ?_
      refine cS_i (As := [.int x3]) (rest := []) ⟨hx, hb, hml, hown, hts⟩ hK hw (c_wh_isTime x3 h) (va_cwS 1 hts (gd_RX9_200 hB) rfl rfl rfl (by decide +kernel) ⟨Nat.le_of_ble_eq_true rfl, Nat.le_of_ble_eq_true rfl⟩) hl.1 ⟨Nat.zero_le _, Nat.zero_le _⟩ rfl rfl (Nat.le_of_ble_eq_true rfl) dX9_theftStep_25 (fun r25 _ H locs h hw => ?_)
      refine lv_if_ne (tgt := 34) hx hb dX9_theftStep_28 (by decide) (fun hc => ?_) (fun hc => ?_)
      · replace h := h.2 hc
        refine lv_aload_n hx hb dX9_theftStep_34 rfl (lv_at hl 0 rfl) ?_
        refine gC_wh_thefts hx hb hts hin hown hK hw lk76 dX9_theftStep_35 ?_
        refine cV_v (b := (ad 6)) (As := []) (rest := []) ⟨hx, hb, hml, hown, hts⟩ hK hw (c_th_survey h) (cwV 0 hts (gd_RX9_219 hB) rfl rfl rfl (by decide +kernel) ⟨Nat.le_of_ble_eq_true rfl, Nat.le_of_ble_eq_true rfl⟩) (rC_th hK hw) hl.1 ⟨Nat.zero_le _, Nat.zero_le _⟩ rfl rfl (Nat.le_of_ble_eq_true rfl) dX9_theftStep_38 (fun u38 H locs h hw => ?_)
        obtain ⟨th_unseen_38, th_commonLength_38⟩ := u38
        refine lv_aload_n hx hb dX9_theftStep_41 rfl (lv_at hl 0 rfl) ?_
        refine gC_wh_thefts hx hb hts hin hown hK hw lk76 dX9_theftStep_42 ?_
        refine lv_aload_n hx hb dX9_theftStep_45 rfl (lv_at hl 0 rfl) ?_
        refine gC_wh_pictures hx hb hts hin hown hK hw lk30 dX9_theftStep_46 ?_
        refine lv_iload_n hx hb dX9_theftStep_49 rfl (lv_at hl 1 rfl) ?_
        refine cV_i (b := (ad 2)) (As := [.int x1]) (rest := [.ref (ad 6)]) ⟨hx, hb, hml, hown, hts⟩ hK hw (c_pi_cellOf x1 h) (cwV 1 hts (gd_RX9_147 hB) rfl rfl rfl (by decide +kernel) ⟨Nat.le_of_ble_eq_true rfl, Nat.le_of_ble_eq_true rfl⟩) (rC_pi hK hw) hl.1 ⟨Nat.zero_le _, Nat.zero_le _⟩ rfl rfl (Nat.le_of_ble_eq_true rfl) dX9_theftStep_50 (fun r50 _ H locs h hw => ?_)
        refine lv_iload_n hx hb dX9_theftStep_53 rfl (lv_at hl 2 rfl) ?_
        refine lv_iload_n hx hb dX9_theftStep_54 rfl (lv_at hl 3 rfl) ?_
        refine lv_iload hx hb dX9_theftStep_55 (lv_at hl 4 rfl) ?_
        refine cV_i (b := (ad 6)) (As := [.int r50, .int x2, .int x3, .int x4]) (rest := []) ⟨hx, hb, hml, hown, hts⟩ hK hw (c_th_moveOf r50 x2 x3 x4 h) (cwV 4 hts (gd_RX9_224 hB) rfl rfl rfl (by decide +kernel) ⟨Nat.le_of_ble_eq_true rfl, Nat.le_of_ble_eq_true rfl⟩) (rC_th hK hw) hl.1 ⟨Nat.zero_le _, Nat.zero_le _⟩ rfl rfl (Nat.le_of_ble_eq_true rfl) dX9_theftStep_57 (fun r57 u57 H locs h hw => ?_)
        obtain ⟨tr_marks_57, tr_visited_57, tr_size_57⟩ := u57
        rw [hZ]
        exact rt_i (th_unseen_38, th_commonLength_38, tr_marks_57, tr_visited_57, tr_size_57) hx hb hr hlocks hw h dX9_theftStep_60
      · replace h := h.1 hc
        refine lv_bipush (v := (-2)) hx hb dX9_theftStep_31 (by decide) ?_
        rw [hZ]
        exact rt_i (th_unseen, th_commonLength, tr_marks, tr_visited, tr_size) hx hb hr hlocks hw h dX9_theftStep_33
    · replace h := h.1 hc
      refine lv_iconst (v := (-1)) hx hb dX9_theftStep_22 (by decide) ?_
      rw [hZ]
      exact rt_i (th_unseen, th_commonLength, tr_marks, tr_visited, tr_size) hx hb hr hlocks hw h dX9_theftStep_23
def rm_wh_hours : Room := { frames := 5, cells := 0, slots := 0, locals := 128 }
set_option maxHeartbeats 4000000 in
set_option maxRecDepth 100000 in
theorem c_wh_hours {l : Launch} {D : va_G} {cI cL cZ : ClassId} {mx my : Nat} {A : Nat → Prop} {ad : Nat → Nat} {ga_sightings th_unseen th_goals tr_visited : Nat → Int64} {ga_bestShifts gr_kinds gr_before gr_columns gr_rows pi_cells pi_facings pi_sets po_needs ro_cells ro_lengths ro_shifts tr_marks wh_places : Nat → Int32} {ga_commonLength gr_width gr_height gr_size pi_size si_sightLaw si_sightRange th_commonLength tr_size : Int32} {ga_allTimes gr_floorCells gr_clearCells gr_standCells gr_firstColumn gr_lastColumn : Int64} (x1 : Int32) (x2 : Int32) {Q : Int32 → (Nat → Int64) → (Nat → Int64) → Int32 → Prop} (h : P_wh_hours gr_width gr_size gr_columns gr_rows gr_floorCells gr_clearCells gr_standCells gr_firstColumn gr_lastColumn pi_cells pi_size ro_cells ro_lengths ro_shifts si_sightLaw si_sightRange th_unseen th_goals th_commonLength x1 x2 Q) : Met l yX9_hours wsX9_hours rm_wh_hours (va_Pc [.ref (ad 9), .int x1, .int x2] (WC D cI cL cZ mx my A (wdC cI cL cZ ad ga_sightings ga_bestShifts ga_commonLength ga_allTimes gr_width gr_height gr_size gr_kinds gr_before gr_columns gr_rows gr_floorCells gr_clearCells gr_standCells gr_firstColumn gr_lastColumn pi_cells pi_facings pi_sets pi_size po_needs ro_cells ro_lengths ro_shifts si_sightLaw si_sightRange th_unseen th_goals th_commonLength tr_marks tr_visited tr_size wh_places))) (va_Qi (fun (r : Int32) (u : (Nat → Int64) × (Nat → Int64) × Int32) => Q r u.1 u.2.1 u.2.2) (fun (u : (Nat → Int64) × (Nat → Int64) × Int32) t => PW D A (wdC cI cL cZ ad ga_sightings ga_bestShifts ga_commonLength ga_allTimes gr_width gr_height gr_size gr_kinds gr_before gr_columns gr_rows gr_floorCells gr_clearCells gr_standCells gr_firstColumn gr_lastColumn pi_cells pi_facings pi_sets pi_size po_needs ro_cells ro_lengths ro_shifts si_sightLaw si_sightRange u.1 u.2.1 u.2.2 tr_marks tr_visited tr_size wh_places) t.heap) A) 0 0 A := by
  refine Met.ofW (cc := cX9_hours) (maxL := 3) (ret := (some .int)) (by decide) rfl ?_
  intro p e s m args below meth c s₁ B hml hv
  obtain ⟨hav, hP0, hD0, hK⟩ := hv
  have hx := B.exec
  have hb := B.bytes
  have hr := B.returns
  have hts := atoms_spec (ws := wsX9_hours) B.pre
  have hown : s.vm.findClass RX9 = some m.cls := findClass_of_methodNamed B.named
  have hlocks := B.notSynchronized
  have hB : ∀ w ∈ BIG, w ∈ wsX9_hours := fun _ h => List.mem_cons_of_mem _ h
  have hin : ∀ w ∈ wsX90, w ∈ wsX9_hours := fun w h => hB w (inB_X9 w h)
  have lk12 := hts _ (hB _ m_300)
  have lk30 := hts _ (hB _ m_302)
  have lk76 := hts _ (hB _ m_307)
  obtain ⟨Z, hZ⟩ : ∃ Z : State → Prop, Z = MQ below (va_Qi (fun (r : Int32) (u : (Nat → Int64) × (Nat → Int64) × Int32) => Q r u.1 u.2.1 u.2.2) (fun (u : (Nat → Int64) × (Nat → Int64) × Int32) t => PW D A (wdC cI cL cZ ad ga_sightings ga_bestShifts ga_commonLength ga_allTimes gr_width gr_height gr_size gr_kinds gr_before gr_columns gr_rows gr_floorCells gr_clearCells gr_standCells gr_firstColumn gr_lastColumn pi_cells pi_facings pi_sets pi_size po_needs ro_cells ro_lengths ro_shifts si_sightLaw si_sightRange u.1 u.2.1 u.2.2 tr_marks tr_visited tr_size wh_places) t.heap) A) args s 0 0 A := ⟨_, rfl⟩
  rw [← hZ]
  have hw : SW D A s.heap (wdC cI cL cZ ad ga_sightings ga_bestShifts ga_commonLength ga_allTimes gr_width gr_height gr_size gr_kinds gr_before gr_columns gr_rows gr_floorCells gr_clearCells gr_standCells gr_firstColumn gr_lastColumn pi_cells pi_facings pi_sets pi_size po_needs ro_cells ro_lengths ro_shifts si_sightLaw si_sightRange th_unseen th_goals th_commonLength tr_marks tr_visited tr_size wh_places) s.heap [] := ⟨hP0, hD0, va_S.rf⟩
  clear hP0 hD0 B
  unfold P_wh_hours at h
  have he : entryFrame m args 3 = entryFrame m ([.ref (ad 9), .int x1, .int x2] : List Value).toArray 3 := by rw [hav]
  refine W.eq he ?_
  have hl := lv_entry ([.ref (ad 9), .int x1, .int x2]) (n := 3) (Nat.le_of_ble_eq_true rfl)
  rw [lg_entry_eq]
  generalize (lg_sl ([.ref (ad 9), .int x1, .int x2]) ++ List.replicate (3 - (lg_sl ([.ref (ad 9), .int x1, .int x2])).length) Slot.unset).toArray = ls at hl ⊢
  have hl : lv_has ls 3 [(0, .ref (ad 9)), (1, .int x1), (2, .int x2)] := hl
  refine lv_aload_n hx hb dX9_hours_0 rfl (lv_at hl 0 rfl) ?_
  refine gC_wh_pictures hx hb hts hin hown hK hw lk30 dX9_hours_1 ?_
  refine lv_iload_n hx hb dX9_hours_4 rfl (lv_at hl 1 rfl) ?_
  refine cV_i (b := (ad 2)) (As := [.int x1]) (rest := []) ⟨hx, hb, hml, hown, hts⟩ hK hw (c_pi_isPicture x1 h) (cwV 1 hts (gd_RX9_144 hB) rfl rfl rfl (by decide +kernel) ⟨Nat.le_of_ble_eq_true rfl, Nat.le_of_ble_eq_true rfl⟩) (rC_pi hK hw) hl.1 ⟨Nat.zero_le _, Nat.zero_le _⟩ rfl rfl (Nat.le_of_ble_eq_true rfl) dX9_hours_5 (fun r5 _ H locs h hw => ?_)
  refine lv_if_eq (tgt := 22) hx hb dX9_hours_8 (by decide) (fun hc => ?_) (fun hc => ?_)
  · replace h := h.1 hc
    refine lv_iconst (v := (-1)) hx hb dX9_hours_22 (by decide) ?_
    rw [hZ]
    exact rt_i (th_unseen, th_goals, th_commonLength) hx hb hr hlocks hw h dX9_hours_23
  · replace h := h.2 hc
    refine lv_aload_n hx hb dX9_hours_11 rfl (lv_at hl 0 rfl) ?_
    refine gC_wh_grid hx hb hts hin hown hK hw lk12 dX9_hours_12 ?_
    refine lv_iload_n hx hb dX9_hours_15 rfl (lv_at hl 2 rfl) ?_
    refine cV_i (b := (ad 1)) (As := [.int x2]) (rest := []) ⟨hx, hb, hml, hown, hts⟩ hK hw (c_gr_isCell x2 h) (cwV 1 hts (gd_RX9_100 hB) rfl rfl rfl (by decide +kernel) ⟨Nat.le_of_ble_eq_true rfl, Nat.le_of_ble_eq_true rfl⟩) (rC_gr hK hw) hl.1 ⟨Nat.zero_le _, Nat.zero_le _⟩ rfl rfl (Nat.le_of_ble_eq_true rfl) dX9_hours_16 (fun r16 _ H locs h hw => ?_)
    refine lv_if_ne (tgt := 24) hx hb dX9_hours_19 (by decide) (fun hc => ?_) (fun hc => ?_)
    · replace h := h.2 hc
      refine lv_aload_n hx hb dX9_hours_24 rfl (lv_at hl 0 rfl) ?_
      refine gC_wh_thefts hx hb hts hin hown hK hw lk76 dX9_hours_25 ?_
      refine cV_v (b := (ad 6)) (As := []) (rest := []) ⟨hx, hb, hml, hown, hts⟩ hK hw (c_th_survey h) (cwV 0 hts (gd_RX9_219 hB) rfl rfl rfl (by decide +kernel) ⟨Nat.le_of_ble_eq_true rfl, Nat.le_of_ble_eq_true rfl⟩) (rC_th hK hw) hl.1 ⟨Nat.zero_le _, Nat.zero_le _⟩ rfl rfl (Nat.le_of_ble_eq_true rfl) dX9_hours_28 (fun u28 H locs h hw => ?_)
      obtain ⟨th_unseen_28, th_commonLength_28⟩ := u28
      refine lv_aload_n hx hb dX9_hours_31 rfl (lv_at hl 0 rfl) ?_
      refine gC_wh_thefts hx hb hts hin hown hK hw lk76 dX9_hours_32 ?_
      refine lv_aload_n hx hb dX9_hours_35 rfl (lv_at hl 0 rfl) ?_
      refine gC_wh_pictures hx hb hts hin hown hK hw lk30 dX9_hours_36 ?_
      refine lv_iload_n hx hb dX9_hours_39 rfl (lv_at hl 1 rfl) ?_
      refine cV_i (b := (ad 2)) (As := [.int x1]) (rest := [.ref (ad 6)]) ⟨hx, hb, hml, hown, hts⟩ hK hw (c_pi_cellOf x1 h) (cwV 1 hts (gd_RX9_147 hB) rfl rfl rfl (by decide +kernel) ⟨Nat.le_of_ble_eq_true rfl, Nat.le_of_ble_eq_true rfl⟩) (rC_pi hK hw) hl.1 ⟨Nat.zero_le _, Nat.zero_le _⟩ rfl rfl (Nat.le_of_ble_eq_true rfl) dX9_hours_40 (fun r40 _ H locs h hw => ?_)
      refine lv_iload_n hx hb dX9_hours_43 rfl (lv_at hl 2 rfl) ?_
      refine cV_i (b := (ad 6)) (As := [.int r40, .int x2]) (rest := []) ⟨hx, hb, hml, hown, hts⟩ hK hw (c_th_goodHours r40 x2 h) (cwV 2 hts (gd_RX9_228 hB) rfl rfl rfl (by decide +kernel) ⟨Nat.le_of_ble_eq_true rfl, Nat.le_of_ble_eq_true rfl⟩) (rC_th hK hw) hl.1 ⟨Nat.zero_le _, Nat.zero_le _⟩ rfl rfl (Nat.le_of_ble_eq_true rfl) dX9_hours_44 (fun r44 th_goals_44 H locs h hw => ?_)
      rw [hZ]
      exact rt_i (th_unseen_28, th_goals_44, th_commonLength_28) hx hb hr hlocks hw h dX9_hours_47
    · replace h := h.1 hc
      refine lv_iconst (v := (-1)) hx hb dX9_hours_22 (by decide) ?_
      rw [hZ]
      exact rt_i (th_unseen, th_goals, th_commonLength) hx hb hr hlocks hw h dX9_hours_23
def rm_wh_turn : Room := { frames := 2, cells := 0, slots := 0, locals := 73 }
set_option maxHeartbeats 4000000 in
set_option maxRecDepth 100000 in
theorem c_wh_turn {l : Launch} {D : va_G} {cI cL cZ : ClassId} {mx my : Nat} {A : Nat → Prop} {ad : Nat → Nat} {ga_sightings th_unseen th_goals tr_visited : Nat → Int64} {ga_bestShifts gr_kinds gr_before gr_columns gr_rows pi_cells pi_facings pi_sets po_needs ro_cells ro_lengths ro_shifts tr_marks wh_places : Nat → Int32} {ga_commonLength gr_width gr_height gr_size pi_size si_sightLaw si_sightRange th_commonLength tr_size : Int32} {ga_allTimes gr_floorCells gr_clearCells gr_standCells gr_firstColumn gr_lastColumn : Int64}  {Q : Int32 → Int32 → Int32 → Int32 → (Nat → Int32) → (Nat → Int32) → (Nat → Int32) → (Nat → Int32) → Int64 → Int64 → Int64 → Int64 → Int64 → (Nat → Int32) → (Nat → Int32) → (Nat → Int32) → (Nat → Int32) → Prop} (h : P_wh_turn gr_width gr_height gr_size gr_kinds gr_before gr_columns gr_rows gr_floorCells gr_clearCells gr_standCells gr_firstColumn gr_lastColumn pi_cells pi_facings pi_size ro_cells ro_lengths wh_places Q) : Met l yX9_turn wsX9_turn rm_wh_turn (va_Pc [.ref (ad 9)] (WC D cI cL cZ mx my A (wdC cI cL cZ ad ga_sightings ga_bestShifts ga_commonLength ga_allTimes gr_width gr_height gr_size gr_kinds gr_before gr_columns gr_rows gr_floorCells gr_clearCells gr_standCells gr_firstColumn gr_lastColumn pi_cells pi_facings pi_sets pi_size po_needs ro_cells ro_lengths ro_shifts si_sightLaw si_sightRange th_unseen th_goals th_commonLength tr_marks tr_visited tr_size wh_places))) (va_Qi (fun (r : Int32) (u : Int32 × Int32 × Int32 × (Nat → Int32) × (Nat → Int32) × (Nat → Int32) × (Nat → Int32) × Int64 × Int64 × Int64 × Int64 × Int64 × (Nat → Int32) × (Nat → Int32) × (Nat → Int32) × (Nat → Int32)) => Q r u.1 u.2.1 u.2.2.1 u.2.2.2.1 u.2.2.2.2.1 u.2.2.2.2.2.1 u.2.2.2.2.2.2.1 u.2.2.2.2.2.2.2.1 u.2.2.2.2.2.2.2.2.1 u.2.2.2.2.2.2.2.2.2.1 u.2.2.2.2.2.2.2.2.2.2.1 u.2.2.2.2.2.2.2.2.2.2.2.1 u.2.2.2.2.2.2.2.2.2.2.2.2.1 u.2.2.2.2.2.2.2.2.2.2.2.2.2.1 u.2.2.2.2.2.2.2.2.2.2.2.2.2.2.1 u.2.2.2.2.2.2.2.2.2.2.2.2.2.2.2) (fun (u : Int32 × Int32 × Int32 × (Nat → Int32) × (Nat → Int32) × (Nat → Int32) × (Nat → Int32) × Int64 × Int64 × Int64 × Int64 × Int64 × (Nat → Int32) × (Nat → Int32) × (Nat → Int32) × (Nat → Int32)) t => PW D A (wdC cI cL cZ ad ga_sightings ga_bestShifts ga_commonLength ga_allTimes u.1 u.2.1 u.2.2.1 u.2.2.2.1 u.2.2.2.2.1 u.2.2.2.2.2.1 u.2.2.2.2.2.2.1 u.2.2.2.2.2.2.2.1 u.2.2.2.2.2.2.2.2.1 u.2.2.2.2.2.2.2.2.2.1 u.2.2.2.2.2.2.2.2.2.2.1 u.2.2.2.2.2.2.2.2.2.2.2.1 u.2.2.2.2.2.2.2.2.2.2.2.2.1 u.2.2.2.2.2.2.2.2.2.2.2.2.2.1 pi_sets pi_size po_needs u.2.2.2.2.2.2.2.2.2.2.2.2.2.2.1 ro_lengths ro_shifts si_sightLaw si_sightRange th_unseen th_goals th_commonLength tr_marks tr_visited tr_size u.2.2.2.2.2.2.2.2.2.2.2.2.2.2.2) t.heap) A) 0 0 A := by
  refine Met.ofW (cc := cX9_turn) (maxL := 2) (ret := (some .int)) (by decide) rfl ?_
  intro p e s m args below meth c s₁ B hml hv
  obtain ⟨hav, hP0, hD0, hK⟩ := hv
  have hx := B.exec
  have hb := B.bytes
  have hr := B.returns
  have hts := atoms_spec (ws := wsX9_turn) B.pre
  have hown : s.vm.findClass RX9 = some m.cls := findClass_of_methodNamed B.named
  have hlocks := B.notSynchronized
  have hB : ∀ w ∈ BIG, w ∈ wsX9_turn := fun _ h => List.mem_cons_of_mem _ h
  have hin : ∀ w ∈ wsX90, w ∈ wsX9_turn := fun w h => hB w (inB_X9 w h)
  have lk12 := hts _ (hB _ m_300)
  have lk30 := hts _ (hB _ m_302)
  have lk37 := hts _ (hB _ m_303)
  have lk80 := hts _ (hB _ m_308)
  obtain ⟨Z, hZ⟩ : ∃ Z : State → Prop, Z = MQ below (va_Qi (fun (r : Int32) (u : Int32 × Int32 × Int32 × (Nat → Int32) × (Nat → Int32) × (Nat → Int32) × (Nat → Int32) × Int64 × Int64 × Int64 × Int64 × Int64 × (Nat → Int32) × (Nat → Int32) × (Nat → Int32) × (Nat → Int32)) => Q r u.1 u.2.1 u.2.2.1 u.2.2.2.1 u.2.2.2.2.1 u.2.2.2.2.2.1 u.2.2.2.2.2.2.1 u.2.2.2.2.2.2.2.1 u.2.2.2.2.2.2.2.2.1 u.2.2.2.2.2.2.2.2.2.1 u.2.2.2.2.2.2.2.2.2.2.1 u.2.2.2.2.2.2.2.2.2.2.2.1 u.2.2.2.2.2.2.2.2.2.2.2.2.1 u.2.2.2.2.2.2.2.2.2.2.2.2.2.1 u.2.2.2.2.2.2.2.2.2.2.2.2.2.2.1 u.2.2.2.2.2.2.2.2.2.2.2.2.2.2.2) (fun (u : Int32 × Int32 × Int32 × (Nat → Int32) × (Nat → Int32) × (Nat → Int32) × (Nat → Int32) × Int64 × Int64 × Int64 × Int64 × Int64 × (Nat → Int32) × (Nat → Int32) × (Nat → Int32) × (Nat → Int32)) t => PW D A (wdC cI cL cZ ad ga_sightings ga_bestShifts ga_commonLength ga_allTimes u.1 u.2.1 u.2.2.1 u.2.2.2.1 u.2.2.2.2.1 u.2.2.2.2.2.1 u.2.2.2.2.2.2.1 u.2.2.2.2.2.2.2.1 u.2.2.2.2.2.2.2.2.1 u.2.2.2.2.2.2.2.2.2.1 u.2.2.2.2.2.2.2.2.2.2.1 u.2.2.2.2.2.2.2.2.2.2.2.1 u.2.2.2.2.2.2.2.2.2.2.2.2.1 u.2.2.2.2.2.2.2.2.2.2.2.2.2.1 pi_sets pi_size po_needs u.2.2.2.2.2.2.2.2.2.2.2.2.2.2.1 ro_lengths ro_shifts si_sightLaw si_sightRange th_unseen th_goals th_commonLength tr_marks tr_visited tr_size u.2.2.2.2.2.2.2.2.2.2.2.2.2.2.2) t.heap) A) args s 0 0 A := ⟨_, rfl⟩
  rw [← hZ]
  have hw : SW D A s.heap (wdC cI cL cZ ad ga_sightings ga_bestShifts ga_commonLength ga_allTimes gr_width gr_height gr_size gr_kinds gr_before gr_columns gr_rows gr_floorCells gr_clearCells gr_standCells gr_firstColumn gr_lastColumn pi_cells pi_facings pi_sets pi_size po_needs ro_cells ro_lengths ro_shifts si_sightLaw si_sightRange th_unseen th_goals th_commonLength tr_marks tr_visited tr_size wh_places) s.heap [] := ⟨hP0, hD0, va_S.rf⟩
  clear hP0 hD0 B
  have J33 : ∀ (_ : True) (gr_width : Int32) (gr_height : Int32) (gr_size : Int32) (gr_kinds : (Nat → Int32)) (gr_before : (Nat → Int32)) (gr_columns : (Nat → Int32)) (gr_rows : (Nat → Int32)) (gr_floorCells : Int64) (gr_clearCells : Int64) (gr_standCells : Int64) (gr_firstColumn : Int64) (gr_lastColumn : Int64) (pi_cells : (Nat → Int32)) (pi_facings : (Nat → Int32)) (ro_cells : (Nat → Int32)) (wh_places : (Nat → Int32)) , B_wh_turn_33 pi_size ro_lengths Q gr_width gr_height gr_size gr_kinds gr_before gr_columns gr_rows gr_floorCells gr_clearCells gr_standCells gr_firstColumn gr_lastColumn pi_cells pi_facings ro_cells wh_places → ∀ (H : Heap) (locs : List Loc) (ls : Array Slot), SW D A s.heap (wdC cI cL cZ ad ga_sightings ga_bestShifts ga_commonLength ga_allTimes gr_width gr_height gr_size gr_kinds gr_before gr_columns gr_rows gr_floorCells gr_clearCells gr_standCells gr_firstColumn gr_lastColumn pi_cells pi_facings pi_sets pi_size po_needs ro_cells ro_lengths ro_shifts si_sightLaw si_sightRange th_unseen th_goals th_commonLength tr_marks tr_visited tr_size wh_places) H locs → lv_has ls 2 [(0, .ref (ad 9))] → W p l e (headSpec wsX9_turn rm_wh_turn).room s m args below meth c H locs 0 0 Z (F0 m 33 ls []) := by
    intro _  gr_width gr_height gr_size gr_kinds gr_before gr_columns gr_rows gr_floorCells gr_clearCells gr_standCells gr_firstColumn gr_lastColumn pi_cells pi_facings ro_cells wh_places h H locs ls hw hl
    unfold B_wh_turn_33 at h
    refine lv_aload_n hx hb dX9_turn_33 rfl (lv_at hl 0 rfl) ?_
    refine gC_wh_pictures hx hb hts hin hown hK hw lk30 dX9_turn_34 ?_
    refine lv_aload_n hx hb dX9_turn_37 rfl (lv_at hl 0 rfl) ?_
    refine gC_wh_places hx hb hts hin hown hK hw lk80 dX9_turn_38 ?_
    refine cV_v (b := (ad 2)) (As := [.ref (ad 27)]) (rest := []) ⟨hx, hb, hml, hown, hts⟩ hK hw (c_pi_relocate h) (cwV 1 hts (gd_RX9_234 hB) rfl rfl rfl (by decide +kernel) ⟨Nat.le_of_ble_eq_true rfl, Nat.le_of_ble_eq_true rfl⟩) (rC_pi hK hw) hl.1 ⟨Nat.zero_le _, Nat.zero_le _⟩ rfl rfl (Nat.le_of_ble_eq_true rfl) dX9_turn_41 (fun pi_cells_41 H locs h hw => ?_)
    refine lv_aload_n hx hb dX9_turn_44 rfl (lv_at hl 0 rfl) ?_
    refine gC_wh_pictures hx hb hts hin hown hK hw lk30 dX9_turn_45 ?_
    refine cV_v (b := (ad 2)) (As := []) (rest := []) ⟨hx, hb, hml, hown, hts⟩ hK hw (c_pi_turnFacings h) (cwV 0 hts (gd_RX9_238 hB) rfl rfl rfl (by decide +kernel) ⟨Nat.le_of_ble_eq_true rfl, Nat.le_of_ble_eq_true rfl⟩) (rC_pi hK hw) hl.1 ⟨Nat.zero_le _, Nat.zero_le _⟩ rfl rfl (Nat.le_of_ble_eq_true rfl) dX9_turn_48 (fun pi_facings_48 H locs h hw => ?_)
    refine lv_aload_n hx hb dX9_turn_51 rfl (lv_at hl 0 rfl) ?_
    refine gC_wh_rounds hx hb hts hin hown hK hw lk37 dX9_turn_52 ?_
    refine lv_aload_n hx hb dX9_turn_55 rfl (lv_at hl 0 rfl) ?_
    refine gC_wh_places hx hb hts hin hown hK hw lk80 dX9_turn_56 ?_
    refine cV_v (b := (ad 4)) (As := [.ref (ad 27)]) (rest := []) ⟨hx, hb, hml, hown, hts⟩ hK hw (c_ro_relocate h) (cwV 1 hts (gd_RX9_241 hB) rfl rfl rfl (by decide +kernel) ⟨Nat.le_of_ble_eq_true rfl, Nat.le_of_ble_eq_true rfl⟩) (rC_ro hK hw) hl.1 ⟨Nat.zero_le _, Nat.zero_le _⟩ rfl rfl (Nat.le_of_ble_eq_true rfl) dX9_turn_59 (fun ro_cells_59 H locs h hw => ?_)
    refine lv_aload_n hx hb dX9_turn_62 rfl (lv_at hl 0 rfl) ?_
    refine gC_wh_grid hx hb hts hin hown hK hw lk12 dX9_turn_63 ?_
    refine lv_aload_n hx hb dX9_turn_66 rfl (lv_at hl 0 rfl) ?_
    refine gC_wh_places hx hb hts hin hown hK hw lk80 dX9_turn_67 ?_
    refine lv_aload_n hx hb dX9_turn_70 rfl (lv_at hl 0 rfl) ?_
    refine gC_wh_grid hx hb hts hin hown hK hw lk12 dX9_turn_71 ?_
    refine cV_i (b := (ad 1)) (As := []) (rest := [.ref (ad 27), .ref (ad 1)]) ⟨hx, hb, hml, hown, hts⟩ hK hw (c_gr_height h) (cwV 0 hts (gd_RX9_242 hB) rfl rfl rfl (by decide +kernel) ⟨Nat.le_of_ble_eq_true rfl, Nat.le_of_ble_eq_true rfl⟩) (rC_gr hK hw) hl.1 ⟨Nat.zero_le _, Nat.zero_le _⟩ rfl rfl (Nat.le_of_ble_eq_true rfl) dX9_turn_74 (fun r74 _ H locs h hw => ?_)
    refine lv_aload_n hx hb dX9_turn_77 rfl (lv_at hl 0 rfl) ?_
    refine gC_wh_grid hx hb hts hin hown hK hw lk12 dX9_turn_78 ?_
    refine cV_i (b := (ad 1)) (As := []) (rest := [.int r74, .ref (ad 27), .ref (ad 1)]) ⟨hx, hb, hml, hown, hts⟩ hK hw (c_gr_width h) (cwV 0 hts (gd_RX9_245 hB) rfl rfl rfl (by decide +kernel) ⟨Nat.le_of_ble_eq_true rfl, Nat.le_of_ble_eq_true rfl⟩) (rC_gr hK hw) hl.1 ⟨Nat.zero_le _, Nat.zero_le _⟩ rfl rfl (Nat.le_of_ble_eq_true rfl) dX9_turn_81 (fun r81 _ H locs h hw => ?_)
    refine cV_i (b := (ad 1)) (As := [.ref (ad 27), .int r74, .int r81]) (rest := []) ⟨hx, hb, hml, hown, hts⟩ hK hw (c_gr_relocate r74 r81 h) (cwV 3 hts (gd_RX9_248 hB) rfl rfl rfl (by decide +kernel) ⟨Nat.le_of_ble_eq_true rfl, Nat.le_of_ble_eq_true rfl⟩) (rC_gr hK hw) hl.1 ⟨Nat.zero_le _, Nat.zero_le _⟩ rfl rfl (Nat.le_of_ble_eq_true rfl) dX9_turn_84 (fun r84 u84 H locs h hw => ?_)
    obtain ⟨gr_width_84, gr_height_84, gr_size_84, gr_kinds_84, gr_before_84, gr_columns_84, gr_rows_84, gr_floorCells_84, gr_clearCells_84, gr_standCells_84, gr_firstColumn_84, gr_lastColumn_84⟩ := u84
    refine lv_pop hx hb dX9_turn_87 rfl ?_
    refine lv_aload_n hx hb dX9_turn_88 rfl (lv_at hl 0 rfl) ?_
    refine gC_wh_grid hx hb hts hin hown hK hw lk12 dX9_turn_89 ?_
    refine cV_i (b := (ad 1)) (As := []) (rest := []) ⟨hx, hb, hml, hown, hts⟩ hK hw (c_gr_width h) (cwV 0 hts (gd_RX9_245 hB) rfl rfl rfl (by decide +kernel) ⟨Nat.le_of_ble_eq_true rfl, Nat.le_of_ble_eq_true rfl⟩) (rC_gr hK hw) hl.1 ⟨Nat.zero_le _, Nat.zero_le _⟩ rfl rfl (Nat.le_of_ble_eq_true rfl) dX9_turn_92 (fun r92 _ H locs h hw => ?_)
    rw [hZ]
    exact rt_i (gr_width_84, gr_height_84, gr_size_84, gr_kinds_84, gr_before_84, gr_columns_84, gr_rows_84, gr_floorCells_84, gr_clearCells_84, gr_standCells_84, gr_firstColumn_84, gr_lastColumn_84, pi_cells_41, pi_facings_48, ro_cells_59, wh_places) hx hb hr hlocks hw h dX9_turn_95
  have J2 : ∀ (n : Nat) (gr_width : Int32) (gr_height : Int32) (gr_size : Int32) (gr_kinds : (Nat → Int32)) (gr_before : (Nat → Int32)) (gr_columns : (Nat → Int32)) (gr_rows : (Nat → Int32)) (gr_floorCells : Int64) (gr_clearCells : Int64) (gr_standCells : Int64) (gr_firstColumn : Int64) (gr_lastColumn : Int64) (pi_cells : (Nat → Int32)) (pi_facings : (Nat → Int32)) (ro_cells : (Nat → Int32)) (wh_places : (Nat → Int32)) (x1 : Int32) , L_wh_turn_2 pi_size ro_lengths Q n gr_width gr_height gr_size gr_kinds gr_before gr_columns gr_rows gr_floorCells gr_clearCells gr_standCells gr_firstColumn gr_lastColumn pi_cells pi_facings ro_cells wh_places x1 → ∀ (H : Heap) (locs : List Loc) (ls : Array Slot), SW D A s.heap (wdC cI cL cZ ad ga_sightings ga_bestShifts ga_commonLength ga_allTimes gr_width gr_height gr_size gr_kinds gr_before gr_columns gr_rows gr_floorCells gr_clearCells gr_standCells gr_firstColumn gr_lastColumn pi_cells pi_facings pi_sets pi_size po_needs ro_cells ro_lengths ro_shifts si_sightLaw si_sightRange th_unseen th_goals th_commonLength tr_marks tr_visited tr_size wh_places) H locs → lv_has ls 2 [(0, .ref (ad 9)), (1, .int x1)] → W p l e (headSpec wsX9_turn rm_wh_turn).room s m args below meth c H locs 0 0 Z (F0 m 2 ls []) := by
    intro  n
    induction n with
    | zero => intro gr_width gr_height gr_size gr_kinds gr_before gr_columns gr_rows gr_floorCells gr_clearCells gr_standCells gr_firstColumn gr_lastColumn pi_cells pi_facings ro_cells wh_places x1 h; exact h.elim
    | succ n ih =>
    intro gr_width gr_height gr_size gr_kinds gr_before gr_columns gr_rows gr_floorCells gr_clearCells gr_standCells gr_firstColumn gr_lastColumn pi_cells pi_facings ro_cells wh_places x1 h H locs ls hw hl
    unfold L_wh_turn_2 at h
    refine lv_iload_n hx hb dX9_turn_2 rfl (lv_at hl 1 rfl) ?_
    refine lv_aload_n hx hb dX9_turn_3 rfl (lv_at hl 0 rfl) ?_
    refine gC_wh_grid hx hb hts hin hown hK hw lk12 dX9_turn_4 ?_
    refine cV_i (b := (ad 1)) (As := []) (rest := [.int x1]) ⟨hx, hb, hml, hown, hts⟩ hK hw (c_gr_size h) (cwV 0 hts (gd_RX9_96 hB) rfl rfl rfl (by decide +kernel) ⟨Nat.le_of_ble_eq_true rfl, Nat.le_of_ble_eq_true rfl⟩) (rC_gr hK hw) hl.1 ⟨Nat.zero_le _, Nat.zero_le _⟩ rfl rfl (Nat.le_of_ble_eq_true rfl) dX9_turn_7 (fun r7 _ H locs h hw => ?_)
    refine lv_icmp_ge (tgt := 33) hx hb dX9_turn_10 (by decide) (fun hc => ?_) (fun hc => ?_)
    · replace h := h.1 hc
      exact J33 trivial  _ _ _ _ _ _ _ _ _ _ _ _ _ _ _ _ h _ _ _ hw (lv_sub hl [0] rfl)
    · replace h := h.2 hc
      refine lv_aload_n hx hb dX9_turn_13 rfl (lv_at hl 0 rfl) ?_
      refine gC_wh_places hx hb hts hin hown hK hw lk80 dX9_turn_14 ?_
      refine lv_iload_n hx hb dX9_turn_17 rfl (lv_at hl 1 rfl) ?_
      refine lv_aload_n hx hb dX9_turn_18 rfl (lv_at hl 0 rfl) ?_
      refine gC_wh_grid hx hb hts hin hown hK hw lk12 dX9_turn_19 ?_
      refine lv_iload_n hx hb dX9_turn_22 rfl (lv_at hl 1 rfl) ?_
      refine cV_i (b := (ad 1)) (As := [.int x1]) (rest := [.int x1, .ref (ad 27)]) ⟨hx, hb, hml, hown, hts⟩ hK hw (c_gr_turnedPlace x1 h) (cwV 1 hts (gd_RX9_231 hB) rfl rfl rfl (by decide +kernel) ⟨Nat.le_of_ble_eq_true rfl, Nat.le_of_ble_eq_true rfl⟩) (rC_gr hK hw) hl.1 ⟨Nat.zero_le _, Nat.zero_le _⟩ rfl rfl (Nat.le_of_ble_eq_true rfl) dX9_turn_23 (fun r23 _ H locs h hw => ?_)
      refine tC_wh_places hx hb hK hw h.1 dX9_turn_26 (fun H locs hw => ?_)
      replace h := h.2
      refine lv_iinc (v := (x1 + (1 : Int32))) (lv' := [(1, .int (x1 + (1 : Int32))), (0, .ref (ad 9))]) hx hb dX9_turn_27 hl (k := 1) rfl rfl (by decide) rfl (fun ls hl => ?_)
      refine lv_goto (tgt := 2) hx hb dX9_turn_30 (by decide) ?_
      exact ih _ _ _ _ _ _ _ _ _ _ _ _ _ _ _ _ _ h _ _ _ hw (lv_sub hl [1, 0] rfl)
  unfold P_wh_turn at h
  have he : entryFrame m args 2 = entryFrame m ([.ref (ad 9)] : List Value).toArray 2 := by rw [hav]
  refine W.eq he ?_
  have hl := lv_entry ([.ref (ad 9)]) (n := 2) (Nat.le_of_ble_eq_true rfl)
  rw [lg_entry_eq]
  generalize (lg_sl ([.ref (ad 9)]) ++ List.replicate (2 - (lg_sl ([.ref (ad 9)])).length) Slot.unset).toArray = ls at hl ⊢
  have hl : lv_has ls 2 [(0, .ref (ad 9))] := hl
  refine lv_iconst (v := 0) hx hb dX9_turn_0 (by decide) ?_
  refine lv_istore_n (lv' := [(1, .int (0 : Int32)), (0, .ref (ad 9))]) hx hb dX9_turn_1 rfl hl (by decide) rfl (fun ls hl => ?_)
  obtain ⟨n2, h⟩ := h
  exact J2  n2 _ _ _ _ _ _ _ _ _ _ _ _ _ _ _ _ _ h _ _ _ hw (lv_sub hl [1, 0] rfl)
def rm_wh_mirror : Room := { frames := 2, cells := 0, slots := 0, locals := 73 }
set_option maxHeartbeats 4000000 in
set_option maxRecDepth 100000 in
theorem c_wh_mirror {l : Launch} {D : va_G} {cI cL cZ : ClassId} {mx my : Nat} {A : Nat → Prop} {ad : Nat → Nat} {ga_sightings th_unseen th_goals tr_visited : Nat → Int64} {ga_bestShifts gr_kinds gr_before gr_columns gr_rows pi_cells pi_facings pi_sets po_needs ro_cells ro_lengths ro_shifts tr_marks wh_places : Nat → Int32} {ga_commonLength gr_width gr_height gr_size pi_size si_sightLaw si_sightRange th_commonLength tr_size : Int32} {ga_allTimes gr_floorCells gr_clearCells gr_standCells gr_firstColumn gr_lastColumn : Int64}  {Q : Int32 → Int32 → Int32 → Int32 → (Nat → Int32) → (Nat → Int32) → (Nat → Int32) → (Nat → Int32) → Int64 → Int64 → Int64 → Int64 → Int64 → (Nat → Int32) → (Nat → Int32) → (Nat → Int32) → (Nat → Int32) → Prop} (h : P_wh_mirror gr_width gr_height gr_size gr_kinds gr_before gr_columns gr_rows gr_floorCells gr_clearCells gr_standCells gr_firstColumn gr_lastColumn pi_cells pi_facings pi_size ro_cells ro_lengths wh_places Q) : Met l yX9_mirror wsX9_mirror rm_wh_mirror (va_Pc [.ref (ad 9)] (WC D cI cL cZ mx my A (wdC cI cL cZ ad ga_sightings ga_bestShifts ga_commonLength ga_allTimes gr_width gr_height gr_size gr_kinds gr_before gr_columns gr_rows gr_floorCells gr_clearCells gr_standCells gr_firstColumn gr_lastColumn pi_cells pi_facings pi_sets pi_size po_needs ro_cells ro_lengths ro_shifts si_sightLaw si_sightRange th_unseen th_goals th_commonLength tr_marks tr_visited tr_size wh_places))) (va_Qi (fun (r : Int32) (u : Int32 × Int32 × Int32 × (Nat → Int32) × (Nat → Int32) × (Nat → Int32) × (Nat → Int32) × Int64 × Int64 × Int64 × Int64 × Int64 × (Nat → Int32) × (Nat → Int32) × (Nat → Int32) × (Nat → Int32)) => Q r u.1 u.2.1 u.2.2.1 u.2.2.2.1 u.2.2.2.2.1 u.2.2.2.2.2.1 u.2.2.2.2.2.2.1 u.2.2.2.2.2.2.2.1 u.2.2.2.2.2.2.2.2.1 u.2.2.2.2.2.2.2.2.2.1 u.2.2.2.2.2.2.2.2.2.2.1 u.2.2.2.2.2.2.2.2.2.2.2.1 u.2.2.2.2.2.2.2.2.2.2.2.2.1 u.2.2.2.2.2.2.2.2.2.2.2.2.2.1 u.2.2.2.2.2.2.2.2.2.2.2.2.2.2.1 u.2.2.2.2.2.2.2.2.2.2.2.2.2.2.2) (fun (u : Int32 × Int32 × Int32 × (Nat → Int32) × (Nat → Int32) × (Nat → Int32) × (Nat → Int32) × Int64 × Int64 × Int64 × Int64 × Int64 × (Nat → Int32) × (Nat → Int32) × (Nat → Int32) × (Nat → Int32)) t => PW D A (wdC cI cL cZ ad ga_sightings ga_bestShifts ga_commonLength ga_allTimes u.1 u.2.1 u.2.2.1 u.2.2.2.1 u.2.2.2.2.1 u.2.2.2.2.2.1 u.2.2.2.2.2.2.1 u.2.2.2.2.2.2.2.1 u.2.2.2.2.2.2.2.2.1 u.2.2.2.2.2.2.2.2.2.1 u.2.2.2.2.2.2.2.2.2.2.1 u.2.2.2.2.2.2.2.2.2.2.2.1 u.2.2.2.2.2.2.2.2.2.2.2.2.1 u.2.2.2.2.2.2.2.2.2.2.2.2.2.1 pi_sets pi_size po_needs u.2.2.2.2.2.2.2.2.2.2.2.2.2.2.1 ro_lengths ro_shifts si_sightLaw si_sightRange th_unseen th_goals th_commonLength tr_marks tr_visited tr_size u.2.2.2.2.2.2.2.2.2.2.2.2.2.2.2) t.heap) A) 0 0 A := by
  refine Met.ofW (cc := cX9_mirror) (maxL := 2) (ret := (some .int)) (by decide) rfl ?_
  intro p e s m args below meth c s₁ B hml hv
  obtain ⟨hav, hP0, hD0, hK⟩ := hv
  have hx := B.exec
  have hb := B.bytes
  have hr := B.returns
  have hts := atoms_spec (ws := wsX9_mirror) B.pre
  have hown : s.vm.findClass RX9 = some m.cls := findClass_of_methodNamed B.named
  have hlocks := B.notSynchronized
  have hB : ∀ w ∈ BIG, w ∈ wsX9_mirror := fun _ h => List.mem_cons_of_mem _ h
  have hin : ∀ w ∈ wsX90, w ∈ wsX9_mirror := fun w h => hB w (inB_X9 w h)
  have lk12 := hts _ (hB _ m_300)
  have lk30 := hts _ (hB _ m_302)
  have lk37 := hts _ (hB _ m_303)
  have lk80 := hts _ (hB _ m_308)
  obtain ⟨Z, hZ⟩ : ∃ Z : State → Prop, Z = MQ below (va_Qi (fun (r : Int32) (u : Int32 × Int32 × Int32 × (Nat → Int32) × (Nat → Int32) × (Nat → Int32) × (Nat → Int32) × Int64 × Int64 × Int64 × Int64 × Int64 × (Nat → Int32) × (Nat → Int32) × (Nat → Int32) × (Nat → Int32)) => Q r u.1 u.2.1 u.2.2.1 u.2.2.2.1 u.2.2.2.2.1 u.2.2.2.2.2.1 u.2.2.2.2.2.2.1 u.2.2.2.2.2.2.2.1 u.2.2.2.2.2.2.2.2.1 u.2.2.2.2.2.2.2.2.2.1 u.2.2.2.2.2.2.2.2.2.2.1 u.2.2.2.2.2.2.2.2.2.2.2.1 u.2.2.2.2.2.2.2.2.2.2.2.2.1 u.2.2.2.2.2.2.2.2.2.2.2.2.2.1 u.2.2.2.2.2.2.2.2.2.2.2.2.2.2.1 u.2.2.2.2.2.2.2.2.2.2.2.2.2.2.2) (fun (u : Int32 × Int32 × Int32 × (Nat → Int32) × (Nat → Int32) × (Nat → Int32) × (Nat → Int32) × Int64 × Int64 × Int64 × Int64 × Int64 × (Nat → Int32) × (Nat → Int32) × (Nat → Int32) × (Nat → Int32)) t => PW D A (wdC cI cL cZ ad ga_sightings ga_bestShifts ga_commonLength ga_allTimes u.1 u.2.1 u.2.2.1 u.2.2.2.1 u.2.2.2.2.1 u.2.2.2.2.2.1 u.2.2.2.2.2.2.1 u.2.2.2.2.2.2.2.1 u.2.2.2.2.2.2.2.2.1 u.2.2.2.2.2.2.2.2.2.1 u.2.2.2.2.2.2.2.2.2.2.1 u.2.2.2.2.2.2.2.2.2.2.2.1 u.2.2.2.2.2.2.2.2.2.2.2.2.1 u.2.2.2.2.2.2.2.2.2.2.2.2.2.1 pi_sets pi_size po_needs u.2.2.2.2.2.2.2.2.2.2.2.2.2.2.1 ro_lengths ro_shifts si_sightLaw si_sightRange th_unseen th_goals th_commonLength tr_marks tr_visited tr_size u.2.2.2.2.2.2.2.2.2.2.2.2.2.2.2) t.heap) A) args s 0 0 A := ⟨_, rfl⟩
  rw [← hZ]
  have hw : SW D A s.heap (wdC cI cL cZ ad ga_sightings ga_bestShifts ga_commonLength ga_allTimes gr_width gr_height gr_size gr_kinds gr_before gr_columns gr_rows gr_floorCells gr_clearCells gr_standCells gr_firstColumn gr_lastColumn pi_cells pi_facings pi_sets pi_size po_needs ro_cells ro_lengths ro_shifts si_sightLaw si_sightRange th_unseen th_goals th_commonLength tr_marks tr_visited tr_size wh_places) s.heap [] := ⟨hP0, hD0, va_S.rf⟩
  clear hP0 hD0 B
  have J33 : ∀ (_ : True) (gr_width : Int32) (gr_height : Int32) (gr_size : Int32) (gr_kinds : (Nat → Int32)) (gr_before : (Nat → Int32)) (gr_columns : (Nat → Int32)) (gr_rows : (Nat → Int32)) (gr_floorCells : Int64) (gr_clearCells : Int64) (gr_standCells : Int64) (gr_firstColumn : Int64) (gr_lastColumn : Int64) (pi_cells : (Nat → Int32)) (pi_facings : (Nat → Int32)) (ro_cells : (Nat → Int32)) (wh_places : (Nat → Int32)) , B_wh_mirror_33 pi_size ro_lengths Q gr_width gr_height gr_size gr_kinds gr_before gr_columns gr_rows gr_floorCells gr_clearCells gr_standCells gr_firstColumn gr_lastColumn pi_cells pi_facings ro_cells wh_places → ∀ (H : Heap) (locs : List Loc) (ls : Array Slot), SW D A s.heap (wdC cI cL cZ ad ga_sightings ga_bestShifts ga_commonLength ga_allTimes gr_width gr_height gr_size gr_kinds gr_before gr_columns gr_rows gr_floorCells gr_clearCells gr_standCells gr_firstColumn gr_lastColumn pi_cells pi_facings pi_sets pi_size po_needs ro_cells ro_lengths ro_shifts si_sightLaw si_sightRange th_unseen th_goals th_commonLength tr_marks tr_visited tr_size wh_places) H locs → lv_has ls 2 [(0, .ref (ad 9))] → W p l e (headSpec wsX9_mirror rm_wh_mirror).room s m args below meth c H locs 0 0 Z (F0 m 33 ls []) := by
    intro _  gr_width gr_height gr_size gr_kinds gr_before gr_columns gr_rows gr_floorCells gr_clearCells gr_standCells gr_firstColumn gr_lastColumn pi_cells pi_facings ro_cells wh_places h H locs ls hw hl
    unfold B_wh_mirror_33 at h
    refine lv_aload_n hx hb dX9_mirror_33 rfl (lv_at hl 0 rfl) ?_
    refine gC_wh_pictures hx hb hts hin hown hK hw lk30 dX9_mirror_34 ?_
    refine lv_aload_n hx hb dX9_mirror_37 rfl (lv_at hl 0 rfl) ?_
    refine gC_wh_places hx hb hts hin hown hK hw lk80 dX9_mirror_38 ?_
    refine cV_v (b := (ad 2)) (As := [.ref (ad 27)]) (rest := []) ⟨hx, hb, hml, hown, hts⟩ hK hw (c_pi_relocate h) (cwV 1 hts (gd_RX9_234 hB) rfl rfl rfl (by decide +kernel) ⟨Nat.le_of_ble_eq_true rfl, Nat.le_of_ble_eq_true rfl⟩) (rC_pi hK hw) hl.1 ⟨Nat.zero_le _, Nat.zero_le _⟩ rfl rfl (Nat.le_of_ble_eq_true rfl) dX9_mirror_41 (fun pi_cells_41 H locs h hw => ?_)
    refine lv_aload_n hx hb dX9_mirror_44 rfl (lv_at hl 0 rfl) ?_
    refine gC_wh_pictures hx hb hts hin hown hK hw lk30 dX9_mirror_45 ?_
    refine cV_v (b := (ad 2)) (As := []) (rest := []) ⟨hx, hb, hml, hown, hts⟩ hK hw (c_pi_mirrorFacings h) (cwV 0 hts (gd_RX9_254 hB) rfl rfl rfl (by decide +kernel) ⟨Nat.le_of_ble_eq_true rfl, Nat.le_of_ble_eq_true rfl⟩) (rC_pi hK hw) hl.1 ⟨Nat.zero_le _, Nat.zero_le _⟩ rfl rfl (Nat.le_of_ble_eq_true rfl) dX9_mirror_48 (fun pi_facings_48 H locs h hw => ?_)
    refine lv_aload_n hx hb dX9_mirror_51 rfl (lv_at hl 0 rfl) ?_
    refine gC_wh_rounds hx hb hts hin hown hK hw lk37 dX9_mirror_52 ?_
    refine lv_aload_n hx hb dX9_mirror_55 rfl (lv_at hl 0 rfl) ?_
    refine gC_wh_places hx hb hts hin hown hK hw lk80 dX9_mirror_56 ?_
    refine cV_v (b := (ad 4)) (As := [.ref (ad 27)]) (rest := []) ⟨hx, hb, hml, hown, hts⟩ hK hw (c_ro_relocate h) (cwV 1 hts (gd_RX9_241 hB) rfl rfl rfl (by decide +kernel) ⟨Nat.le_of_ble_eq_true rfl, Nat.le_of_ble_eq_true rfl⟩) (rC_ro hK hw) hl.1 ⟨Nat.zero_le _, Nat.zero_le _⟩ rfl rfl (Nat.le_of_ble_eq_true rfl) dX9_mirror_59 (fun ro_cells_59 H locs h hw => ?_)
    refine lv_aload_n hx hb dX9_mirror_62 rfl (lv_at hl 0 rfl) ?_
    refine gC_wh_grid hx hb hts hin hown hK hw lk12 dX9_mirror_63 ?_
    refine lv_aload_n hx hb dX9_mirror_66 rfl (lv_at hl 0 rfl) ?_
    refine gC_wh_places hx hb hts hin hown hK hw lk80 dX9_mirror_67 ?_
    refine lv_aload_n hx hb dX9_mirror_70 rfl (lv_at hl 0 rfl) ?_
    refine gC_wh_grid hx hb hts hin hown hK hw lk12 dX9_mirror_71 ?_
    refine cV_i (b := (ad 1)) (As := []) (rest := [.ref (ad 27), .ref (ad 1)]) ⟨hx, hb, hml, hown, hts⟩ hK hw (c_gr_width h) (cwV 0 hts (gd_RX9_245 hB) rfl rfl rfl (by decide +kernel) ⟨Nat.le_of_ble_eq_true rfl, Nat.le_of_ble_eq_true rfl⟩) (rC_gr hK hw) hl.1 ⟨Nat.zero_le _, Nat.zero_le _⟩ rfl rfl (Nat.le_of_ble_eq_true rfl) dX9_mirror_74 (fun r74 _ H locs h hw => ?_)
    refine lv_aload_n hx hb dX9_mirror_77 rfl (lv_at hl 0 rfl) ?_
    refine gC_wh_grid hx hb hts hin hown hK hw lk12 dX9_mirror_78 ?_
    refine cV_i (b := (ad 1)) (As := []) (rest := [.int r74, .ref (ad 27), .ref (ad 1)]) ⟨hx, hb, hml, hown, hts⟩ hK hw (c_gr_height h) (cwV 0 hts (gd_RX9_242 hB) rfl rfl rfl (by decide +kernel) ⟨Nat.le_of_ble_eq_true rfl, Nat.le_of_ble_eq_true rfl⟩) (rC_gr hK hw) hl.1 ⟨Nat.zero_le _, Nat.zero_le _⟩ rfl rfl (Nat.le_of_ble_eq_true rfl) dX9_mirror_81 (fun r81 _ H locs h hw => ?_)
    refine cV_i (b := (ad 1)) (As := [.ref (ad 27), .int r74, .int r81]) (rest := []) ⟨hx, hb, hml, hown, hts⟩ hK hw (c_gr_relocate r74 r81 h) (cwV 3 hts (gd_RX9_248 hB) rfl rfl rfl (by decide +kernel) ⟨Nat.le_of_ble_eq_true rfl, Nat.le_of_ble_eq_true rfl⟩) (rC_gr hK hw) hl.1 ⟨Nat.zero_le _, Nat.zero_le _⟩ rfl rfl (Nat.le_of_ble_eq_true rfl) dX9_mirror_84 (fun r84 u84 H locs h hw => ?_)
    obtain ⟨gr_width_84, gr_height_84, gr_size_84, gr_kinds_84, gr_before_84, gr_columns_84, gr_rows_84, gr_floorCells_84, gr_clearCells_84, gr_standCells_84, gr_firstColumn_84, gr_lastColumn_84⟩ := u84
    rw [hZ]
    exact rt_i (gr_width_84, gr_height_84, gr_size_84, gr_kinds_84, gr_before_84, gr_columns_84, gr_rows_84, gr_floorCells_84, gr_clearCells_84, gr_standCells_84, gr_firstColumn_84, gr_lastColumn_84, pi_cells_41, pi_facings_48, ro_cells_59, wh_places) hx hb hr hlocks hw h dX9_mirror_87
  have J2 : ∀ (n : Nat) (gr_width : Int32) (gr_height : Int32) (gr_size : Int32) (gr_kinds : (Nat → Int32)) (gr_before : (Nat → Int32)) (gr_columns : (Nat → Int32)) (gr_rows : (Nat → Int32)) (gr_floorCells : Int64) (gr_clearCells : Int64) (gr_standCells : Int64) (gr_firstColumn : Int64) (gr_lastColumn : Int64) (pi_cells : (Nat → Int32)) (pi_facings : (Nat → Int32)) (ro_cells : (Nat → Int32)) (wh_places : (Nat → Int32)) (x1 : Int32) , L_wh_mirror_2 pi_size ro_lengths Q n gr_width gr_height gr_size gr_kinds gr_before gr_columns gr_rows gr_floorCells gr_clearCells gr_standCells gr_firstColumn gr_lastColumn pi_cells pi_facings ro_cells wh_places x1 → ∀ (H : Heap) (locs : List Loc) (ls : Array Slot), SW D A s.heap (wdC cI cL cZ ad ga_sightings ga_bestShifts ga_commonLength ga_allTimes gr_width gr_height gr_size gr_kinds gr_before gr_columns gr_rows gr_floorCells gr_clearCells gr_standCells gr_firstColumn gr_lastColumn pi_cells pi_facings pi_sets pi_size po_needs ro_cells ro_lengths ro_shifts si_sightLaw si_sightRange th_unseen th_goals th_commonLength tr_marks tr_visited tr_size wh_places) H locs → lv_has ls 2 [(0, .ref (ad 9)), (1, .int x1)] → W p l e (headSpec wsX9_mirror rm_wh_mirror).room s m args below meth c H locs 0 0 Z (F0 m 2 ls []) := by
    intro  n
    induction n with
    | zero => intro gr_width gr_height gr_size gr_kinds gr_before gr_columns gr_rows gr_floorCells gr_clearCells gr_standCells gr_firstColumn gr_lastColumn pi_cells pi_facings ro_cells wh_places x1 h; exact h.elim
    | succ n ih =>
    intro gr_width gr_height gr_size gr_kinds gr_before gr_columns gr_rows gr_floorCells gr_clearCells gr_standCells gr_firstColumn gr_lastColumn pi_cells pi_facings ro_cells wh_places x1 h H locs ls hw hl
    unfold L_wh_mirror_2 at h
    refine lv_iload_n hx hb dX9_mirror_2 rfl (lv_at hl 1 rfl) ?_
    refine lv_aload_n hx hb dX9_mirror_3 rfl (lv_at hl 0 rfl) ?_
    refine gC_wh_grid hx hb hts hin hown hK hw lk12 dX9_mirror_4 ?_
    refine cV_i (b := (ad 1)) (As := []) (rest := [.int x1]) ⟨hx, hb, hml, hown, hts⟩ hK hw (c_gr_size h) (cwV 0 hts (gd_RX9_96 hB) rfl rfl rfl (by decide +kernel) ⟨Nat.le_of_ble_eq_true rfl, Nat.le_of_ble_eq_true rfl⟩) (rC_gr hK hw) hl.1 ⟨Nat.zero_le _, Nat.zero_le _⟩ rfl rfl (Nat.le_of_ble_eq_true rfl) dX9_mirror_7 (fun r7 _ H locs h hw => ?_)
    refine lv_icmp_ge (tgt := 33) hx hb dX9_mirror_10 (by decide) (fun hc => ?_) (fun hc => ?_)
    · replace h := h.1 hc
      exact J33 trivial  _ _ _ _ _ _ _ _ _ _ _ _ _ _ _ _ h _ _ _ hw (lv_sub hl [0] rfl)
    · replace h := h.2 hc
      refine lv_aload_n hx hb dX9_mirror_13 rfl (lv_at hl 0 rfl) ?_
      refine gC_wh_places hx hb hts hin hown hK hw lk80 dX9_mirror_14 ?_
      refine lv_iload_n hx hb dX9_mirror_17 rfl (lv_at hl 1 rfl) ?_
      refine lv_aload_n hx hb dX9_mirror_18 rfl (lv_at hl 0 rfl) ?_
      refine gC_wh_grid hx hb hts hin hown hK hw lk12 dX9_mirror_19 ?_
      refine lv_iload_n hx hb dX9_mirror_22 rfl (lv_at hl 1 rfl) ?_
      refine cV_i (b := (ad 1)) (As := [.int x1]) (rest := [.int x1, .ref (ad 27)]) ⟨hx, hb, hml, hown, hts⟩ hK hw (c_gr_mirroredPlace x1 h) (cwV 1 hts (gd_RX9_251 hB) rfl rfl rfl (by decide +kernel) ⟨Nat.le_of_ble_eq_true rfl, Nat.le_of_ble_eq_true rfl⟩) (rC_gr hK hw) hl.1 ⟨Nat.zero_le _, Nat.zero_le _⟩ rfl rfl (Nat.le_of_ble_eq_true rfl) dX9_mirror_23 (fun r23 _ H locs h hw => ?_)
      refine tC_wh_places hx hb hK hw h.1 dX9_mirror_26 (fun H locs hw => ?_)
      replace h := h.2
      refine lv_iinc (v := (x1 + (1 : Int32))) (lv' := [(1, .int (x1 + (1 : Int32))), (0, .ref (ad 9))]) hx hb dX9_mirror_27 hl (k := 1) rfl rfl (by decide) rfl (fun ls hl => ?_)
      refine lv_goto (tgt := 2) hx hb dX9_mirror_30 (by decide) ?_
      exact ih _ _ _ _ _ _ _ _ _ _ _ _ _ _ _ _ _ h _ _ _ hw (lv_sub hl [1, 0] rfl)
  unfold P_wh_mirror at h
  have he : entryFrame m args 2 = entryFrame m ([.ref (ad 9)] : List Value).toArray 2 := by rw [hav]
  refine W.eq he ?_
  have hl := lv_entry ([.ref (ad 9)]) (n := 2) (Nat.le_of_ble_eq_true rfl)
  rw [lg_entry_eq]
  generalize (lg_sl ([.ref (ad 9)]) ++ List.replicate (2 - (lg_sl ([.ref (ad 9)])).length) Slot.unset).toArray = ls at hl ⊢
  have hl : lv_has ls 2 [(0, .ref (ad 9))] := hl
  refine lv_iconst (v := 0) hx hb dX9_mirror_0 (by decide) ?_
  refine lv_istore_n (lv' := [(1, .int (0 : Int32)), (0, .ref (ad 9))]) hx hb dX9_mirror_1 rfl hl (by decide) rfl (fun ls hl => ?_)
  obtain ⟨n2, h⟩ := h
  exact J2  n2 _ _ _ _ _ _ _ _ _ _ _ _ _ _ _ _ _ h _ _ _ hw (lv_sub hl [1, 0] rfl)
def rm_wh_count : Room := { frames := 1, cells := 0, slots := 0, locals := 22 }
set_option maxHeartbeats 4000000 in
set_option maxRecDepth 100000 in
theorem c_wh_count {l : Launch} {D : va_G} {cI cL cZ : ClassId} {mx my : Nat} {A : Nat → Prop} {ad : Nat → Nat} {ga_sightings th_unseen th_goals tr_visited : Nat → Int64} {ga_bestShifts gr_kinds gr_before gr_columns gr_rows pi_cells pi_facings pi_sets po_needs ro_cells ro_lengths ro_shifts tr_marks wh_places : Nat → Int32} {ga_commonLength gr_width gr_height gr_size pi_size si_sightLaw si_sightRange th_commonLength tr_size : Int32} {ga_allTimes gr_floorCells gr_clearCells gr_standCells gr_firstColumn gr_lastColumn : Int64} (x1 : Int32) {Q : Int32 → Prop} (h : P_wh_count gr_width gr_height gr_standCells pi_size ro_lengths x1 Q) : Met l yX9_count wsX9_count rm_wh_count (va_Pc [.ref (ad 9), .int x1] (WC D cI cL cZ mx my A (wdC cI cL cZ ad ga_sightings ga_bestShifts ga_commonLength ga_allTimes gr_width gr_height gr_size gr_kinds gr_before gr_columns gr_rows gr_floorCells gr_clearCells gr_standCells gr_firstColumn gr_lastColumn pi_cells pi_facings pi_sets pi_size po_needs ro_cells ro_lengths ro_shifts si_sightLaw si_sightRange th_unseen th_goals th_commonLength tr_marks tr_visited tr_size wh_places))) (va_Qi (fun (r : Int32) (u : Unit) => Q r) (fun (u : Unit) t => PW D A (wdC cI cL cZ ad ga_sightings ga_bestShifts ga_commonLength ga_allTimes gr_width gr_height gr_size gr_kinds gr_before gr_columns gr_rows gr_floorCells gr_clearCells gr_standCells gr_firstColumn gr_lastColumn pi_cells pi_facings pi_sets pi_size po_needs ro_cells ro_lengths ro_shifts si_sightLaw si_sightRange th_unseen th_goals th_commonLength tr_marks tr_visited tr_size wh_places) t.heap) A) 0 0 A := by
  refine Met.ofW (cc := cX9_count) (maxL := 2) (ret := (some .int)) (by decide) rfl ?_
  intro p e s m args below meth c s₁ B hml hv
  obtain ⟨hav, hP0, hD0, hK⟩ := hv
  have hx := B.exec
  have hb := B.bytes
  have hr := B.returns
  have hts := atoms_spec (ws := wsX9_count) B.pre
  have hown : s.vm.findClass RX9 = some m.cls := findClass_of_methodNamed B.named
  have hlocks := B.notSynchronized
  have hB : ∀ w ∈ BIG, w ∈ wsX9_count := fun _ h => List.mem_cons_of_mem _ h
  have hin : ∀ w ∈ wsX90, w ∈ wsX9_count := fun w h => hB w (inB_X9 w h)
  have lk12 := hts _ (hB _ m_300)
  have lk30 := hts _ (hB _ m_302)
  have lk37 := hts _ (hB _ m_303)
  obtain ⟨Z, hZ⟩ : ∃ Z : State → Prop, Z = MQ below (va_Qi (fun (r : Int32) (u : Unit) => Q r) (fun (u : Unit) t => PW D A (wdC cI cL cZ ad ga_sightings ga_bestShifts ga_commonLength ga_allTimes gr_width gr_height gr_size gr_kinds gr_before gr_columns gr_rows gr_floorCells gr_clearCells gr_standCells gr_firstColumn gr_lastColumn pi_cells pi_facings pi_sets pi_size po_needs ro_cells ro_lengths ro_shifts si_sightLaw si_sightRange th_unseen th_goals th_commonLength tr_marks tr_visited tr_size wh_places) t.heap) A) args s 0 0 A := ⟨_, rfl⟩
  rw [← hZ]
  have hw : SW D A s.heap (wdC cI cL cZ ad ga_sightings ga_bestShifts ga_commonLength ga_allTimes gr_width gr_height gr_size gr_kinds gr_before gr_columns gr_rows gr_floorCells gr_clearCells gr_standCells gr_firstColumn gr_lastColumn pi_cells pi_facings pi_sets pi_size po_needs ro_cells ro_lengths ro_shifts si_sightLaw si_sightRange th_unseen th_goals th_commonLength tr_marks tr_visited tr_size wh_places) s.heap [] := ⟨hP0, hD0, va_S.rf⟩
  clear hP0 hD0 B
  unfold P_wh_count at h
  have he : entryFrame m args 2 = entryFrame m ([.ref (ad 9), .int x1] : List Value).toArray 2 := by rw [hav]
  refine W.eq he ?_
  have hl := lv_entry ([.ref (ad 9), .int x1]) (n := 2) (Nat.le_of_ble_eq_true rfl)
  rw [lg_entry_eq]
  generalize (lg_sl ([.ref (ad 9), .int x1]) ++ List.replicate (2 - (lg_sl ([.ref (ad 9), .int x1])).length) Slot.unset).toArray = ls at hl ⊢
  have hl : lv_has ls 2 [(0, .ref (ad 9)), (1, .int x1)] := hl
  refine lv_iload_n hx hb dX9_count_0 rfl (lv_at hl 1 rfl) ?_
  by_cases hc0 : x1 = 0
  · replace h := h.1 hc0
    refine lv_tableIn (tgt := 36) hx hb dX9_count_1 (by rw [hc0]; decide) (by rw [hc0]; decide) (by rw [hc0]; rfl) (by decide) ?_
    refine lv_aload_n hx hb dX9_count_36 rfl (lv_at hl 0 rfl) ?_
    refine gC_wh_grid hx hb hts hin hown hK hw lk12 dX9_count_37 ?_
    refine cV_i (b := (ad 1)) (As := []) (rest := []) ⟨hx, hb, hml, hown, hts⟩ hK hw (c_gr_width h) (cwV 0 hts (gd_RX9_245 hB) rfl rfl rfl (by decide +kernel) ⟨Nat.le_of_ble_eq_true rfl, Nat.le_of_ble_eq_true rfl⟩) (rC_gr hK hw) hl.1 ⟨Nat.zero_le _, Nat.zero_le _⟩ rfl rfl (Nat.le_of_ble_eq_true rfl) dX9_count_40 (fun r40 _ H locs h hw => ?_)
    rw [hZ]
    exact rt_i () hx hb hr hlocks hw h dX9_count_43
  by_cases hc1 : x1 = 1
  · replace h := h.2.1 hc1
    refine lv_tableIn (tgt := 44) hx hb dX9_count_1 (by rw [hc1]; decide) (by rw [hc1]; decide) (by rw [hc1]; rfl) (by decide) ?_
    refine lv_aload_n hx hb dX9_count_44 rfl (lv_at hl 0 rfl) ?_
    refine gC_wh_grid hx hb hts hin hown hK hw lk12 dX9_count_45 ?_
    refine cV_i (b := (ad 1)) (As := []) (rest := []) ⟨hx, hb, hml, hown, hts⟩ hK hw (c_gr_height h) (cwV 0 hts (gd_RX9_242 hB) rfl rfl rfl (by decide +kernel) ⟨Nat.le_of_ble_eq_true rfl, Nat.le_of_ble_eq_true rfl⟩) (rC_gr hK hw) hl.1 ⟨Nat.zero_le _, Nat.zero_le _⟩ rfl rfl (Nat.le_of_ble_eq_true rfl) dX9_count_48 (fun r48 _ H locs h hw => ?_)
    rw [hZ]
    exact rt_i () hx hb hr hlocks hw h dX9_count_51
  by_cases hc2 : x1 = 2
  · replace h := h.2.2.1 hc2
    refine lv_tableIn (tgt := 52) hx hb dX9_count_1 (by rw [hc2]; decide) (by rw [hc2]; decide) (by rw [hc2]; rfl) (by decide) ?_
    refine lv_aload_n hx hb dX9_count_52 rfl (lv_at hl 0 rfl) ?_
    refine gC_wh_pictures hx hb hts hin hown hK hw lk30 dX9_count_53 ?_
    refine cV_i (b := (ad 2)) (As := []) (rest := []) ⟨hx, hb, hml, hown, hts⟩ hK hw (c_pi_size h) (cwV 0 hts (gd_RX9_257 hB) rfl rfl rfl (by decide +kernel) ⟨Nat.le_of_ble_eq_true rfl, Nat.le_of_ble_eq_true rfl⟩) (rC_pi hK hw) hl.1 ⟨Nat.zero_le _, Nat.zero_le _⟩ rfl rfl (Nat.le_of_ble_eq_true rfl) dX9_count_56 (fun r56 _ H locs h hw => ?_)
    rw [hZ]
    exact rt_i () hx hb hr hlocks hw h dX9_count_59
  by_cases hc3 : x1 = 3
  · replace h := h.2.2.2.1 hc3
    refine lv_tableIn (tgt := 60) hx hb dX9_count_1 (by rw [hc3]; decide) (by rw [hc3]; decide) (by rw [hc3]; rfl) (by decide) ?_
    refine lv_aload_n hx hb dX9_count_60 rfl (lv_at hl 0 rfl) ?_
    refine gC_wh_rounds hx hb hts hin hown hK hw lk37 dX9_count_61 ?_
    refine cV_i (b := (ad 4)) (As := []) (rest := []) ⟨hx, hb, hml, hown, hts⟩ hK hw (c_ro_howMany h) (cwV 0 hts (gd_RX9_258 hB) rfl rfl rfl (by decide +kernel) ⟨Nat.le_of_ble_eq_true rfl, Nat.le_of_ble_eq_true rfl⟩) (rC_ro hK hw) hl.1 ⟨Nat.zero_le _, Nat.zero_le _⟩ rfl rfl (Nat.le_of_ble_eq_true rfl) dX9_count_64 (fun r64 _ H locs h hw => ?_)
    rw [hZ]
    exact rt_i () hx hb hr hlocks hw h dX9_count_67
  by_cases hc4 : x1 = 4
  · replace h := h.2.2.2.2.1 hc4
    refine lv_tableIn (tgt := 68) hx hb dX9_count_1 (by rw [hc4]; decide) (by rw [hc4]; decide) (by rw [hc4]; rfl) (by decide) ?_
    refine lv_aload_n hx hb dX9_count_68 rfl (lv_at hl 0 rfl) ?_
    refine gC_wh_grid hx hb hts hin hown hK hw lk12 dX9_count_69 ?_
    refine cV_l (b := (ad 1)) (As := []) (rest := []) ⟨hx, hb, hml, hown, hts⟩ hK hw (c_gr_standing h) (cwV 0 hts (gd_RX9_261 hB) rfl rfl rfl (by decide +kernel) ⟨Nat.le_of_ble_eq_true rfl, Nat.le_of_ble_eq_true rfl⟩) (rC_gr hK hw) hl.1 ⟨Nat.zero_le _, Nat.zero_le _⟩ rfl rfl (Nat.le_of_ble_eq_true rfl) dX9_count_72 (fun r72 _ H locs h hw => ?_)
    refine cS_i (As := [.long r72]) (rest := []) ⟨hx, hb, hml, hown, hts⟩ hK hw (c_jd_bitCount r72 h) (va_cwS 1 hts (gd_RX9_132 hB) rfl rfl rfl (by decide +kernel) ⟨Nat.le_of_ble_eq_true rfl, Nat.le_of_ble_eq_true rfl⟩) hl.1 ⟨Nat.zero_le _, Nat.zero_le _⟩ rfl rfl (Nat.le_of_ble_eq_true rfl) dX9_count_75 (fun r75 _ H locs h hw => ?_)
    rw [hZ]
    exact rt_i () hx hb hr hlocks hw h dX9_count_78
  replace h := h.2.2.2.2.2 hc0 hc1 hc2 hc3 hc4
  refine lv_tableOut (tgt := 79) hx hb dX9_count_1 (by have q0 := lv_neT hc0 (a := 0) rfl; have q1 := lv_neT hc1 (a := 1) rfl; have q2 := lv_neT hc2 (a := 2) rfl; have q3 := lv_neT hc3 (a := 3) rfl; have q4 := lv_neT hc4 (a := 4) rfl; omega) (by decide) ?_
  refine lv_bipush (v := (-2)) hx hb dX9_count_79 (by decide) ?_
  rw [hZ]
  exact rt_i () hx hb hr hlocks hw h dX9_count_81
def rm_mo_in : Room := { frames := 0, cells := 0, slots := 0, locals := 0 }
set_option maxHeartbeats 4000000 in
set_option maxRecDepth 100000 in
theorem c_mo_in {l : Launch} {D : va_G} {cI cL cZ : ClassId} {mx my : Nat} {A : Nat → Prop}  {w : va_W} (x0 : Int64) (x2 : Int64) (x4 : Int64) {Q : Int32 → Prop} (h : P_mo_in x0 x2 x4 Q) : Met l yX10_in wsX10_in rm_mo_in (va_Pc [.long x0, .long x2, .long x4] (WC D cI cL cZ mx my A w)) (va_Qi (fun (r : Int32) (u : Unit) => Q r) (fun (u : Unit) t => PW D A w t.heap) A) 0 0 A := by
  refine Met.ofW (cc := cX10_in) (maxL := 6) (ret := (some .boolean)) (by decide) rfl ?_
  intro p e s m args below meth c s₁ B hml hv
  obtain ⟨hav, hP0, hD0, hK⟩ := hv
  have hx := B.exec
  have hb := B.bytes
  have hr := B.returns
  have hts := atoms_spec (ws := wsX10_in) B.pre
  have hown : s.vm.findClass RX10 = some m.cls := findClass_of_methodNamed B.named
  have hlocks := B.notSynchronized
  have hB : ∀ w ∈ BIG, w ∈ wsX10_in := fun _ h => List.mem_cons_of_mem _ h
  obtain ⟨Z, hZ⟩ : ∃ Z : State → Prop, Z = MQ below (va_Qi (fun (r : Int32) (u : Unit) => Q r) (fun (u : Unit) t => PW D A w t.heap) A) args s 0 0 A := ⟨_, rfl⟩
  rw [← hZ]
  have hw : SW D A s.heap w s.heap [] := ⟨hP0, hD0, va_S.rf⟩
  clear hP0 hD0 B
  unfold P_mo_in at h
  have he : entryFrame m args 6 = entryFrame m ([.long x0, .long x2, .long x4] : List Value).toArray 6 := by rw [hav]
  refine W.eq he ?_
  have hl := lv_entry ([.long x0, .long x2, .long x4]) (n := 6) (Nat.le_of_ble_eq_true rfl)
  rw [lg_entry_eq]
  generalize (lg_sl ([.long x0, .long x2, .long x4]) ++ List.replicate (6 - (lg_sl ([.long x0, .long x2, .long x4])).length) Slot.unset).toArray = ls at hl ⊢
  have hl : lv_has ls 6 [(0, .long x0), (2, .long x2), (4, .long x4)] := hl
  refine lv_lload_n hx hb dX10_in_0 rfl (lv_at hl 0 rfl) ?_
  refine lv_lload_n hx hb dX10_in_1 rfl (lv_at hl 1 rfl) ?_
  refine W.lcmp hx hb dX10_in_2 ?_
  refine lv_if_lt (tgt := 17) hx hb dX10_in_3 (by decide) (fun hc => ?_) (fun hc => ?_)
  · replace h := h.1 hc
    refine lv_iconst (v := 0) hx hb dX10_in_17 (by decide) ?_
    rw [hZ]
    exact rt_z () hx hb hr hlocks hw (by decide) h dX10_in_18
  · replace h := h.2 hc
    refine lv_lload_n hx hb dX10_in_6 rfl (lv_at hl 0 rfl) ?_
    refine lv_lload hx hb dX10_in_7 (lv_at hl 2 rfl) ?_
    refine W.lcmp hx hb dX10_in_9 ?_
    refine lv_if_gt (tgt := 17) hx hb dX10_in_10 (by decide) (fun hc => ?_) (fun hc => ?_)
    · replace h := h.1 hc
      refine lv_iconst (v := 0) hx hb dX10_in_17 (by decide) ?_
      rw [hZ]
      exact rt_z () hx hb hr hlocks hw (by decide) h dX10_in_18
    · replace h := h.2 hc
      refine lv_iconst (v := 1) hx hb dX10_in_13 (by decide) ?_
      refine lv_goto (tgt := 18) hx hb dX10_in_14 (by decide) ?_
      rw [hZ]
      exact rt_z () hx hb hr hlocks hw (by decide) h dX10_in_18
def rm_mo_layHall : Room := { frames := 0, cells := 0, slots := 0, locals := 0 }
set_option maxHeartbeats 4000000 in
set_option maxRecDepth 100000 in
theorem c_mo_layHall {l : Launch} {D : va_G} {cI cL cZ : ClassId} {mx my : Nat} {A : Nat → Prop} {ad : Nat → Nat} {mo_wide mo_tall mo_law mo_range mo_pictures mo_postMany : Int32} {mo_kind mo_queue mo_far mo_pictureCell mo_facing mo_sights mo_fewest mo_posts mo_left mo_roundMany mo_round mo_shift mo_thief mo_danger mo_old : Nat → Int32} (x1 : Int32) (x2 : Int32) {Q : Int32 → Int32 → (Nat → Int32) → Int32 → (Nat → Int32) → (Nat → Int32) → Prop} (h : P_mo_layHall mo_wide mo_tall mo_kind mo_pictures mo_roundMany mo_shift x1 x2 Q) : Met l yX10_layHall wsX10_layHall rm_mo_layHall (va_Pc [.ref (ad 0), .int x1, .int x2] (WC D cI cL cZ mx my A (wdM cI cL cZ ad mo_wide mo_tall mo_kind mo_law mo_range mo_queue mo_far mo_pictures mo_pictureCell mo_facing mo_sights mo_fewest mo_posts mo_postMany mo_left mo_roundMany mo_round mo_shift mo_thief mo_danger mo_old))) (va_Qv (fun (u : Int32 × Int32 × (Nat → Int32) × Int32 × (Nat → Int32) × (Nat → Int32)) => Q u.1 u.2.1 u.2.2.1 u.2.2.2.1 u.2.2.2.2.1 u.2.2.2.2.2) (fun (u : Int32 × Int32 × (Nat → Int32) × Int32 × (Nat → Int32) × (Nat → Int32)) t => PW D A (wdM cI cL cZ ad u.1 u.2.1 u.2.2.1 mo_law mo_range mo_queue mo_far u.2.2.2.1 mo_pictureCell mo_facing mo_sights mo_fewest mo_posts mo_postMany mo_left u.2.2.2.2.1 mo_round u.2.2.2.2.2 mo_thief mo_danger mo_old) t.heap) A) 0 0 A := by
  refine Met.ofW (cc := cX10_layHall) (maxL := 4) (ret := none) (by decide) rfl ?_
  intro p e s m args below meth c s₁ B hml hv
  obtain ⟨hav, hP0, hD0, hK⟩ := hv
  have hx := B.exec
  have hb := B.bytes
  have hr := B.returns
  have hts := atoms_spec (ws := wsX10_layHall) B.pre
  have hown : s.vm.findClass RX10 = some m.cls := findClass_of_methodNamed B.named
  have hlocks := B.notSynchronized
  have hB : ∀ w ∈ BIG, w ∈ wsX10_layHall := fun _ h => List.mem_cons_of_mem _ h
  have hin : ∀ w ∈ wsX100, w ∈ wsX10_layHall := fun w h => hB w (inB_X10 w h)
  have lk7 := hts _ (hB _ m_933)
  have lk45 := hts _ (hB _ m_946)
  have lk51 := hts _ (hB _ m_948)
  have lk68 := hts _ (hB _ m_931)
  have lk71 := hts _ (hB _ m_932)
  have lk74 := hts _ (hB _ m_938)
  obtain ⟨Z, hZ⟩ : ∃ Z : State → Prop, Z = MQ below (va_Qv (fun (u : Int32 × Int32 × (Nat → Int32) × Int32 × (Nat → Int32) × (Nat → Int32)) => Q u.1 u.2.1 u.2.2.1 u.2.2.2.1 u.2.2.2.2.1 u.2.2.2.2.2) (fun (u : Int32 × Int32 × (Nat → Int32) × Int32 × (Nat → Int32) × (Nat → Int32)) t => PW D A (wdM cI cL cZ ad u.1 u.2.1 u.2.2.1 mo_law mo_range mo_queue mo_far u.2.2.2.1 mo_pictureCell mo_facing mo_sights mo_fewest mo_posts mo_postMany mo_left u.2.2.2.2.1 mo_round u.2.2.2.2.2 mo_thief mo_danger mo_old) t.heap) A) args s 0 0 A := ⟨_, rfl⟩
  rw [← hZ]
  have hw : SW D A s.heap (wdM cI cL cZ ad mo_wide mo_tall mo_kind mo_law mo_range mo_queue mo_far mo_pictures mo_pictureCell mo_facing mo_sights mo_fewest mo_posts mo_postMany mo_left mo_roundMany mo_round mo_shift mo_thief mo_danger mo_old) s.heap [] := ⟨hP0, hD0, va_S.rf⟩
  clear hP0 hD0 B
  have J38 : ∀ (n : Nat) (mo_wide : Int32) (mo_tall : Int32) (mo_kind : (Nat → Int32)) (mo_pictures : Int32) (mo_roundMany : (Nat → Int32)) (mo_shift : (Nat → Int32)) (x3 : Int32) , L_mo_layHall_38 Q n mo_wide mo_tall mo_kind mo_pictures mo_roundMany mo_shift x3 → ∀ (H : Heap) (locs : List Loc) (ls : Array Slot), SW D A s.heap (wdM cI cL cZ ad mo_wide mo_tall mo_kind mo_law mo_range mo_queue mo_far mo_pictures mo_pictureCell mo_facing mo_sights mo_fewest mo_posts mo_postMany mo_left mo_roundMany mo_round mo_shift mo_thief mo_danger mo_old) H locs → lv_has ls 4 [(0, .ref (ad 0)), (3, .int x3)] → W p l e (headSpec wsX10_layHall rm_mo_layHall).room s m args below meth c H locs 0 0 Z (F0 m 38 ls []) := by
    intro  n
    induction n with
    | zero => intro mo_wide mo_tall mo_kind mo_pictures mo_roundMany mo_shift x3 h; exact h.elim
    | succ n ih =>
    intro mo_wide mo_tall mo_kind mo_pictures mo_roundMany mo_shift x3 h H locs ls hw hl
    unfold L_mo_layHall_38 at h
    refine lv_iload_n hx hb dX10_layHall_38 rfl (lv_at hl 1 rfl) ?_
    refine lv_iconst (v := 4) hx hb dX10_layHall_39 (by decide) ?_
    refine lv_icmp_ge (tgt := 63) hx hb dX10_layHall_40 (by decide) (fun hc => ?_) (fun hc => ?_)
    · replace h := h.1 hc
      rw [hZ]
      exact rt_v (mo_wide, mo_tall, mo_kind, mo_pictures, mo_roundMany, mo_shift) hx hb hr hlocks hw h dX10_layHall_63
    · replace h := h.2 hc
      refine lv_aload_n hx hb dX10_layHall_43 rfl (lv_at hl 0 rfl) ?_
      refine gM_mo_roundMany hx hb hts hin hown hK hw lk45 dX10_layHall_44 ?_
      refine lv_iload_n hx hb dX10_layHall_47 rfl (lv_at hl 1 rfl) ?_
      refine lv_iconst (v := 0) hx hb dX10_layHall_48 (by decide) ?_
      refine tM_mo_roundMany hx hb hK hw h.1 dX10_layHall_49 (fun H locs hw => ?_)
      replace h := h.2
      refine lv_aload_n hx hb dX10_layHall_50 rfl (lv_at hl 0 rfl) ?_
      refine gM_mo_shift hx hb hts hin hown hK hw lk51 dX10_layHall_51 ?_
      refine lv_iload_n hx hb dX10_layHall_54 rfl (lv_at hl 1 rfl) ?_
      refine lv_iconst (v := 0) hx hb dX10_layHall_55 (by decide) ?_
      refine tM_mo_shift hx hb hK hw h.1 dX10_layHall_56 (fun H locs hw => ?_)
      replace h := h.2
      refine lv_iinc (v := (x3 + (1 : Int32))) (lv' := [(3, .int (x3 + (1 : Int32))), (0, .ref (ad 0))]) hx hb dX10_layHall_57 hl (k := 1) rfl rfl (by decide) rfl (fun ls hl => ?_)
      refine lv_goto (tgt := 38) hx hb dX10_layHall_60 (by decide) ?_
      exact ih _ _ _ _ _ _ _ h _ _ _ hw (lv_sub hl [1, 0] rfl)
  have J31 : ∀ (_ : True) (mo_wide : Int32) (mo_tall : Int32) (mo_kind : (Nat → Int32)) (mo_pictures : Int32) (mo_roundMany : (Nat → Int32)) (mo_shift : (Nat → Int32)) , B_mo_layHall_31 Q mo_wide mo_tall mo_kind mo_pictures mo_roundMany mo_shift → ∀ (H : Heap) (locs : List Loc) (ls : Array Slot), SW D A s.heap (wdM cI cL cZ ad mo_wide mo_tall mo_kind mo_law mo_range mo_queue mo_far mo_pictures mo_pictureCell mo_facing mo_sights mo_fewest mo_posts mo_postMany mo_left mo_roundMany mo_round mo_shift mo_thief mo_danger mo_old) H locs → lv_has ls 4 [(0, .ref (ad 0))] → W p l e (headSpec wsX10_layHall rm_mo_layHall).room s m args below meth c H locs 0 0 Z (F0 m 31 ls []) := by
    intro _  mo_wide mo_tall mo_kind mo_pictures mo_roundMany mo_shift h H locs ls hw hl
    unfold B_mo_layHall_31 at h
    refine lv_aload_n hx hb dX10_layHall_31 rfl (lv_at hl 0 rfl) ?_
    refine lv_iconst (v := 0) hx hb dX10_layHall_32 (by decide) ?_
    refine sM_mo_pictures hx hb hts hin hown hK hw lk74 dX10_layHall_33 (fun H locs hw => ?_)
    refine lv_iconst (v := 0) hx hb dX10_layHall_36 (by decide) ?_
    refine lv_istore_n (lv' := [(3, .int (0 : Int32)), (0, .ref (ad 0))]) hx hb dX10_layHall_37 rfl hl (by decide) rfl (fun ls hl => ?_)
    obtain ⟨n38, h⟩ := h
    exact J38  n38 _ _ _ _ _ _ _ h _ _ _ hw (lv_sub hl [1, 0] rfl)
  have J12 : ∀ (n : Nat) (mo_wide : Int32) (mo_tall : Int32) (mo_kind : (Nat → Int32)) (mo_pictures : Int32) (mo_roundMany : (Nat → Int32)) (mo_shift : (Nat → Int32)) (x3 : Int32) , L_mo_layHall_12 Q n mo_wide mo_tall mo_kind mo_pictures mo_roundMany mo_shift x3 → ∀ (H : Heap) (locs : List Loc) (ls : Array Slot), SW D A s.heap (wdM cI cL cZ ad mo_wide mo_tall mo_kind mo_law mo_range mo_queue mo_far mo_pictures mo_pictureCell mo_facing mo_sights mo_fewest mo_posts mo_postMany mo_left mo_roundMany mo_round mo_shift mo_thief mo_danger mo_old) H locs → lv_has ls 4 [(0, .ref (ad 0)), (3, .int x3)] → W p l e (headSpec wsX10_layHall rm_mo_layHall).room s m args below meth c H locs 0 0 Z (F0 m 12 ls []) := by
    intro  n
    induction n with
    | zero => intro mo_wide mo_tall mo_kind mo_pictures mo_roundMany mo_shift x3 h; exact h.elim
    | succ n ih =>
    intro mo_wide mo_tall mo_kind mo_pictures mo_roundMany mo_shift x3 h H locs ls hw hl
    unfold L_mo_layHall_12 at h
    refine lv_iload_n hx hb dX10_layHall_12 rfl (lv_at hl 1 rfl) ?_
    refine lv_bipush (v := 64) hx hb dX10_layHall_13 (by decide) ?_
    refine lv_icmp_ge (tgt := 31) hx hb dX10_layHall_15 (by decide) (fun hc => ?_) (fun hc => ?_)
    · replace h := h.1 hc
      exact J31 trivial  _ _ _ _ _ _ h _ _ _ hw (lv_sub hl [0] rfl)
    · replace h := h.2 hc
      refine lv_aload_n hx hb dX10_layHall_18 rfl (lv_at hl 0 rfl) ?_
      refine gM_mo_kind hx hb hts hin hown hK hw lk7 dX10_layHall_19 ?_
      refine lv_iload_n hx hb dX10_layHall_22 rfl (lv_at hl 1 rfl) ?_
      refine lv_iconst (v := 0) hx hb dX10_layHall_23 (by decide) ?_
      refine tM_mo_kind hx hb hK hw h.1 dX10_layHall_24 (fun H locs hw => ?_)
      replace h := h.2
      refine lv_iinc (v := (x3 + (1 : Int32))) (lv' := [(3, .int (x3 + (1 : Int32))), (0, .ref (ad 0))]) hx hb dX10_layHall_25 hl (k := 1) rfl rfl (by decide) rfl (fun ls hl => ?_)
      refine lv_goto (tgt := 12) hx hb dX10_layHall_28 (by decide) ?_
      exact ih _ _ _ _ _ _ _ h _ _ _ hw (lv_sub hl [1, 0] rfl)
  unfold P_mo_layHall at h
  have he : entryFrame m args 4 = entryFrame m ([.ref (ad 0), .int x1, .int x2] : List Value).toArray 4 := by rw [hav]
  refine W.eq he ?_
  have hl := lv_entry ([.ref (ad 0), .int x1, .int x2]) (n := 4) (Nat.le_of_ble_eq_true rfl)
  rw [lg_entry_eq]
  generalize (lg_sl ([.ref (ad 0), .int x1, .int x2]) ++ List.replicate (4 - (lg_sl ([.ref (ad 0), .int x1, .int x2])).length) Slot.unset).toArray = ls at hl ⊢
  have hl : lv_has ls 4 [(0, .ref (ad 0)), (1, .int x1), (2, .int x2)] := hl
  refine lv_aload_n hx hb dX10_layHall_0 rfl (lv_at hl 0 rfl) ?_
  refine lv_iload_n hx hb dX10_layHall_1 rfl (lv_at hl 1 rfl) ?_
  refine sM_mo_wide hx hb hts hin hown hK hw lk68 dX10_layHall_2 (fun H locs hw => ?_)
  refine lv_aload_n hx hb dX10_layHall_5 rfl (lv_at hl 0 rfl) ?_
  refine lv_iload_n hx hb dX10_layHall_6 rfl (lv_at hl 2 rfl) ?_
  refine sM_mo_tall hx hb hts hin hown hK hw lk71 dX10_layHall_7 (fun H locs hw => ?_)
  refine lv_iconst (v := 0) hx hb dX10_layHall_10 (by decide) ?_
  refine lv_istore_n (lv' := [(3, .int (0 : Int32)), (0, .ref (ad 0)), (1, .int x1), (2, .int x2)]) hx hb dX10_layHall_11 rfl hl (by decide) rfl (fun ls hl => ?_)
  obtain ⟨n12, h⟩ := h
  exact J12  n12 _ _ _ _ _ _ _ h _ _ _ hw (lv_sub hl [1, 0] rfl)
