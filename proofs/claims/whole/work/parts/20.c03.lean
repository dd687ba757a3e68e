def rm_gr_layOut : Room := { frames := 1, cells := 0, slots := 0, locals := 24 }
set_option maxHeartbeats 4000000 in
set_option maxRecDepth 100000 in
theorem c_gr_layOut {l : Launch} {D : va_G} {cI cL cZ : ClassId} {mx my : Nat} {A : Nat → Prop} {ad : Nat → Nat} {ga_sightings th_unseen th_goals tr_visited : Nat → Int64} {ga_bestShifts gr_kinds gr_before gr_columns gr_rows pi_cells pi_facings pi_sets po_needs ro_cells ro_lengths ro_shifts tr_marks wh_places : Nat → Int32} {ga_commonLength gr_width gr_height gr_size pi_size si_sightLaw si_sightRange th_commonLength tr_size : Int32} {ga_allTimes gr_floorCells gr_clearCells gr_standCells gr_firstColumn gr_lastColumn : Int64} (x1 : Int32) (x2 : Int32) {Q : Int32 → Int32 → Int32 → (Nat → Int32) → (Nat → Int32) → (Nat → Int32) → Int64 → Int64 → Int64 → Int64 → Int64 → Prop} (h : P_gr_layOut gr_width gr_height gr_size gr_kinds gr_columns gr_rows gr_floorCells gr_clearCells gr_standCells gr_firstColumn gr_lastColumn x1 x2 Q) : Met l yX1_layOut wsX1_layOut rm_gr_layOut (va_Pc [.ref (ad 1), .int x1, .int x2] (WC D cI cL cZ mx my A (wdC cI cL cZ ad ga_sightings ga_bestShifts ga_commonLength ga_allTimes gr_width gr_height gr_size gr_kinds gr_before gr_columns gr_rows gr_floorCells gr_clearCells gr_standCells gr_firstColumn gr_lastColumn pi_cells pi_facings pi_sets pi_size po_needs ro_cells ro_lengths ro_shifts si_sightLaw si_sightRange th_unseen th_goals th_commonLength tr_marks tr_visited tr_size wh_places))) (va_Qv (fun (u : Int32 × Int32 × Int32 × (Nat → Int32) × (Nat → Int32) × (Nat → Int32) × Int64 × Int64 × Int64 × Int64 × Int64) => Q u.1 u.2.1 u.2.2.1 u.2.2.2.1 u.2.2.2.2.1 u.2.2.2.2.2.1 u.2.2.2.2.2.2.1 u.2.2.2.2.2.2.2.1 u.2.2.2.2.2.2.2.2.1 u.2.2.2.2.2.2.2.2.2.1 u.2.2.2.2.2.2.2.2.2.2) (fun (u : Int32 × Int32 × Int32 × (Nat → Int32) × (Nat → Int32) × (Nat → Int32) × Int64 × Int64 × Int64 × Int64 × Int64) t => PW D A (wdC cI cL cZ ad ga_sightings ga_bestShifts ga_commonLength ga_allTimes u.1 u.2.1 u.2.2.1 u.2.2.2.1 gr_before u.2.2.2.2.1 u.2.2.2.2.2.1 u.2.2.2.2.2.2.1 u.2.2.2.2.2.2.2.1 u.2.2.2.2.2.2.2.2.1 u.2.2.2.2.2.2.2.2.2.1 u.2.2.2.2.2.2.2.2.2.2 pi_cells pi_facings pi_sets pi_size po_needs ro_cells ro_lengths ro_shifts si_sightLaw si_sightRange th_unseen th_goals th_commonLength tr_marks tr_visited tr_size wh_places) t.heap) A) 0 0 A := by
  refine Met.ofW (cc := cX1_layOut) (maxL := 3) (ret := none) (by decide) rfl ?_
  intro p e s m args below meth c s₁ B hml hv
  obtain ⟨hav, hP0, hD0, hK⟩ := hv
  have hx := B.exec
  have hb := B.bytes
  have hr := B.returns
  have hts := atoms_spec (ws := wsX1_layOut) B.pre
  have hown : s.vm.findClass RX1 = some m.cls := findClass_of_methodNamed B.named
  have hlocks := B.notSynchronized
  have hB : ∀ w ∈ BIG, w ∈ wsX1_layOut := fun _ h => List.mem_cons_of_mem _ h
  have hin : ∀ w ∈ wsX10, w ∈ wsX1_layOut := fun w h => hB w (inB_X1 w h)
  have lk9 := hts _ (hB _ m_106)
  obtain ⟨Z, hZ⟩ : ∃ Z : State → Prop, Z = MQ below (va_Qv (fun (u : Int32 × Int32 × Int32 × (Nat → Int32) × (Nat → Int32) × (Nat → Int32) × Int64 × Int64 × Int64 × Int64 × Int64) => Q u.1 u.2.1 u.2.2.1 u.2.2.2.1 u.2.2.2.2.1 u.2.2.2.2.2.1 u.2.2.2.2.2.2.1 u.2.2.2.2.2.2.2.1 u.2.2.2.2.2.2.2.2.1 u.2.2.2.2.2.2.2.2.2.1 u.2.2.2.2.2.2.2.2.2.2) (fun (u : Int32 × Int32 × Int32 × (Nat → Int32) × (Nat → Int32) × (Nat → Int32) × Int64 × Int64 × Int64 × Int64 × Int64) t => PW D A (wdC cI cL cZ ad ga_sightings ga_bestShifts ga_commonLength ga_allTimes u.1 u.2.1 u.2.2.1 u.2.2.2.1 gr_before u.2.2.2.2.1 u.2.2.2.2.2.1 u.2.2.2.2.2.2.1 u.2.2.2.2.2.2.2.1 u.2.2.2.2.2.2.2.2.1 u.2.2.2.2.2.2.2.2.2.1 u.2.2.2.2.2.2.2.2.2.2 pi_cells pi_facings pi_sets pi_size po_needs ro_cells ro_lengths ro_shifts si_sightLaw si_sightRange th_unseen th_goals th_commonLength tr_marks tr_visited tr_size wh_places) t.heap) A) args s 0 0 A := ⟨_, rfl⟩
  rw [← hZ]
  have hw : SW D A s.heap (wdC cI cL cZ ad ga_sightings ga_bestShifts ga_commonLength ga_allTimes gr_width gr_height gr_size gr_kinds gr_before gr_columns gr_rows gr_floorCells gr_clearCells gr_standCells gr_firstColumn gr_lastColumn pi_cells pi_facings pi_sets pi_size po_needs ro_cells ro_lengths ro_shifts si_sightLaw si_sightRange th_unseen th_goals th_commonLength tr_marks tr_visited tr_size wh_places) s.heap [] := ⟨hP0, hD0, va_S.rf⟩
  clear hP0 hD0 B
  unfold P_gr_layOut at h
  have he : entryFrame m args 3 = entryFrame m ([.ref (ad 1), .int x1, .int x2] : List Value).toArray 3 := by rw [hav]
  refine W.eq he ?_
  have hl := lv_entry ([.ref (ad 1), .int x1, .int x2]) (n := 3) (Nat.le_of_ble_eq_true rfl)
  rw [lg_entry_eq]
  generalize (lg_sl ([.ref (ad 1), .int x1, .int x2]) ++ List.replicate (3 - (lg_sl ([.ref (ad 1), .int x1, .int x2])).length) Slot.unset).toArray = ls at hl ⊢
  have hl : lv_has ls 3 [(0, .ref (ad 1)), (1, .int x1), (2, .int x2)] := hl
  refine lv_aload_n hx hb dX1_layOut_0 rfl (lv_at hl 0 rfl) ?_
  refine gC_gr_kinds hx hb hts hin hown hK hw lk9 dX1_layOut_1 ?_
  refine lv_iconst (v := 0) hx hb dX1_layOut_4 (by decide) ?_
  refine cS_v (As := [.ref (ad 12), .int (0 : Int32)]) (rest := []) ⟨hx, hb, hml, hown, hts⟩ hK hw (c_fill_i (q0 := 12) (0 : Int32) rfl (by decide)) (va_cwS 2 hts (gd_RX1_28 hB) rfl rfl rfl (by decide +kernel) ⟨Nat.le_of_ble_eq_true rfl, Nat.le_of_ble_eq_true rfl⟩) hl.1 ⟨Nat.zero_le _, Nat.zero_le _⟩ rfl rfl (Nat.le_of_ble_eq_true rfl) dX1_layOut_5 (fun _ H locs _ hw => ?_)
  have hw : SW D A s.heap (wdC cI cL cZ ad ga_sightings ga_bestShifts ga_commonLength ga_allTimes gr_width gr_height gr_size (filli 64 (0 : Int32) gr_kinds) gr_before gr_columns gr_rows gr_floorCells gr_clearCells gr_standCells gr_firstColumn gr_lastColumn pi_cells pi_facings pi_sets pi_size po_needs ro_cells ro_lengths ro_shifts si_sightLaw si_sightRange th_unseen th_goals th_commonLength tr_marks tr_visited tr_size wh_places) H locs := hw
  refine lv_aload_n hx hb dX1_layOut_8 rfl (lv_at hl 0 rfl) ?_
  refine lv_iload_n hx hb dX1_layOut_9 rfl (lv_at hl 1 rfl) ?_
  refine lv_iload_n hx hb dX1_layOut_10 rfl (lv_at hl 2 rfl) ?_
  refine cV_v (b := (ad 1)) (As := [.int x1, .int x2]) (rest := []) ⟨hx, hb, hml, hown, hts⟩ hK hw (c_gr_changeSides x1 x2 h) (cwV 2 hts (gd_RX1_34 hB) rfl rfl rfl (by decide +kernel) ⟨Nat.le_of_ble_eq_true rfl, Nat.le_of_ble_eq_true rfl⟩) (rC_gr hK hw) hl.1 ⟨Nat.zero_le _, Nat.zero_le _⟩ rfl rfl (Nat.le_of_ble_eq_true rfl) dX1_layOut_11 (fun u11 H locs h hw => ?_)
  obtain ⟨gr_width_11, gr_height_11, gr_size_11, gr_columns_11, gr_rows_11, gr_firstColumn_11, gr_lastColumn_11⟩ := u11
  refine lv_aload_n hx hb dX1_layOut_14 rfl (lv_at hl 0 rfl) ?_
  refine cV_v (b := (ad 1)) (As := []) (rest := []) ⟨hx, hb, hml, hown, hts⟩ hK hw (c_gr_sortKinds h) (cwV 0 hts (gd_RX1_37 hB) rfl rfl rfl (by decide +kernel) ⟨Nat.le_of_ble_eq_true rfl, Nat.le_of_ble_eq_true rfl⟩) (rC_gr hK hw) hl.1 ⟨Nat.zero_le _, Nat.zero_le _⟩ rfl rfl (Nat.le_of_ble_eq_true rfl) dX1_layOut_15 (fun u15 H locs h hw => ?_)
  obtain ⟨gr_floorCells_15, gr_clearCells_15, gr_standCells_15⟩ := u15
  rw [hZ]
  exact rt_v (gr_width_11, gr_height_11, gr_size_11, (filli 64 (0 : Int32) gr_kinds), gr_columns_11, gr_rows_11, gr_floorCells_15, gr_clearCells_15, gr_standCells_15, gr_firstColumn_11, gr_lastColumn_11) hx hb hr hlocks hw h dX1_layOut_18
set_option maxHeartbeats 4000000 in
set_option maxRecDepth 100000 in
theorem c_gr_layOutG {l : Launch} {D : va_G} {cI cL cZ : ClassId} {mx my : Nat} {A : Nat → Prop} {ad : Nat → Nat} {gr_width gr_height gr_size : Int32} {gr_kinds gr_before gr_columns gr_rows : Nat → Int32} {gr_floorCells gr_clearCells gr_standCells gr_firstColumn gr_lastColumn : Int64} (x1 : Int32) (x2 : Int32) {Q : Int32 → Int32 → Int32 → (Nat → Int32) → (Nat → Int32) → (Nat → Int32) → Int64 → Int64 → Int64 → Int64 → Int64 → Prop} (h : P_gr_layOut gr_width gr_height gr_size gr_kinds gr_columns gr_rows gr_floorCells gr_clearCells gr_standCells gr_firstColumn gr_lastColumn x1 x2 Q) : Met l yX1_layOut wsX1_layOut rm_gr_layOut (va_Pc [.ref (ad 0), .int x1, .int x2] (WC D cI cL cZ mx my A (wdG cI cL cZ ad gr_width gr_height gr_size gr_kinds gr_before gr_columns gr_rows gr_floorCells gr_clearCells gr_standCells gr_firstColumn gr_lastColumn))) (va_Qv (fun (u : Int32 × Int32 × Int32 × (Nat → Int32) × (Nat → Int32) × (Nat → Int32) × Int64 × Int64 × Int64 × Int64 × Int64) => Q u.1 u.2.1 u.2.2.1 u.2.2.2.1 u.2.2.2.2.1 u.2.2.2.2.2.1 u.2.2.2.2.2.2.1 u.2.2.2.2.2.2.2.1 u.2.2.2.2.2.2.2.2.1 u.2.2.2.2.2.2.2.2.2.1 u.2.2.2.2.2.2.2.2.2.2) (fun (u : Int32 × Int32 × Int32 × (Nat → Int32) × (Nat → Int32) × (Nat → Int32) × Int64 × Int64 × Int64 × Int64 × Int64) t => PW D A (wdG cI cL cZ ad u.1 u.2.1 u.2.2.1 u.2.2.2.1 gr_before u.2.2.2.2.1 u.2.2.2.2.2.1 u.2.2.2.2.2.2.1 u.2.2.2.2.2.2.2.1 u.2.2.2.2.2.2.2.2.1 u.2.2.2.2.2.2.2.2.2.1 u.2.2.2.2.2.2.2.2.2.2) t.heap) A) 0 0 A := by
  refine Met.ofW (cc := cX1_layOut) (maxL := 3) (ret := none) (by decide) rfl ?_
  intro p e s m args below meth c s₁ B hml hv
  obtain ⟨hav, hP0, hD0, hK⟩ := hv
  have hx := B.exec
  have hb := B.bytes
  have hr := B.returns
  have hts := atoms_spec (ws := wsX1_layOut) B.pre
  have hown : s.vm.findClass RX1 = some m.cls := findClass_of_methodNamed B.named
  have hlocks := B.notSynchronized
  have hB : ∀ w ∈ BIG, w ∈ wsX1_layOut := fun _ h => List.mem_cons_of_mem _ h
  have hin : ∀ w ∈ wsX10, w ∈ wsX1_layOut := fun w h => hB w (inB_X1 w h)
  have lk9 := hts _ (hB _ m_106)
  obtain ⟨Z, hZ⟩ : ∃ Z : State → Prop, Z = MQ below (va_Qv (fun (u : Int32 × Int32 × Int32 × (Nat → Int32) × (Nat → Int32) × (Nat → Int32) × Int64 × Int64 × Int64 × Int64 × Int64) => Q u.1 u.2.1 u.2.2.1 u.2.2.2.1 u.2.2.2.2.1 u.2.2.2.2.2.1 u.2.2.2.2.2.2.1 u.2.2.2.2.2.2.2.1 u.2.2.2.2.2.2.2.2.1 u.2.2.2.2.2.2.2.2.2.1 u.2.2.2.2.2.2.2.2.2.2) (fun (u : Int32 × Int32 × Int32 × (Nat → Int32) × (Nat → Int32) × (Nat → Int32) × Int64 × Int64 × Int64 × Int64 × Int64) t => PW D A (wdG cI cL cZ ad u.1 u.2.1 u.2.2.1 u.2.2.2.1 gr_before u.2.2.2.2.1 u.2.2.2.2.2.1 u.2.2.2.2.2.2.1 u.2.2.2.2.2.2.2.1 u.2.2.2.2.2.2.2.2.1 u.2.2.2.2.2.2.2.2.2.1 u.2.2.2.2.2.2.2.2.2.2) t.heap) A) args s 0 0 A := ⟨_, rfl⟩
  rw [← hZ]
  have hw : SW D A s.heap (wdG cI cL cZ ad gr_width gr_height gr_size gr_kinds gr_before gr_columns gr_rows gr_floorCells gr_clearCells gr_standCells gr_firstColumn gr_lastColumn) s.heap [] := ⟨hP0, hD0, va_S.rf⟩
  clear hP0 hD0 B
  unfold P_gr_layOut at h
  have he : entryFrame m args 3 = entryFrame m ([.ref (ad 0), .int x1, .int x2] : List Value).toArray 3 := by rw [hav]
  refine W.eq he ?_
  have hl := lv_entry ([.ref (ad 0), .int x1, .int x2]) (n := 3) (Nat.le_of_ble_eq_true rfl)
  rw [lg_entry_eq]
  generalize (lg_sl ([.ref (ad 0), .int x1, .int x2]) ++ List.replicate (3 - (lg_sl ([.ref (ad 0), .int x1, .int x2])).length) Slot.unset).toArray = ls at hl ⊢
  have hl : lv_has ls 3 [(0, .ref (ad 0)), (1, .int x1), (2, .int x2)] := hl
  refine lv_aload_n hx hb dX1_layOut_0 rfl (lv_at hl 0 rfl) ?_
  refine gG_gr_kinds hx hb hts hin hown hK hw lk9 dX1_layOut_1 ?_
  refine lv_iconst (v := 0) hx hb dX1_layOut_4 (by decide) ?_
  refine cS_v (As := [.ref (ad 1), .int (0 : Int32)]) (rest := []) ⟨hx, hb, hml, hown, hts⟩ hK hw (c_fill_i (q0 := 1) (0 : Int32) rfl (by decide)) (va_cwS 2 hts (gd_RX1_28 hB) rfl rfl rfl (by decide +kernel) ⟨Nat.le_of_ble_eq_true rfl, Nat.le_of_ble_eq_true rfl⟩) hl.1 ⟨Nat.zero_le _, Nat.zero_le _⟩ rfl rfl (Nat.le_of_ble_eq_true rfl) dX1_layOut_5 (fun _ H locs _ hw => ?_)
  have hw : SW D A s.heap (wdG cI cL cZ ad gr_width gr_height gr_size (filli 64 (0 : Int32) gr_kinds) gr_before gr_columns gr_rows gr_floorCells gr_clearCells gr_standCells gr_firstColumn gr_lastColumn) H locs := hw
  refine lv_aload_n hx hb dX1_layOut_8 rfl (lv_at hl 0 rfl) ?_
  refine lv_iload_n hx hb dX1_layOut_9 rfl (lv_at hl 1 rfl) ?_
  refine lv_iload_n hx hb dX1_layOut_10 rfl (lv_at hl 2 rfl) ?_
  refine cV_v (b := (ad 0)) (As := [.int x1, .int x2]) (rest := []) ⟨hx, hb, hml, hown, hts⟩ hK hw (c_gr_changeSidesG x1 x2 h) (cwV 2 hts (gd_RX1_34 hB) rfl rfl rfl (by decide +kernel) ⟨Nat.le_of_ble_eq_true rfl, Nat.le_of_ble_eq_true rfl⟩) (rG_gr hK hw) hl.1 ⟨Nat.zero_le _, Nat.zero_le _⟩ rfl rfl (Nat.le_of_ble_eq_true rfl) dX1_layOut_11 (fun u11 H locs h hw => ?_)
  obtain ⟨gr_width_11, gr_height_11, gr_size_11, gr_columns_11, gr_rows_11, gr_firstColumn_11, gr_lastColumn_11⟩ := u11
  refine lv_aload_n hx hb dX1_layOut_14 rfl (lv_at hl 0 rfl) ?_
  refine cV_v (b := (ad 0)) (As := []) (rest := []) ⟨hx, hb, hml, hown, hts⟩ hK hw (c_gr_sortKindsG h) (cwV 0 hts (gd_RX1_37 hB) rfl rfl rfl (by decide +kernel) ⟨Nat.le_of_ble_eq_true rfl, Nat.le_of_ble_eq_true rfl⟩) (rG_gr hK hw) hl.1 ⟨Nat.zero_le _, Nat.zero_le _⟩ rfl rfl (Nat.le_of_ble_eq_true rfl) dX1_layOut_15 (fun u15 H locs h hw => ?_)
  obtain ⟨gr_floorCells_15, gr_clearCells_15, gr_standCells_15⟩ := u15
  rw [hZ]
  exact rt_v (gr_width_11, gr_height_11, gr_size_11, (filli 64 (0 : Int32) gr_kinds), gr_columns_11, gr_rows_11, gr_floorCells_15, gr_clearCells_15, gr_standCells_15, gr_firstColumn_11, gr_lastColumn_11) hx hb hr hlocks hw h dX1_layOut_18
def rm_gr_width : Room := { frames := 0, cells := 0, slots := 0, locals := 0 }
set_option maxHeartbeats 4000000 in
set_option maxRecDepth 100000 in
theorem c_gr_width {l : Launch} {D : va_G} {cI cL cZ : ClassId} {mx my : Nat} {A : Nat → Prop} {ad : Nat → Nat} {ga_sightings th_unseen th_goals tr_visited : Nat → Int64} {ga_bestShifts gr_kinds gr_before gr_columns gr_rows pi_cells pi_facings pi_sets po_needs ro_cells ro_lengths ro_shifts tr_marks wh_places : Nat → Int32} {ga_commonLength gr_width gr_height gr_size pi_size si_sightLaw si_sightRange th_commonLength tr_size : Int32} {ga_allTimes gr_floorCells gr_clearCells gr_standCells gr_firstColumn gr_lastColumn : Int64}  {Q : Int32 → Prop} (h : P_gr_width gr_width Q) : Met l yX1_width wsX1_width rm_gr_width (va_Pc [.ref (ad 1)] (WC D cI cL cZ mx my A (wdC cI cL cZ ad ga_sightings ga_bestShifts ga_commonLength ga_allTimes gr_width gr_height gr_size gr_kinds gr_before gr_columns gr_rows gr_floorCells gr_clearCells gr_standCells gr_firstColumn gr_lastColumn pi_cells pi_facings pi_sets pi_size po_needs ro_cells ro_lengths ro_shifts si_sightLaw si_sightRange th_unseen th_goals th_commonLength tr_marks tr_visited tr_size wh_places))) (va_Qi (fun (r : Int32) (u : Unit) => Q r) (fun (u : Unit) t => PW D A (wdC cI cL cZ ad ga_sightings ga_bestShifts ga_commonLength ga_allTimes gr_width gr_height gr_size gr_kinds gr_before gr_columns gr_rows gr_floorCells gr_clearCells gr_standCells gr_firstColumn gr_lastColumn pi_cells pi_facings pi_sets pi_size po_needs ro_cells ro_lengths ro_shifts si_sightLaw si_sightRange th_unseen th_goals th_commonLength tr_marks tr_visited tr_size wh_places) t.heap) A) 0 0 A := by
  refine Met.ofW (cc := cX1_width) (maxL := 1) (ret := (some .int)) (by decide) rfl ?_
  intro p e s m args below meth c s₁ B hml hv
  obtain ⟨hav, hP0, hD0, hK⟩ := hv
  have hx := B.exec
  have hb := B.bytes
  have hr := B.returns
  have hts := atoms_spec (ws := wsX1_width) B.pre
  have hown : s.vm.findClass RX1 = some m.cls := findClass_of_methodNamed B.named
  have hlocks := B.notSynchronized
  have hB : ∀ w ∈ BIG, w ∈ wsX1_width := fun _ h => List.mem_cons_of_mem _ h
  have hin : ∀ w ∈ wsX10, w ∈ wsX1_width := fun w h => hB w (inB_X1 w h)
  have lk40 := hts _ (hB _ m_103)
  obtain ⟨Z, hZ⟩ : ∃ Z : State → Prop, Z = MQ below (va_Qi (fun (r : Int32) (u : Unit) => Q r) (fun (u : Unit) t => PW D A (wdC cI cL cZ ad ga_sightings ga_bestShifts ga_commonLength ga_allTimes gr_width gr_height gr_size gr_kinds gr_before gr_columns gr_rows gr_floorCells gr_clearCells gr_standCells gr_firstColumn gr_lastColumn pi_cells pi_facings pi_sets pi_size po_needs ro_cells ro_lengths ro_shifts si_sightLaw si_sightRange th_unseen th_goals th_commonLength tr_marks tr_visited tr_size wh_places) t.heap) A) args s 0 0 A := ⟨_, rfl⟩
  rw [← hZ]
  have hw : SW D A s.heap (wdC cI cL cZ ad ga_sightings ga_bestShifts ga_commonLength ga_allTimes gr_width gr_height gr_size gr_kinds gr_before gr_columns gr_rows gr_floorCells gr_clearCells gr_standCells gr_firstColumn gr_lastColumn pi_cells pi_facings pi_sets pi_size po_needs ro_cells ro_lengths ro_shifts si_sightLaw si_sightRange th_unseen th_goals th_commonLength tr_marks tr_visited tr_size wh_places) s.heap [] := ⟨hP0, hD0, va_S.rf⟩
  clear hP0 hD0 B
  unfold P_gr_width at h
  have he : entryFrame m args 1 = entryFrame m ([.ref (ad 1)] : List Value).toArray 1 := by rw [hav]
  refine W.eq he ?_
  have hl := lv_entry ([.ref (ad 1)]) (n := 1) (Nat.le_of_ble_eq_true rfl)
  rw [lg_entry_eq]
  generalize (lg_sl ([.ref (ad 1)]) ++ List.replicate (1 - (lg_sl ([.ref (ad 1)])).length) Slot.unset).toArray = ls at hl ⊢
  have hl : lv_has ls 1 [(0, .ref (ad 1))] := hl
  refine lv_aload_n hx hb dX1_width_0 rfl (lv_at hl 0 rfl) ?_
  refine gC_gr_width hx hb hts hin hown hK hw lk40 dX1_width_1 ?_
  rw [hZ]
  exact rt_i () hx hb hr hlocks hw h dX1_width_4
def rm_gr_height : Room := { frames := 0, cells := 0, slots := 0, locals := 0 }
set_option maxHeartbeats 4000000 in
set_option maxRecDepth 100000 in
theorem c_gr_height {l : Launch} {D : va_G} {cI cL cZ : ClassId} {mx my : Nat} {A : Nat → Prop} {ad : Nat → Nat} {ga_sightings th_unseen th_goals tr_visited : Nat → Int64} {ga_bestShifts gr_kinds gr_before gr_columns gr_rows pi_cells pi_facings pi_sets po_needs ro_cells ro_lengths ro_shifts tr_marks wh_places : Nat → Int32} {ga_commonLength gr_width gr_height gr_size pi_size si_sightLaw si_sightRange th_commonLength tr_size : Int32} {ga_allTimes gr_floorCells gr_clearCells gr_standCells gr_firstColumn gr_lastColumn : Int64}  {Q : Int32 → Prop} (h : P_gr_height gr_height Q) : Met l yX1_height wsX1_height rm_gr_height (va_Pc [.ref (ad 1)] (WC D cI cL cZ mx my A (wdC cI cL cZ ad ga_sightings ga_bestShifts ga_commonLength ga_allTimes gr_width gr_height gr_size gr_kinds gr_before gr_columns gr_rows gr_floorCells gr_clearCells gr_standCells gr_firstColumn gr_lastColumn pi_cells pi_facings pi_sets pi_size po_needs ro_cells ro_lengths ro_shifts si_sightLaw si_sightRange th_unseen th_goals th_commonLength tr_marks tr_visited tr_size wh_places))) (va_Qi (fun (r : Int32) (u : Unit) => Q r) (fun (u : Unit) t => PW D A (wdC cI cL cZ ad ga_sightings ga_bestShifts ga_commonLength ga_allTimes gr_width gr_height gr_size gr_kinds gr_before gr_columns gr_rows gr_floorCells gr_clearCells gr_standCells gr_firstColumn gr_lastColumn pi_cells pi_facings pi_sets pi_size po_needs ro_cells ro_lengths ro_shifts si_sightLaw si_sightRange th_unseen th_goals th_commonLength tr_marks tr_visited tr_size wh_places) t.heap) A) 0 0 A := by
  refine Met.ofW (cc := cX1_height) (maxL := 1) (ret := (some .int)) (by decide) rfl ?_
  intro p e s m args below meth c s₁ B hml hv
  obtain ⟨hav, hP0, hD0, hK⟩ := hv
  have hx := B.exec
  have hb := B.bytes
  have hr := B.returns
  have hts := atoms_spec (ws := wsX1_height) B.pre
  have hown : s.vm.findClass RX1 = some m.cls := findClass_of_methodNamed B.named
  have hlocks := B.notSynchronized
  have hB : ∀ w ∈ BIG, w ∈ wsX1_height := fun _ h => List.mem_cons_of_mem _ h
  have hin : ∀ w ∈ wsX10, w ∈ wsX1_height := fun w h => hB w (inB_X1 w h)
  have lk44 := hts _ (hB _ m_104)
  obtain ⟨Z, hZ⟩ : ∃ Z : State → Prop, Z = MQ below (va_Qi (fun (r : Int32) (u : Unit) => Q r) (fun (u : Unit) t => PW D A (wdC cI cL cZ ad ga_sightings ga_bestShifts ga_commonLength ga_allTimes gr_width gr_height gr_size gr_kinds gr_before gr_columns gr_rows gr_floorCells gr_clearCells gr_standCells gr_firstColumn gr_lastColumn pi_cells pi_facings pi_sets pi_size po_needs ro_cells ro_lengths ro_shifts si_sightLaw si_sightRange th_unseen th_goals th_commonLength tr_marks tr_visited tr_size wh_places) t.heap) A) args s 0 0 A := ⟨_, rfl⟩
  rw [← hZ]
  have hw : SW D A s.heap (wdC cI cL cZ ad ga_sightings ga_bestShifts ga_commonLength ga_allTimes gr_width gr_height gr_size gr_kinds gr_before gr_columns gr_rows gr_floorCells gr_clearCells gr_standCells gr_firstColumn gr_lastColumn pi_cells pi_facings pi_sets pi_size po_needs ro_cells ro_lengths ro_shifts si_sightLaw si_sightRange th_unseen th_goals th_commonLength tr_marks tr_visited tr_size wh_places) s.heap [] := ⟨hP0, hD0, va_S.rf⟩
  clear hP0 hD0 B
  unfold P_gr_height at h
  have he : entryFrame m args 1 = entryFrame m ([.ref (ad 1)] : List Value).toArray 1 := by rw [hav]
  refine W.eq he ?_
  have hl := lv_entry ([.ref (ad 1)]) (n := 1) (Nat.le_of_ble_eq_true rfl)
  rw [lg_entry_eq]
  generalize (lg_sl ([.ref (ad 1)]) ++ List.replicate (1 - (lg_sl ([.ref (ad 1)])).length) Slot.unset).toArray = ls at hl ⊢
  have hl : lv_has ls 1 [(0, .ref (ad 1))] := hl
  refine lv_aload_n hx hb dX1_height_0 rfl (lv_at hl 0 rfl) ?_
  refine gC_gr_height hx hb hts hin hown hK hw lk44 dX1_height_1 ?_
  rw [hZ]
  exact rt_i () hx hb hr hlocks hw h dX1_height_4
def rm_gr_size : Room := { frames := 0, cells := 0, slots := 0, locals := 0 }
set_option maxHeartbeats 4000000 in
set_option maxRecDepth 100000 in
theorem c_gr_size {l : Launch} {D : va_G} {cI cL cZ : ClassId} {mx my : Nat} {A : Nat → Prop} {ad : Nat → Nat} {ga_sightings th_unseen th_goals tr_visited : Nat → Int64} {ga_bestShifts gr_kinds gr_before gr_columns gr_rows pi_cells pi_facings pi_sets po_needs ro_cells ro_lengths ro_shifts tr_marks wh_places : Nat → Int32} {ga_commonLength gr_width gr_height gr_size pi_size si_sightLaw si_sightRange th_commonLength tr_size : Int32} {ga_allTimes gr_floorCells gr_clearCells gr_standCells gr_firstColumn gr_lastColumn : Int64}  {Q : Int32 → Prop} (h : P_gr_size gr_size Q) : Met l yX1_size wsX1_size rm_gr_size (va_Pc [.ref (ad 1)] (WC D cI cL cZ mx my A (wdC cI cL cZ ad ga_sightings ga_bestShifts ga_commonLength ga_allTimes gr_width gr_height gr_size gr_kinds gr_before gr_columns gr_rows gr_floorCells gr_clearCells gr_standCells gr_firstColumn gr_lastColumn pi_cells pi_facings pi_sets pi_size po_needs ro_cells ro_lengths ro_shifts si_sightLaw si_sightRange th_unseen th_goals th_commonLength tr_marks tr_visited tr_size wh_places))) (va_Qi (fun (r : Int32) (u : Unit) => Q r) (fun (u : Unit) t => PW D A (wdC cI cL cZ ad ga_sightings ga_bestShifts ga_commonLength ga_allTimes gr_width gr_height gr_size gr_kinds gr_before gr_columns gr_rows gr_floorCells gr_clearCells gr_standCells gr_firstColumn gr_lastColumn pi_cells pi_facings pi_sets pi_size po_needs ro_cells ro_lengths ro_shifts si_sightLaw si_sightRange th_unseen th_goals th_commonLength tr_marks tr_visited tr_size wh_places) t.heap) A) 0 0 A := by
  refine Met.ofW (cc := cX1_size) (maxL := 1) (ret := (some .int)) (by decide) rfl ?_
  intro p e s m args below meth c s₁ B hml hv
  obtain ⟨hav, hP0, hD0, hK⟩ := hv
  have hx := B.exec
  have hb := B.bytes
  have hr := B.returns
  have hts := atoms_spec (ws := wsX1_size) B.pre
  have hown : s.vm.findClass RX1 = some m.cls := findClass_of_methodNamed B.named
  have hlocks := B.notSynchronized
  have hB : ∀ w ∈ BIG, w ∈ wsX1_size := fun _ h => List.mem_cons_of_mem _ h
  have hin : ∀ w ∈ wsX10, w ∈ wsX1_size := fun w h => hB w (inB_X1 w h)
  have lk47 := hts _ (hB _ m_105)
  obtain ⟨Z, hZ⟩ : ∃ Z : State → Prop, Z = MQ below (va_Qi (fun (r : Int32) (u : Unit) => Q r) (fun (u : Unit) t => PW D A (wdC cI cL cZ ad ga_sightings ga_bestShifts ga_commonLength ga_allTimes gr_width gr_height gr_size gr_kinds gr_before gr_columns gr_rows gr_floorCells gr_clearCells gr_standCells gr_firstColumn gr_lastColumn pi_cells pi_facings pi_sets pi_size po_needs ro_cells ro_lengths ro_shifts si_sightLaw si_sightRange th_unseen th_goals th_commonLength tr_marks tr_visited tr_size wh_places) t.heap) A) args s 0 0 A := ⟨_, rfl⟩
  rw [← hZ]
  have hw : SW D A s.heap (wdC cI cL cZ ad ga_sightings ga_bestShifts ga_commonLength ga_allTimes gr_width gr_height gr_size gr_kinds gr_before gr_columns gr_rows gr_floorCells gr_clearCells gr_standCells gr_firstColumn gr_lastColumn pi_cells pi_facings pi_sets pi_size po_needs ro_cells ro_lengths ro_shifts si_sightLaw si_sightRange th_unseen th_goals th_commonLength tr_marks tr_visited tr_size wh_places) s.heap [] := ⟨hP0, hD0, va_S.rf⟩
  clear hP0 hD0 B
  unfold P_gr_size at h
  have he : entryFrame m args 1 = entryFrame m ([.ref (ad 1)] : List Value).toArray 1 := by rw [hav]
  refine W.eq he ?_
  have hl := lv_entry ([.ref (ad 1)]) (n := 1) (Nat.le_of_ble_eq_true rfl)
  rw [lg_entry_eq]
  generalize (lg_sl ([.ref (ad 1)]) ++ List.replicate (1 - (lg_sl ([.ref (ad 1)])).length) Slot.unset).toArray = ls at hl ⊢
  have hl : lv_has ls 1 [(0, .ref (ad 1))] := hl
  refine lv_aload_n hx hb dX1_size_0 rfl (lv_at hl 0 rfl) ?_
  refine gC_gr_size hx hb hts hin hown hK hw lk47 dX1_size_1 ?_
  rw [hZ]
  exact rt_i () hx hb hr hlocks hw h dX1_size_4
def rm_gr_isCell : Room := { frames := 0, cells := 0, slots := 0, locals := 0 }
set_option maxHeartbeats 4000000 in
set_option maxRecDepth 100000 in
theorem c_gr_isCell {l : Launch} {D : va_G} {cI cL cZ : ClassId} {mx my : Nat} {A : Nat → Prop} {ad : Nat → Nat} {ga_sightings th_unseen th_goals tr_visited : Nat → Int64} {ga_bestShifts gr_kinds gr_before gr_columns gr_rows pi_cells pi_facings pi_sets po_needs ro_cells ro_lengths ro_shifts tr_marks wh_places : Nat → Int32} {ga_commonLength gr_width gr_height gr_size pi_size si_sightLaw si_sightRange th_commonLength tr_size : Int32} {ga_allTimes gr_floorCells gr_clearCells gr_standCells gr_firstColumn gr_lastColumn : Int64} (x1 : Int32) {Q : Int32 → Prop} (h : P_gr_isCell gr_size x1 Q) : Met l yX1_isCell wsX1_isCell rm_gr_isCell (va_Pc [.ref (ad 1), .int x1] (WC D cI cL cZ mx my A (wdC cI cL cZ ad ga_sightings ga_bestShifts ga_commonLength ga_allTimes gr_width gr_height gr_size gr_kinds gr_before gr_columns gr_rows gr_floorCells gr_clearCells gr_standCells gr_firstColumn gr_lastColumn pi_cells pi_facings pi_sets pi_size po_needs ro_cells ro_lengths ro_shifts si_sightLaw si_sightRange th_unseen th_goals th_commonLength tr_marks tr_visited tr_size wh_places))) (va_Qi (fun (r : Int32) (u : Unit) => Q r) (fun (u : Unit) t => PW D A (wdC cI cL cZ ad ga_sightings ga_bestShifts ga_commonLength ga_allTimes gr_width gr_height gr_size gr_kinds gr_before gr_columns gr_rows gr_floorCells gr_clearCells gr_standCells gr_firstColumn gr_lastColumn pi_cells pi_facings pi_sets pi_size po_needs ro_cells ro_lengths ro_shifts si_sightLaw si_sightRange th_unseen th_goals th_commonLength tr_marks tr_visited tr_size wh_places) t.heap) A) 0 0 A := by
  refine Met.ofW (cc := cX1_isCell) (maxL := 2) (ret := (some .boolean)) (by decide) rfl ?_
  intro p e s m args below meth c s₁ B hml hv
  obtain ⟨hav, hP0, hD0, hK⟩ := hv
  have hx := B.exec
  have hb := B.bytes
  have hr := B.returns
  have hts := atoms_spec (ws := wsX1_isCell) B.pre
  have hown : s.vm.findClass RX1 = some m.cls := findClass_of_methodNamed B.named
  have hlocks := B.notSynchronized
  have hB : ∀ w ∈ BIG, w ∈ wsX1_isCell := fun _ h => List.mem_cons_of_mem _ h
  have hin : ∀ w ∈ wsX10, w ∈ wsX1_isCell := fun w h => hB w (inB_X1 w h)
  have lk47 := hts _ (hB _ m_105)
  obtain ⟨Z, hZ⟩ : ∃ Z : State → Prop, Z = MQ below (va_Qi (fun (r : Int32) (u : Unit) => Q r) (fun (u : Unit) t => PW D A (wdC cI cL cZ ad ga_sightings ga_bestShifts ga_commonLength ga_allTimes gr_width gr_height gr_size gr_kinds gr_before gr_columns gr_rows gr_floorCells gr_clearCells gr_standCells gr_firstColumn gr_lastColumn pi_cells pi_facings pi_sets pi_size po_needs ro_cells ro_lengths ro_shifts si_sightLaw si_sightRange th_unseen th_goals th_commonLength tr_marks tr_visited tr_size wh_places) t.heap) A) args s 0 0 A := ⟨_, rfl⟩
  rw [← hZ]
  have hw : SW D A s.heap (wdC cI cL cZ ad ga_sightings ga_bestShifts ga_commonLength ga_allTimes gr_width gr_height gr_size gr_kinds gr_before gr_columns gr_rows gr_floorCells gr_clearCells gr_standCells gr_firstColumn gr_lastColumn pi_cells pi_facings pi_sets pi_size po_needs ro_cells ro_lengths ro_shifts si_sightLaw si_sightRange th_unseen th_goals th_commonLength tr_marks tr_visited tr_size wh_places) s.heap [] := ⟨hP0, hD0, va_S.rf⟩
  clear hP0 hD0 B
  unfold P_gr_isCell at h
  have he : entryFrame m args 2 = entryFrame m ([.ref (ad 1), .int x1] : List Value).toArray 2 := by rw [hav]
  refine W.eq he ?_
  have hl := lv_entry ([.ref (ad 1), .int x1]) (n := 2) (Nat.le_of_ble_eq_true rfl)
  rw [lg_entry_eq]
  generalize (lg_sl ([.ref (ad 1), .int x1]) ++ List.replicate (2 - (lg_sl ([.ref (ad 1), .int x1])).length) Slot.unset).toArray = ls at hl ⊢
  have hl : lv_has ls 2 [(0, .ref (ad 1)), (1, .int x1)] := hl
  refine lv_iload_n hx hb dX1_isCell_0 rfl (lv_at hl 1 rfl) ?_
  refine lv_if_lt (tgt := 16) hx hb dX1_isCell_1 (by decide) (fun hc => ?_) (fun hc => ?_)
  · replace h := h.1 hc
    refine lv_iconst (v := 0) hx hb dX1_isCell_16 (by decide) ?_
    rw [hZ]
    exact rt_z () hx hb hr hlocks hw (by decide) h dX1_isCell_17
  · replace h := h.2 hc
    refine lv_iload_n hx hb dX1_isCell_4 rfl (lv_at hl 1 rfl) ?_
    refine lv_aload_n hx hb dX1_isCell_5 rfl (lv_at hl 0 rfl) ?_
    refine gC_gr_size hx hb hts hin hown hK hw lk47 dX1_isCell_6 ?_
    refine lv_icmp_ge (tgt := 16) hx hb dX1_isCell_9 (by decide) (fun hc => ?_) (fun hc => ?_)
    · replace h := h.1 hc
      refine lv_iconst (v := 0) hx hb dX1_isCell_16 (by decide) ?_
      rw [hZ]
      exact rt_z () hx hb hr hlocks hw (by decide) h dX1_isCell_17
    · replace h := h.2 hc
      refine lv_iconst (v := 1) hx hb dX1_isCell_12 (by decide) ?_
      refine lv_goto (tgt := 17) hx hb dX1_isCell_13 (by decide) ?_
      rw [hZ]
      exact rt_z () hx hb hr hlocks hw (by decide) h dX1_isCell_17
def rm_gr_kindOf : Room := { frames := 0, cells := 0, slots := 0, locals := 0 }
set_option maxHeartbeats 4000000 in
set_option maxRecDepth 100000 in
theorem c_gr_kindOf {l : Launch} {D : va_G} {cI cL cZ : ClassId} {mx my : Nat} {A : Nat → Prop} {ad : Nat → Nat} {ga_sightings th_unseen th_goals tr_visited : Nat → Int64} {ga_bestShifts gr_kinds gr_before gr_columns gr_rows pi_cells pi_facings pi_sets po_needs ro_cells ro_lengths ro_shifts tr_marks wh_places : Nat → Int32} {ga_commonLength gr_width gr_height gr_size pi_size si_sightLaw si_sightRange th_commonLength tr_size : Int32} {ga_allTimes gr_floorCells gr_clearCells gr_standCells gr_firstColumn gr_lastColumn : Int64} (x1 : Int32) {Q : Int32 → Prop} (h : P_gr_kindOf gr_kinds x1 Q) : Met l yX1_kindOf wsX1_kindOf rm_gr_kindOf (va_Pc [.ref (ad 1), .int x1] (WC D cI cL cZ mx my A (wdC cI cL cZ ad ga_sightings ga_bestShifts ga_commonLength ga_allTimes gr_width gr_height gr_size gr_kinds gr_before gr_columns gr_rows gr_floorCells gr_clearCells gr_standCells gr_firstColumn gr_lastColumn pi_cells pi_facings pi_sets pi_size po_needs ro_cells ro_lengths ro_shifts si_sightLaw si_sightRange th_unseen th_goals th_commonLength tr_marks tr_visited tr_size wh_places))) (va_Qi (fun (r : Int32) (u : Unit) => Q r) (fun (u : Unit) t => PW D A (wdC cI cL cZ ad ga_sightings ga_bestShifts ga_commonLength ga_allTimes gr_width gr_height gr_size gr_kinds gr_before gr_columns gr_rows gr_floorCells gr_clearCells gr_standCells gr_firstColumn gr_lastColumn pi_cells pi_facings pi_sets pi_size po_needs ro_cells ro_lengths ro_shifts si_sightLaw si_sightRange th_unseen th_goals th_commonLength tr_marks tr_visited tr_size wh_places) t.heap) A) 0 0 A := by
  refine Met.ofW (cc := cX1_kindOf) (maxL := 2) (ret := (some .int)) (by decide) rfl ?_
  intro p e s m args below meth c s₁ B hml hv
  obtain ⟨hav, hP0, hD0, hK⟩ := hv
  have hx := B.exec
  have hb := B.bytes
  have hr := B.returns
  have hts := atoms_spec (ws := wsX1_kindOf) B.pre
  have hown : s.vm.findClass RX1 = some m.cls := findClass_of_methodNamed B.named
  have hlocks := B.notSynchronized
  have hB : ∀ w ∈ BIG, w ∈ wsX1_kindOf := fun _ h => List.mem_cons_of_mem _ h
  have hin : ∀ w ∈ wsX10, w ∈ wsX1_kindOf := fun w h => hB w (inB_X1 w h)
  have lk9 := hts _ (hB _ m_106)
  obtain ⟨Z, hZ⟩ : ∃ Z : State → Prop, Z = MQ below (va_Qi (fun (r : Int32) (u : Unit) => Q r) (fun (u : Unit) t => PW D A (wdC cI cL cZ ad ga_sightings ga_bestShifts ga_commonLength ga_allTimes gr_width gr_height gr_size gr_kinds gr_before gr_columns gr_rows gr_floorCells gr_clearCells gr_standCells gr_firstColumn gr_lastColumn pi_cells pi_facings pi_sets pi_size po_needs ro_cells ro_lengths ro_shifts si_sightLaw si_sightRange th_unseen th_goals th_commonLength tr_marks tr_visited tr_size wh_places) t.heap) A) args s 0 0 A := ⟨_, rfl⟩
  rw [← hZ]
  have hw : SW D A s.heap (wdC cI cL cZ ad ga_sightings ga_bestShifts ga_commonLength ga_allTimes gr_width gr_height gr_size gr_kinds gr_before gr_columns gr_rows gr_floorCells gr_clearCells gr_standCells gr_firstColumn gr_lastColumn pi_cells pi_facings pi_sets pi_size po_needs ro_cells ro_lengths ro_shifts si_sightLaw si_sightRange th_unseen th_goals th_commonLength tr_marks tr_visited tr_size wh_places) s.heap [] := ⟨hP0, hD0, va_S.rf⟩
  clear hP0 hD0 B
  unfold P_gr_kindOf at h
  have he : entryFrame m args 2 = entryFrame m ([.ref (ad 1), .int x1] : List Value).toArray 2 := by rw [hav]
  refine W.eq he ?_
  have hl := lv_entry ([.ref (ad 1), .int x1]) (n := 2) (Nat.le_of_ble_eq_true rfl)
  rw [lg_entry_eq]
  generalize (lg_sl ([.ref (ad 1), .int x1]) ++ List.replicate (2 - (lg_sl ([.ref (ad 1), .int x1])).length) Slot.unset).toArray = ls at hl ⊢
  have hl : lv_has ls 2 [(0, .ref (ad 1)), (1, .int x1)] := hl
  refine lv_aload_n hx hb dX1_kindOf_0 rfl (lv_at hl 0 rfl) ?_
  refine gC_gr_kinds hx hb hts hin hown hK hw lk9 dX1_kindOf_1 ?_
  refine lv_iload_n hx hb dX1_kindOf_4 rfl (lv_at hl 1 rfl) ?_
  refine aC_gr_kinds hx hb hK hw h.1 dX1_kindOf_5 ?_
  replace h := h.2
  rw [hZ]
  exact rt_i () hx hb hr hlocks hw h dX1_kindOf_6
def rm_gr_change : Room := { frames := 1, cells := 0, slots := 0, locals := 24 }
set_option maxHeartbeats 4000000 in
set_option maxRecDepth 100000 in
theorem c_gr_change {l : Launch} {D : va_G} {cI cL cZ : ClassId} {mx my : Nat} {A : Nat → Prop} {ad : Nat → Nat} {ga_sightings th_unseen th_goals tr_visited : Nat → Int64} {ga_bestShifts gr_kinds gr_before gr_columns gr_rows pi_cells pi_facings pi_sets po_needs ro_cells ro_lengths ro_shifts tr_marks wh_places : Nat → Int32} {ga_commonLength gr_width gr_height gr_size pi_size si_sightLaw si_sightRange th_commonLength tr_size : Int32} {ga_allTimes gr_floorCells gr_clearCells gr_standCells gr_firstColumn gr_lastColumn : Int64} (x1 : Int32) (x2 : Int32) {Q : (Nat → Int32) → Int64 → Int64 → Int64 → Prop} (h : P_gr_change gr_size gr_kinds gr_floorCells gr_clearCells gr_standCells x1 x2 Q) : Met l yX1_change wsX1_change rm_gr_change (va_Pc [.ref (ad 1), .int x1, .int x2] (WC D cI cL cZ mx my A (wdC cI cL cZ ad ga_sightings ga_bestShifts ga_commonLength ga_allTimes gr_width gr_height gr_size gr_kinds gr_before gr_columns gr_rows gr_floorCells gr_clearCells gr_standCells gr_firstColumn gr_lastColumn pi_cells pi_facings pi_sets pi_size po_needs ro_cells ro_lengths ro_shifts si_sightLaw si_sightRange th_unseen th_goals th_commonLength tr_marks tr_visited tr_size wh_places))) (va_Qv (fun (u : (Nat → Int32) × Int64 × Int64 × Int64) => Q u.1 u.2.1 u.2.2.1 u.2.2.2) (fun (u : (Nat → Int32) × Int64 × Int64 × Int64) t => PW D A (wdC cI cL cZ ad ga_sightings ga_bestShifts ga_commonLength ga_allTimes gr_width gr_height gr_size u.1 gr_before gr_columns gr_rows u.2.1 u.2.2.1 u.2.2.2 gr_firstColumn gr_lastColumn pi_cells pi_facings pi_sets pi_size po_needs ro_cells ro_lengths ro_shifts si_sightLaw si_sightRange th_unseen th_goals th_commonLength tr_marks tr_visited tr_size wh_places) t.heap) A) 0 0 A := by
  refine Met.ofW (cc := cX1_change) (maxL := 3) (ret := none) (by decide) rfl ?_
  intro p e s m args below meth c s₁ B hml hv
  obtain ⟨hav, hP0, hD0, hK⟩ := hv
  have hx := B.exec
  have hb := B.bytes
  have hr := B.returns
  have hts := atoms_spec (ws := wsX1_change) B.pre
  have hown : s.vm.findClass RX1 = some m.cls := findClass_of_methodNamed B.named
  have hlocks := B.notSynchronized
  have hB : ∀ w ∈ BIG, w ∈ wsX1_change := fun _ h => List.mem_cons_of_mem _ h
  have hin : ∀ w ∈ wsX10, w ∈ wsX1_change := fun w h => hB w (inB_X1 w h)
  have lk9 := hts _ (hB _ m_106)
  obtain ⟨Z, hZ⟩ : ∃ Z : State → Prop, Z = MQ below (va_Qv (fun (u : (Nat → Int32) × Int64 × Int64 × Int64) => Q u.1 u.2.1 u.2.2.1 u.2.2.2) (fun (u : (Nat → Int32) × Int64 × Int64 × Int64) t => PW D A (wdC cI cL cZ ad ga_sightings ga_bestShifts ga_commonLength ga_allTimes gr_width gr_height gr_size u.1 gr_before gr_columns gr_rows u.2.1 u.2.2.1 u.2.2.2 gr_firstColumn gr_lastColumn pi_cells pi_facings pi_sets pi_size po_needs ro_cells ro_lengths ro_shifts si_sightLaw si_sightRange th_unseen th_goals th_commonLength tr_marks tr_visited tr_size wh_places) t.heap) A) args s 0 0 A := ⟨_, rfl⟩
  rw [← hZ]
  have hw : SW D A s.heap (wdC cI cL cZ ad ga_sightings ga_bestShifts ga_commonLength ga_allTimes gr_width gr_height gr_size gr_kinds gr_before gr_columns gr_rows gr_floorCells gr_clearCells gr_standCells gr_firstColumn gr_lastColumn pi_cells pi_facings pi_sets pi_size po_needs ro_cells ro_lengths ro_shifts si_sightLaw si_sightRange th_unseen th_goals th_commonLength tr_marks tr_visited tr_size wh_places) s.heap [] := ⟨hP0, hD0, va_S.rf⟩
  clear hP0 hD0 B
  unfold P_gr_change at h
  have he : entryFrame m args 3 = entryFrame m ([.ref (ad 1), .int x1, .int x2] : List Value).toArray 3 := by rw [hav]
  refine W.eq he ?_
  have hl := lv_entry ([.ref (ad 1), .int x1, .int x2]) (n := 3) (Nat.le_of_ble_eq_true rfl)
  rw [lg_entry_eq]
  generalize (lg_sl ([.ref (ad 1), .int x1, .int x2]) ++ List.replicate (3 - (lg_sl ([.ref (ad 1), .int x1, .int x2])).length) Slot.unset).toArray = ls at hl ⊢
  have hl : lv_has ls 3 [(0, .ref (ad 1)), (1, .int x1), (2, .int x2)] := hl
  refine lv_aload_n hx hb dX1_change_0 rfl (lv_at hl 0 rfl) ?_
  refine gC_gr_kinds hx hb hts hin hown hK hw lk9 dX1_change_1 ?_
  refine lv_iload_n hx hb dX1_change_4 rfl (lv_at hl 1 rfl) ?_
  refine lv_iload_n hx hb dX1_change_5 rfl (lv_at hl 2 rfl) ?_
  refine tC_gr_kinds hx hb hK hw h.1 dX1_change_6 (fun H locs hw => ?_)
  replace h := h.2
  refine lv_aload_n hx hb dX1_change_7 rfl (lv_at hl 0 rfl) ?_
  refine cV_v (b := (ad 1)) (As := []) (rest := []) ⟨hx, hb, hml, hown, hts⟩ hK hw (c_gr_sortKinds h) (cwV 0 hts (gd_RX1_37 hB) rfl rfl rfl (by decide +kernel) ⟨Nat.le_of_ble_eq_true rfl, Nat.le_of_ble_eq_true rfl⟩) (rC_gr hK hw) hl.1 ⟨Nat.zero_le _, Nat.zero_le _⟩ rfl rfl (Nat.le_of_ble_eq_true rfl) dX1_change_8 (fun u8 H locs h hw => ?_)
  obtain ⟨gr_floorCells_8, gr_clearCells_8, gr_standCells_8⟩ := u8
  rw [hZ]
  exact rt_v ((upd gr_kinds x1.toNatClampNeg x2), gr_floorCells_8, gr_clearCells_8, gr_standCells_8) hx hb hr hlocks hw h dX1_change_11
def rm_gr_standing : Room := { frames := 0, cells := 0, slots := 0, locals := 0 }
set_option maxHeartbeats 4000000 in
set_option maxRecDepth 100000 in
theorem c_gr_standing {l : Launch} {D : va_G} {cI cL cZ : ClassId} {mx my : Nat} {A : Nat → Prop} {ad : Nat → Nat} {ga_sightings th_unseen th_goals tr_visited : Nat → Int64} {ga_bestShifts gr_kinds gr_before gr_columns gr_rows pi_cells pi_facings pi_sets po_needs ro_cells ro_lengths ro_shifts tr_marks wh_places : Nat → Int32} {ga_commonLength gr_width gr_height gr_size pi_size si_sightLaw si_sightRange th_commonLength tr_size : Int32} {ga_allTimes gr_floorCells gr_clearCells gr_standCells gr_firstColumn gr_lastColumn : Int64}  {Q : Int64 → Prop} (h : P_gr_standing gr_standCells Q) : Met l yX1_standing wsX1_standing rm_gr_standing (va_Pc [.ref (ad 1)] (WC D cI cL cZ mx my A (wdC cI cL cZ ad ga_sightings ga_bestShifts ga_commonLength ga_allTimes gr_width gr_height gr_size gr_kinds gr_before gr_columns gr_rows gr_floorCells gr_clearCells gr_standCells gr_firstColumn gr_lastColumn pi_cells pi_facings pi_sets pi_size po_needs ro_cells ro_lengths ro_shifts si_sightLaw si_sightRange th_unseen th_goals th_commonLength tr_marks tr_visited tr_size wh_places))) (va_Ql (fun (r : Int64) (u : Unit) => Q r) (fun (u : Unit) t => PW D A (wdC cI cL cZ ad ga_sightings ga_bestShifts ga_commonLength ga_allTimes gr_width gr_height gr_size gr_kinds gr_before gr_columns gr_rows gr_floorCells gr_clearCells gr_standCells gr_firstColumn gr_lastColumn pi_cells pi_facings pi_sets pi_size po_needs ro_cells ro_lengths ro_shifts si_sightLaw si_sightRange th_unseen th_goals th_commonLength tr_marks tr_visited tr_size wh_places) t.heap) A) 0 0 A := by
  refine Met.ofW (cc := cX1_standing) (maxL := 1) (ret := (some .long)) (by decide) rfl ?_
  intro p e s m args below meth c s₁ B hml hv
  obtain ⟨hav, hP0, hD0, hK⟩ := hv
  have hx := B.exec
  have hb := B.bytes
  have hr := B.returns
  have hts := atoms_spec (ws := wsX1_standing) B.pre
  have hown : s.vm.findClass RX1 = some m.cls := findClass_of_methodNamed B.named
  have hlocks := B.notSynchronized
  have hB : ∀ w ∈ BIG, w ∈ wsX1_standing := fun _ h => List.mem_cons_of_mem _ h
  have hin : ∀ w ∈ wsX10, w ∈ wsX1_standing := fun w h => hB w (inB_X1 w h)
  have lk63 := hts _ (hB _ m_112)
  obtain ⟨Z, hZ⟩ : ∃ Z : State → Prop, Z = MQ below (va_Ql (fun (r : Int64) (u : Unit) => Q r) (fun (u : Unit) t => PW D A (wdC cI cL cZ ad ga_sightings ga_bestShifts ga_commonLength ga_allTimes gr_width gr_height gr_size gr_kinds gr_before gr_columns gr_rows gr_floorCells gr_clearCells gr_standCells gr_firstColumn gr_lastColumn pi_cells pi_facings pi_sets pi_size po_needs ro_cells ro_lengths ro_shifts si_sightLaw si_sightRange th_unseen th_goals th_commonLength tr_marks tr_visited tr_size wh_places) t.heap) A) args s 0 0 A := ⟨_, rfl⟩
  rw [← hZ]
  have hw : SW D A s.heap (wdC cI cL cZ ad ga_sightings ga_bestShifts ga_commonLength ga_allTimes gr_width gr_height gr_size gr_kinds gr_before gr_columns gr_rows gr_floorCells gr_clearCells gr_standCells gr_firstColumn gr_lastColumn pi_cells pi_facings pi_sets pi_size po_needs ro_cells ro_lengths ro_shifts si_sightLaw si_sightRange th_unseen th_goals th_commonLength tr_marks tr_visited tr_size wh_places) s.heap [] := ⟨hP0, hD0, va_S.rf⟩
  clear hP0 hD0 B
  unfold P_gr_standing at h
  have he : entryFrame m args 1 = entryFrame m ([.ref (ad 1)] : List Value).toArray 1 := by rw [hav]
  refine W.eq he ?_
  have hl := lv_entry ([.ref (ad 1)]) (n := 1) (Nat.le_of_ble_eq_true rfl)
  rw [lg_entry_eq]
  generalize (lg_sl ([.ref (ad 1)]) ++ List.replicate (1 - (lg_sl ([.ref (ad 1)])).length) Slot.unset).toArray = ls at hl ⊢
  have hl : lv_has ls 1 [(0, .ref (ad 1))] := hl
  refine lv_aload_n hx hb dX1_standing_0 rfl (lv_at hl 0 rfl) ?_
  refine gC_gr_standCells hx hb hts hin hown hK hw lk63 dX1_standing_1 ?_
  rw [hZ]
  exact rt_l () hx hb hr hlocks hw h dX1_standing_4
def rm_gr_placeAfter : Room := { frames := 2, cells := 0, slots := 0, locals := 43 }
set_option maxHeartbeats 4000000 in
set_option maxRecDepth 100000 in
theorem c_gr_placeAfter {l : Launch} {D : va_G} {cI cL cZ : ClassId} {mx my : Nat} {A : Nat → Prop} {ad : Nat → Nat} {ga_sightings th_unseen th_goals tr_visited : Nat → Int64} {ga_bestShifts gr_kinds gr_before gr_columns gr_rows pi_cells pi_facings pi_sets po_needs ro_cells ro_lengths ro_shifts tr_marks wh_places : Nat → Int32} {ga_commonLength gr_width gr_height gr_size pi_size si_sightLaw si_sightRange th_commonLength tr_size : Int32} {ga_allTimes gr_floorCells gr_clearCells gr_standCells gr_firstColumn gr_lastColumn : Int64} (x1 : Int32) (x2 : Int32) {Q : Int32 → Prop} (h : P_gr_placeAfter gr_width gr_height gr_columns gr_rows gr_standCells x1 x2 Q) : Met l yX1_placeAfter wsX1_placeAfter rm_gr_placeAfter (va_Pc [.ref (ad 1), .int x1, .int x2] (WC D cI cL cZ mx my A (wdC cI cL cZ ad ga_sightings ga_bestShifts ga_commonLength ga_allTimes gr_width gr_height gr_size gr_kinds gr_before gr_columns gr_rows gr_floorCells gr_clearCells gr_standCells gr_firstColumn gr_lastColumn pi_cells pi_facings pi_sets pi_size po_needs ro_cells ro_lengths ro_shifts si_sightLaw si_sightRange th_unseen th_goals th_commonLength tr_marks tr_visited tr_size wh_places))) (va_Qi (fun (r : Int32) (u : Unit) => Q r) (fun (u : Unit) t => PW D A (wdC cI cL cZ ad ga_sightings ga_bestShifts ga_commonLength ga_allTimes gr_width gr_height gr_size gr_kinds gr_before gr_columns gr_rows gr_floorCells gr_clearCells gr_standCells gr_firstColumn gr_lastColumn pi_cells pi_facings pi_sets pi_size po_needs ro_cells ro_lengths ro_shifts si_sightLaw si_sightRange th_unseen th_goals th_commonLength tr_marks tr_visited tr_size wh_places) t.heap) A) 0 0 A := by
  refine Met.ofW (cc := cX1_placeAfter) (maxL := 6) (ret := (some .int)) (by decide) rfl ?_
  intro p e s m args below meth c s₁ B hml hv
  obtain ⟨hav, hP0, hD0, hK⟩ := hv
  have hx := B.exec
  have hb := B.bytes
  have hr := B.returns
  have hts := atoms_spec (ws := wsX1_placeAfter) B.pre
  have hown : s.vm.findClass RX1 = some m.cls := findClass_of_methodNamed B.named
  have hlocks := B.notSynchronized
  have hB : ∀ w ∈ BIG, w ∈ wsX1_placeAfter := fun _ h => List.mem_cons_of_mem _ h
  have hin : ∀ w ∈ wsX10, w ∈ wsX1_placeAfter := fun w h => hB w (inB_X1 w h)
  have lk18 := hts _ (hB _ m_108)
  have lk21 := hts _ (hB _ m_109)
  have lk40 := hts _ (hB _ m_103)
  have lk44 := hts _ (hB _ m_104)
  obtain ⟨Z, hZ⟩ : ∃ Z : State → Prop, Z = MQ below (va_Qi (fun (r : Int32) (u : Unit) => Q r) (fun (u : Unit) t => PW D A (wdC cI cL cZ ad ga_sightings ga_bestShifts ga_commonLength ga_allTimes gr_width gr_height gr_size gr_kinds gr_before gr_columns gr_rows gr_floorCells gr_clearCells gr_standCells gr_firstColumn gr_lastColumn pi_cells pi_facings pi_sets pi_size po_needs ro_cells ro_lengths ro_shifts si_sightLaw si_sightRange th_unseen th_goals th_commonLength tr_marks tr_visited tr_size wh_places) t.heap) A) args s 0 0 A := ⟨_, rfl⟩
  rw [← hZ]
  have hw : SW D A s.heap (wdC cI cL cZ ad ga_sightings ga_bestShifts ga_commonLength ga_allTimes gr_width gr_height gr_size gr_kinds gr_before gr_columns gr_rows gr_floorCells gr_clearCells gr_standCells gr_firstColumn gr_lastColumn pi_cells pi_facings pi_sets pi_size po_needs ro_cells ro_lengths ro_shifts si_sightLaw si_sightRange th_unseen th_goals th_commonLength tr_marks tr_visited tr_size wh_places) s.heap [] := ⟨hP0, hD0, va_S.rf⟩
  clear hP0 hD0 B
  unfold P_gr_placeAfter at h
  have he : entryFrame m args 6 = entryFrame m ([.ref (ad 1), .int x1, .int x2] : List Value).toArray 6 := by rw [hav]
  refine W.eq he ?_
  have hl := lv_entry ([.ref (ad 1), .int x1, .int x2]) (n := 6) (Nat.le_of_ble_eq_true rfl)
  rw [lg_entry_eq]
  generalize (lg_sl ([.ref (ad 1), .int x1, .int x2]) ++ List.replicate (6 - (lg_sl ([.ref (ad 1), .int x1, .int x2])).length) Slot.unset).toArray = ls at hl ⊢
  have hl : lv_has ls 6 [(0, .ref (ad 1)), (1, .int x1), (2, .int x2)] := hl
  refine lv_aload_n hx hb dX1_placeAfter_0 rfl (lv_at hl 0 rfl) ?_
  refine gC_gr_columns hx hb hts hin hown hK hw lk18 dX1_placeAfter_1 ?_
  refine lv_iload_n hx hb dX1_placeAfter_4 rfl (lv_at hl 1 rfl) ?_
  refine aC_gr_columns hx hb hK hw h.1 dX1_placeAfter_5 ?_
  replace h := h.2
  refine va_getsN hx hb hK.2.2.1 hw.2.2 hown (va_Nw.use rfl hK.2.1.2.2.2.2.2.2.1) (fun _ h9 => h9) dX1_placeAfter_6 ?_
  refine lv_iload_n hx hb dX1_placeAfter_9 rfl (lv_at hl 2 rfl) ?_
  refine va_ti hx hb hK.2.2.2.1 hw.2.2 h.1 rfl dX1_placeAfter_10 ?_
  replace h := h.2
  refine lv_iadd hx hb dX1_placeAfter_11 ?_
  refine lv_topi (fun x3_12 ex3_12 => ?_)
  replace h := h x3_12 ex3_12
  refine lv_istore_n (lv' := [(3, .int x3_12), (0, .ref (ad 1)), (1, .int x1), (2, .int x2)]) hx hb dX1_placeAfter_12 rfl hl (by decide) rfl (fun ls hl => ?_)
  refine lv_aload_n hx hb dX1_placeAfter_13 rfl (lv_at hl 1 rfl) ?_
  refine gC_gr_rows hx hb hts hin hown hK hw lk21 dX1_placeAfter_14 ?_
  refine lv_iload_n hx hb dX1_placeAfter_17 rfl (lv_at hl 2 rfl) ?_
  refine aC_gr_rows hx hb hK hw h.1 dX1_placeAfter_18 ?_
  replace h := h.2
  refine va_getsN hx hb hK.2.2.2.2.1 hw.2.2 hown (va_Nw.use rfl hK.2.1.2.2.2.2.2.2.2.1) (fun _ h9 => h9) dX1_placeAfter_19 ?_
  refine lv_iload_n hx hb dX1_placeAfter_22 rfl (lv_at hl 3 rfl) ?_
  refine va_ti hx hb hK.2.2.2.2.2 hw.2.2 h.1 rfl dX1_placeAfter_23 ?_
  replace h := h.2
  refine lv_iadd hx hb dX1_placeAfter_24 ?_
  refine lv_topi (fun x4_25 ex4_25 => ?_)
  replace h := h x4_25 ex4_25
  refine lv_istore (lv' := [(4, .int x4_25), (3, .int x3_12), (0, .ref (ad 1)), (1, .int x1), (2, .int x2)]) hx hb dX1_placeAfter_25 hl (by decide) rfl (fun ls hl => ?_)
  refine lv_iload_n hx hb dX1_placeAfter_27 rfl (lv_at hl 1 rfl) ?_
  refine lv_if_lt (tgt := 53) hx hb dX1_placeAfter_28 (by decide) (fun hc => ?_) (fun hc => ?_)
  · replace h := h.1 hc
    refine lv_iconst (v := (-1)) hx hb dX1_placeAfter_53 (by decide) ?_
    rw [hZ]
    exact rt_i () hx hb hr hlocks hw h dX1_placeAfter_54
  · replace h := h.2 hc
    refine lv_iload_n hx hb dX1_placeAfter_31 rfl (lv_at hl 1 rfl) ?_
    refine lv_aload_n hx hb dX1_placeAfter_32 rfl (lv_at hl 2 rfl) ?_
    refine gC_gr_width hx hb hts hin hown hK hw lk40 dX1_placeAfter_33 ?_
    refine lv_icmp_ge (tgt := 53) hx hb dX1_placeAfter_36 (by decide) (fun hc => ?_) (fun hc => ?_)
    · replace h := h.1 hc
      refine lv_iconst (v := (-1)) hx hb dX1_placeAfter_53 (by decide) ?_
      rw [hZ]
      exact rt_i () hx hb hr hlocks hw h dX1_placeAfter_54
    · replace h := h.2 hc
      refine lv_iload hx hb dX1_placeAfter_39 (lv_at hl 0 rfl) ?_
      refine lv_if_lt (tgt := 53) hx hb dX1_placeAfter_41 (by decide) (fun hc => ?_) (fun hc => ?_)
      · replace h := h.1 hc
        refine lv_iconst (v := (-1)) hx hb dX1_placeAfter_53 (by decide) ?_
        rw [hZ]
        exact rt_i () hx hb hr hlocks hw h dX1_placeAfter_54
      · replace h := h.2 hc
        refine lv_iload hx hb dX1_placeAfter_44 (lv_at hl 0 rfl) ?_
        refine lv_aload_n hx hb dX1_placeAfter_46 rfl (lv_at hl 2 rfl) ?_
        refine gC_gr_height hx hb hts hin hown hK hw lk44 dX1_placeAfter_47 ?_
        refine lv_icmp_lt (tgt := 55) hx hb dX1_placeAfter_50 (by decide) (fun hc => ?_) (fun hc => ?_)
        · replace h := h.1 hc
          refine lv_iload hx hb dX1_placeAfter_55 (lv_at hl 0 rfl) ?_
          refine lv_aload_n hx hb dX1_placeAfter_57 rfl (lv_at hl 2 rfl) ?_
          refine gC_gr_width hx hb hts hin hown hK hw lk40 dX1_placeAfter_58 ?_
          refine lv_imul hx hb dX1_placeAfter_61 ?_
          refine lv_iload_n hx hb dX1_placeAfter_62 rfl (lv_at hl 1 rfl) ?_
          refine lv_iadd hx hb dX1_placeAfter_63 ?_
          refine lv_topi (fun x5_64 ex5_64 => ?_)
          replace h := h x5_64 ex5_64
          refine lv_istore (lv' := [(5, .int x5_64), (4, .int x4_25), (3, .int x3_12), (0, .ref (ad 1)), (1, .int x1), (2, .int x2)]) hx hb dX1_placeAfter_64 hl (by decide) rfl (fun ls hl => ?_)
          refine lv_aload_n hx hb dX1_placeAfter_66 rfl (lv_at hl 3 rfl) ?_
          refine lv_iload hx hb dX1_placeAfter_67 (lv_at hl 0 rfl) ?_
          refine cV_i (b := (ad 1)) (As := [.int x5_64]) (rest := []) ⟨hx, hb, hml, hown, hts⟩ hK hw (c_gr_mayStand x5_64 h) (cwV 1 hts (gd_RX1_76 hB) rfl rfl rfl (by decide +kernel) ⟨Nat.le_of_ble_eq_true rfl, Nat.le_of_ble_eq_true rfl⟩) (rC_gr hK hw) hl.1 ⟨Nat.zero_le _, Nat.zero_le _⟩ rfl rfl (Nat.le_of_ble_eq_true rfl) dX1_placeAfter_69 (fun r69 _ H locs h hw => ?_)
          refine lv_if_eq (tgt := 80) hx hb dX1_placeAfter_72 (by decide) (fun hc => ?_) (fun hc => ?_)
          · replace h := h.1 hc
            refine lv_iconst (v := (-1)) hx hb dX1_placeAfter_80 (by decide) ?_
            rw [hZ]
            exact rt_i () hx hb hr hlocks hw h dX1_placeAfter_81
          · replace h := h.2 hc
            refine lv_iload hx hb dX1_placeAfter_75 (lv_at hl 0 rfl) ?_
            refine lv_goto (tgt := 81) hx hb dX1_placeAfter_77 (by decide) ?_
            rw [hZ]
            exact rt_i () hx hb hr hlocks hw h dX1_placeAfter_81
        · replace h := h.2 hc
          refine lv_iconst (v := (-1)) hx hb dX1_placeAfter_53 (by decide) ?_
          rw [hZ]
          exact rt_i () hx hb hr hlocks hw h dX1_placeAfter_54
def rm_gr_areNeighbours : Room := { frames := 2, cells := 0, slots := 0, locals := 43 }
set_option maxHeartbeats 4000000 in
set_option maxRecDepth 100000 in
theorem c_gr_areNeighbours {l : Launch} {D : va_G} {cI cL cZ : ClassId} {mx my : Nat} {A : Nat → Prop} {ad : Nat → Nat} {ga_sightings th_unseen th_goals tr_visited : Nat → Int64} {ga_bestShifts gr_kinds gr_before gr_columns gr_rows pi_cells pi_facings pi_sets po_needs ro_cells ro_lengths ro_shifts tr_marks wh_places : Nat → Int32} {ga_commonLength gr_width gr_height gr_size pi_size si_sightLaw si_sightRange th_commonLength tr_size : Int32} {ga_allTimes gr_floorCells gr_clearCells gr_standCells gr_firstColumn gr_lastColumn : Int64} (x1 : Int32) (x2 : Int32) {Q : Int32 → Prop} (h : P_gr_areNeighbours gr_columns gr_rows gr_standCells x1 x2 Q) : Met l yX1_areNeighbours wsX1_areNeighbours rm_gr_areNeighbours (va_Pc [.ref (ad 1), .int x1, .int x2] (WC D cI cL cZ mx my A (wdC cI cL cZ ad ga_sightings ga_bestShifts ga_commonLength ga_allTimes gr_width gr_height gr_size gr_kinds gr_before gr_columns gr_rows gr_floorCells gr_clearCells gr_standCells gr_firstColumn gr_lastColumn pi_cells pi_facings pi_sets pi_size po_needs ro_cells ro_lengths ro_shifts si_sightLaw si_sightRange th_unseen th_goals th_commonLength tr_marks tr_visited tr_size wh_places))) (va_Qi (fun (r : Int32) (u : Unit) => Q r) (fun (u : Unit) t => PW D A (wdC cI cL cZ ad ga_sightings ga_bestShifts ga_commonLength ga_allTimes gr_width gr_height gr_size gr_kinds gr_before gr_columns gr_rows gr_floorCells gr_clearCells gr_standCells gr_firstColumn gr_lastColumn pi_cells pi_facings pi_sets pi_size po_needs ro_cells ro_lengths ro_shifts si_sightLaw si_sightRange th_unseen th_goals th_commonLength tr_marks tr_visited tr_size wh_places) t.heap) A) 0 0 A := by
  refine Met.ofW (cc := cX1_areNeighbours) (maxL := 4) (ret := (some .boolean)) (by decide) rfl ?_
  intro p e s m args below meth c s₁ B hml hv
  obtain ⟨hav, hP0, hD0, hK⟩ := hv
  have hx := B.exec
  have hb := B.bytes
  have hr := B.returns
  have hts := atoms_spec (ws := wsX1_areNeighbours) B.pre
  have hown : s.vm.findClass RX1 = some m.cls := findClass_of_methodNamed B.named
  have hlocks := B.notSynchronized
  have hB : ∀ w ∈ BIG, w ∈ wsX1_areNeighbours := fun _ h => List.mem_cons_of_mem _ h
  have hin : ∀ w ∈ wsX10, w ∈ wsX1_areNeighbours := fun w h => hB w (inB_X1 w h)
  have lk18 := hts _ (hB _ m_108)
  have lk21 := hts _ (hB _ m_109)
  obtain ⟨Z, hZ⟩ : ∃ Z : State → Prop, Z = MQ below (va_Qi (fun (r : Int32) (u : Unit) => Q r) (fun (u : Unit) t => PW D A (wdC cI cL cZ ad ga_sightings ga_bestShifts ga_commonLength ga_allTimes gr_width gr_height gr_size gr_kinds gr_before gr_columns gr_rows gr_floorCells gr_clearCells gr_standCells gr_firstColumn gr_lastColumn pi_cells pi_facings pi_sets pi_size po_needs ro_cells ro_lengths ro_shifts si_sightLaw si_sightRange th_unseen th_goals th_commonLength tr_marks tr_visited tr_size wh_places) t.heap) A) args s 0 0 A := ⟨_, rfl⟩
  rw [← hZ]
  have hw : SW D A s.heap (wdC cI cL cZ ad ga_sightings ga_bestShifts ga_commonLength ga_allTimes gr_width gr_height gr_size gr_kinds gr_before gr_columns gr_rows gr_floorCells gr_clearCells gr_standCells gr_firstColumn gr_lastColumn pi_cells pi_facings pi_sets pi_size po_needs ro_cells ro_lengths ro_shifts si_sightLaw si_sightRange th_unseen th_goals th_commonLength tr_marks tr_visited tr_size wh_places) s.heap [] := ⟨hP0, hD0, va_S.rf⟩
  clear hP0 hD0 B
  unfold P_gr_areNeighbours at h
  have he : entryFrame m args 4 = entryFrame m ([.ref (ad 1), .int x1, .int x2] : List Value).toArray 4 := by rw [hav]
  refine W.eq he ?_
  have hl := lv_entry ([.ref (ad 1), .int x1, .int x2]) (n := 4) (Nat.le_of_ble_eq_true rfl)
  rw [lg_entry_eq]
  generalize (lg_sl ([.ref (ad 1), .int x1, .int x2]) ++ List.replicate (4 - (lg_sl ([.ref (ad 1), .int x1, .int x2])).length) Slot.unset).toArray = ls at hl ⊢
  have hl : lv_has ls 4 [(0, .ref (ad 1)), (1, .int x1), (2, .int x2)] := hl
  refine lv_aload_n hx hb dX1_areNeighbours_0 rfl (lv_at hl 0 rfl) ?_
  refine gC_gr_columns hx hb hts hin hown hK hw lk18 dX1_areNeighbours_1 ?_
  refine lv_iload_n hx hb dX1_areNeighbours_4 rfl (lv_at hl 1 rfl) ?_
  refine aC_gr_columns hx hb hK hw h.1 dX1_areNeighbours_5 ?_
  replace h := h.2
  refine lv_aload_n hx hb dX1_areNeighbours_6 rfl (lv_at hl 0 rfl) ?_
  refine gC_gr_columns hx hb hts hin hown hK hw lk18 dX1_areNeighbours_7 ?_
  refine lv_iload_n hx hb dX1_areNeighbours_10 rfl (lv_at hl 2 rfl) ?_
  refine aC_gr_columns hx hb hK hw h.1 dX1_areNeighbours_11 ?_
  replace h := h.2
  refine lv_isub hx hb dX1_areNeighbours_12 ?_
  refine va_mabs hx hb (by rw [hml]; exact hl.1.symm) hown (hts _ (hB _ m_657)) (hts _ (hB _ m_422)) (hts _ (hB _ m_71)) (hts _ (hB _ m_423)) (Nat.le_of_ble_eq_true rfl) (Nat.le_of_ble_eq_true rfl) (Nat.zero_le _) (Nat.zero_le _) dX1_areNeighbours_13 ?_
  refine lv_aload_n hx hb dX1_areNeighbours_16 rfl (lv_at hl 0 rfl) ?_
  refine gC_gr_rows hx hb hts hin hown hK hw lk21 dX1_areNeighbours_17 ?_
  refine lv_iload_n hx hb dX1_areNeighbours_20 rfl (lv_at hl 1 rfl) ?_
  refine aC_gr_rows hx hb hK hw h.1 dX1_areNeighbours_21 ?_
  replace h := h.2
  refine lv_aload_n hx hb dX1_areNeighbours_22 rfl (lv_at hl 0 rfl) ?_
  refine gC_gr_rows hx hb hts hin hown hK hw lk21 dX1_areNeighbours_23 ?_
  refine lv_iload_n hx hb dX1_areNeighbours_26 rfl (lv_at hl 2 rfl) ?_
  refine aC_gr_rows hx hb hK hw h.1 dX1_areNeighbours_27 ?_
  replace h := h.2
  refine lv_isub hx hb dX1_areNeighbours_28 ?_
  refine va_mabs hx hb (by rw [hml]; exact hl.1.symm) hown (hts _ (hB _ m_657)) (hts _ (hB _ m_422)) (hts _ (hB _ m_71)) (hts _ (hB _ m_423)) (Nat.le_of_ble_eq_true rfl) (Nat.le_of_ble_eq_true rfl) (Nat.zero_le _) (Nat.zero_le _) dX1_areNeighbours_29 ?_
  refine lv_iadd hx hb dX1_areNeighbours_32 ?_
  refine lv_topi (fun x3_33 ex3_33 => ?_)
  replace h := h x3_33 ex3_33
  refine lv_istore_n (lv' := [(3, .int x3_33), (0, .ref (ad 1)), (1, .int x1), (2, .int x2)]) hx hb dX1_areNeighbours_33 rfl hl (by decide) rfl (fun ls hl => ?_)
  refine lv_iload_n hx hb dX1_areNeighbours_34 rfl (lv_at hl 0 rfl) ?_
  refine lv_iconst (v := 1) hx hb dX1_areNeighbours_35 (by decide) ?_
  refine lv_icmp_ne (tgt := 59) hx hb dX1_areNeighbours_36 (by decide) (fun hc => ?_) (fun hc => ?_)
  · replace h := h.2 hc
    refine lv_iconst (v := 0) hx hb dX1_areNeighbours_59 (by decide) ?_
    rw [hZ]
    exact rt_z () hx hb hr hlocks hw (by decide) h dX1_areNeighbours_60
  · replace h := h.1 hc
    refine lv_aload_n hx hb dX1_areNeighbours_39 rfl (lv_at hl 1 rfl) ?_
    refine lv_iload_n hx hb dX1_areNeighbours_40 rfl (lv_at hl 2 rfl) ?_
    refine cV_i (b := (ad 1)) (As := [.int x1]) (rest := []) ⟨hx, hb, hml, hown, hts⟩ hK hw (c_gr_mayStand x1 h) (cwV 1 hts (gd_RX1_76 hB) rfl rfl rfl (by decide +kernel) ⟨Nat.le_of_ble_eq_true rfl, Nat.le_of_ble_eq_true rfl⟩) (rC_gr hK hw) hl.1 ⟨Nat.zero_le _, Nat.zero_le _⟩ rfl rfl (Nat.le_of_ble_eq_true rfl) dX1_areNeighbours_41 (fun r41 _ H locs h hw => ?_)
    refine lv_if_eq (tgt := 59) hx hb dX1_areNeighbours_44 (by decide) (fun hc => ?_) (fun hc => ?_)
    · replace h := h.1 hc
      refine lv_iconst (v := 0) hx hb dX1_areNeighbours_59 (by decide) ?_
      rw [hZ]
      exact rt_z () hx hb hr hlocks hw (by decide) h dX1_areNeighbours_60
    · replace h := h.2 hc
      refine lv_aload_n hx hb dX1_areNeighbours_47 rfl (lv_at hl 1 rfl) ?_
      refine lv_iload_n hx hb dX1_areNeighbours_48 rfl (lv_at hl 3 rfl) ?_
      refine cV_i (b := (ad 1)) (As := [.int x2]) (rest := []) ⟨hx, hb, hml, hown, hts⟩ hK hw (c_gr_mayStand x2 h) (cwV 1 hts (gd_RX1_76 hB) rfl rfl rfl (by decide +kernel) ⟨Nat.le_of_ble_eq_true rfl, Nat.le_of_ble_eq_true rfl⟩) (rC_gr hK hw) hl.1 ⟨Nat.zero_le _, Nat.zero_le _⟩ rfl rfl (Nat.le_of_ble_eq_true rfl) dX1_areNeighbours_49 (fun r49 _ H locs h hw => ?_)
      refine lv_if_eq (tgt := 59) hx hb dX1_areNeighbours_52 (by decide) (fun hc => ?_) (fun hc => ?_)
      · replace h := h.1 hc
        refine lv_iconst (v := 0) hx hb dX1_areNeighbours_59 (by decide) ?_
        rw [hZ]
        exact rt_z () hx hb hr hlocks hw (by decide) h dX1_areNeighbours_60
      · replace h := h.2 hc
        refine lv_iconst (v := 1) hx hb dX1_areNeighbours_55 (by decide) ?_
        refine lv_goto (tgt := 60) hx hb dX1_areNeighbours_56 (by decide) ?_
        rw [hZ]
        exact rt_z () hx hb hr hlocks hw (by decide) h dX1_areNeighbours_60
def rm_gr_spread : Room := { frames := 0, cells := 0, slots := 0, locals := 0 }
set_option maxHeartbeats 4000000 in
set_option maxRecDepth 100000 in
theorem c_gr_spread {l : Launch} {D : va_G} {cI cL cZ : ClassId} {mx my : Nat} {A : Nat → Prop} {ad : Nat → Nat} {ga_sightings th_unseen th_goals tr_visited : Nat → Int64} {ga_bestShifts gr_kinds gr_before gr_columns gr_rows pi_cells pi_facings pi_sets po_needs ro_cells ro_lengths ro_shifts tr_marks wh_places : Nat → Int32} {ga_commonLength gr_width gr_height gr_size pi_size si_sightLaw si_sightRange th_commonLength tr_size : Int32} {ga_allTimes gr_floorCells gr_clearCells gr_standCells gr_firstColumn gr_lastColumn : Int64} (x1 : Int64) {Q : Int64 → Prop} (h : P_gr_spread gr_width gr_standCells gr_firstColumn gr_lastColumn x1 Q) : Met l yX1_spread wsX1_spread rm_gr_spread (va_Pc [.ref (ad 1), .long x1] (WC D cI cL cZ mx my A (wdC cI cL cZ ad ga_sightings ga_bestShifts ga_commonLength ga_allTimes gr_width gr_height gr_size gr_kinds gr_before gr_columns gr_rows gr_floorCells gr_clearCells gr_standCells gr_firstColumn gr_lastColumn pi_cells pi_facings pi_sets pi_size po_needs ro_cells ro_lengths ro_shifts si_sightLaw si_sightRange th_unseen th_goals th_commonLength tr_marks tr_visited tr_size wh_places))) (va_Ql (fun (r : Int64) (u : Unit) => Q r) (fun (u : Unit) t => PW D A (wdC cI cL cZ ad ga_sightings ga_bestShifts ga_commonLength ga_allTimes gr_width gr_height gr_size gr_kinds gr_before gr_columns gr_rows gr_floorCells gr_clearCells gr_standCells gr_firstColumn gr_lastColumn pi_cells pi_facings pi_sets pi_size po_needs ro_cells ro_lengths ro_shifts si_sightLaw si_sightRange th_unseen th_goals th_commonLength tr_marks tr_visited tr_size wh_places) t.heap) A) 0 0 A := by
  refine Met.ofW (cc := cX1_spread) (maxL := 5) (ret := (some .long)) (by decide) rfl ?_
  intro p e s m args below meth c s₁ B hml hv
  obtain ⟨hav, hP0, hD0, hK⟩ := hv
  have hx := B.exec
  have hb := B.bytes
  have hr := B.returns
  have hts := atoms_spec (ws := wsX1_spread) B.pre
  have hown : s.vm.findClass RX1 = some m.cls := findClass_of_methodNamed B.named
  have hlocks := B.notSynchronized
  have hB : ∀ w ∈ BIG, w ∈ wsX1_spread := fun _ h => List.mem_cons_of_mem _ h
  have hin : ∀ w ∈ wsX10, w ∈ wsX1_spread := fun w h => hB w (inB_X1 w h)
  have lk40 := hts _ (hB _ m_103)
  have lk50 := hts _ (hB _ m_113)
  have lk54 := hts _ (hB _ m_114)
  have lk63 := hts _ (hB _ m_112)
  obtain ⟨Z, hZ⟩ : ∃ Z : State → Prop, Z = MQ below (va_Ql (fun (r : Int64) (u : Unit) => Q r) (fun (u : Unit) t => PW D A (wdC cI cL cZ ad ga_sightings ga_bestShifts ga_commonLength ga_allTimes gr_width gr_height gr_size gr_kinds gr_before gr_columns gr_rows gr_floorCells gr_clearCells gr_standCells gr_firstColumn gr_lastColumn pi_cells pi_facings pi_sets pi_size po_needs ro_cells ro_lengths ro_shifts si_sightLaw si_sightRange th_unseen th_goals th_commonLength tr_marks tr_visited tr_size wh_places) t.heap) A) args s 0 0 A := ⟨_, rfl⟩
  rw [← hZ]
  have hw : SW D A s.heap (wdC cI cL cZ ad ga_sightings ga_bestShifts ga_commonLength ga_allTimes gr_width gr_height gr_size gr_kinds gr_before gr_columns gr_rows gr_floorCells gr_clearCells gr_standCells gr_firstColumn gr_lastColumn pi_cells pi_facings pi_sets pi_size po_needs ro_cells ro_lengths ro_shifts si_sightLaw si_sightRange th_unseen th_goals th_commonLength tr_marks tr_visited tr_size wh_places) s.heap [] := ⟨hP0, hD0, va_S.rf⟩
  clear hP0 hD0 B
  unfold P_gr_spread at h
  have he : entryFrame m args 5 = entryFrame m ([.ref (ad 1), .long x1] : List Value).toArray 5 := by rw [hav]
  refine W.eq he ?_
  have hl := lv_entry ([.ref (ad 1), .long x1]) (n := 5) (Nat.le_of_ble_eq_true rfl)
  rw [lg_entry_eq]
  generalize (lg_sl ([.ref (ad 1), .long x1]) ++ List.replicate (5 - (lg_sl ([.ref (ad 1), .long x1])).length) Slot.unset).toArray = ls at hl ⊢
  have hl : lv_has ls 5 [(0, .ref (ad 1)), (1, .long x1)] := hl
  refine lv_lload_n hx hb dX1_spread_0 rfl (lv_at hl 1 rfl) ?_
  refine lv_aload_n hx hb dX1_spread_1 rfl (lv_at hl 0 rfl) ?_
  refine gC_gr_lastColumn hx hb hts hin hown hK hw lk54 dX1_spread_2 ?_
  refine lv_ldc2 (v := (-1)) hx hb hown (hts _ (hB _ m_400)) dX1_spread_5 ?_
  refine lv_lxor hx hb dX1_spread_8 ?_
  refine lv_land hx hb dX1_spread_9 ?_
  refine lv_iconst (v := 1) hx hb dX1_spread_10 (by decide) ?_
  refine lv_lshl hx hb dX1_spread_11 rfl ?_
  refine lv_lload_n hx hb dX1_spread_12 rfl (lv_at hl 1 rfl) ?_
  refine lv_aload_n hx hb dX1_spread_13 rfl (lv_at hl 0 rfl) ?_
  refine gC_gr_firstColumn hx hb hts hin hown hK hw lk50 dX1_spread_14 ?_
  refine lv_ldc2 (v := (-1)) hx hb hown (hts _ (hB _ m_400)) dX1_spread_17 ?_
  refine lv_lxor hx hb dX1_spread_20 ?_
  refine lv_land hx hb dX1_spread_21 ?_
  refine lv_iconst (v := 1) hx hb dX1_spread_22 (by decide) ?_
  refine lv_lushr hx hb dX1_spread_23 rfl ?_
  refine lv_lor hx hb dX1_spread_24 ?_
  refine lv_topl (fun x3_25 ex3_25 => ?_)
  replace h := h x3_25 ex3_25
  refine lv_lstore_n (lv' := [(3, .long x3_25), (0, .ref (ad 1)), (1, .long x1)]) hx hb dX1_spread_25 rfl hl (by decide) rfl (fun ls hl => ?_)
  refine lv_lload_n hx hb dX1_spread_26 rfl (lv_at hl 2 rfl) ?_
  refine lv_lload_n hx hb dX1_spread_27 rfl (lv_at hl 0 rfl) ?_
  refine lv_lor hx hb dX1_spread_28 ?_
  refine lv_lload_n hx hb dX1_spread_29 rfl (lv_at hl 2 rfl) ?_
  refine lv_aload_n hx hb dX1_spread_30 rfl (lv_at hl 1 rfl) ?_
  refine gC_gr_width hx hb hts hin hown hK hw lk40 dX1_spread_31 ?_
  refine lv_lshl hx hb dX1_spread_34 rfl ?_
  refine lv_lor hx hb dX1_spread_35 ?_
  refine lv_lload_n hx hb dX1_spread_36 rfl (lv_at hl 2 rfl) ?_
  refine lv_aload_n hx hb dX1_spread_37 rfl (lv_at hl 1 rfl) ?_
  refine gC_gr_width hx hb hts hin hown hK hw lk40 dX1_spread_38 ?_
  refine lv_lushr hx hb dX1_spread_41 rfl ?_
  refine lv_lor hx hb dX1_spread_42 ?_
  refine lv_aload_n hx hb dX1_spread_43 rfl (lv_at hl 1 rfl) ?_
  refine gC_gr_standCells hx hb hts hin hown hK hw lk63 dX1_spread_44 ?_
  refine lv_land hx hb dX1_spread_47 ?_
  rw [hZ]
  exact rt_l () hx hb hr hlocks hw h dX1_spread_48
def rm_gr_stepsBetween : Room := { frames := 1, cells := 0, slots := 0, locals := 24 }
set_option maxHeartbeats 4000000 in
set_option maxRecDepth 100000 in
theorem c_gr_stepsBetween {l : Launch} {D : va_G} {cI cL cZ : ClassId} {mx my : Nat} {A : Nat → Prop} {ad : Nat → Nat} {ga_sightings th_unseen th_goals tr_visited : Nat → Int64} {ga_bestShifts gr_kinds gr_before gr_columns gr_rows pi_cells pi_facings pi_sets po_needs ro_cells ro_lengths ro_shifts tr_marks wh_places : Nat → Int32} {ga_commonLength gr_width gr_height gr_size pi_size si_sightLaw si_sightRange th_commonLength tr_size : Int32} {ga_allTimes gr_floorCells gr_clearCells gr_standCells gr_firstColumn gr_lastColumn : Int64} (x1 : Int32) (x2 : Int32) {Q : Int32 → Prop} (h : P_gr_stepsBetween gr_width gr_size gr_standCells gr_firstColumn gr_lastColumn x1 x2 Q) : Met l yX1_stepsBetween wsX1_stepsBetween rm_gr_stepsBetween (va_Pc [.ref (ad 1), .int x1, .int x2] (WC D cI cL cZ mx my A (wdC cI cL cZ ad ga_sightings ga_bestShifts ga_commonLength ga_allTimes gr_width gr_height gr_size gr_kinds gr_before gr_columns gr_rows gr_floorCells gr_clearCells gr_standCells gr_firstColumn gr_lastColumn pi_cells pi_facings pi_sets pi_size po_needs ro_cells ro_lengths ro_shifts si_sightLaw si_sightRange th_unseen th_goals th_commonLength tr_marks tr_visited tr_size wh_places))) (va_Qi (fun (r : Int32) (u : Unit) => Q r) (fun (u : Unit) t => PW D A (wdC cI cL cZ ad ga_sightings ga_bestShifts ga_commonLength ga_allTimes gr_width gr_height gr_size gr_kinds gr_before gr_columns gr_rows gr_floorCells gr_clearCells gr_standCells gr_firstColumn gr_lastColumn pi_cells pi_facings pi_sets pi_size po_needs ro_cells ro_lengths ro_shifts si_sightLaw si_sightRange th_unseen th_goals th_commonLength tr_marks tr_visited tr_size wh_places) t.heap) A) 0 0 A := by
  refine Met.ofW (cc := cX1_stepsBetween) (maxL := 6) (ret := (some .int)) (by decide) rfl ?_
  intro p e s m args below meth c s₁ B hml hv
  obtain ⟨hav, hP0, hD0, hK⟩ := hv
  have hx := B.exec
  have hb := B.bytes
  have hr := B.returns
  have hts := atoms_spec (ws := wsX1_stepsBetween) B.pre
  have hown : s.vm.findClass RX1 = some m.cls := findClass_of_methodNamed B.named
  have hlocks := B.notSynchronized
  have hB : ∀ w ∈ BIG, w ∈ wsX1_stepsBetween := fun _ h => List.mem_cons_of_mem _ h
  have hin : ∀ w ∈ wsX10, w ∈ wsX1_stepsBetween := fun w h => hB w (inB_X1 w h)
  have lk47 := hts _ (hB _ m_105)
  have lk63 := hts _ (hB _ m_112)
  obtain ⟨Z, hZ⟩ : ∃ Z : State → Prop, Z = MQ below (va_Qi (fun (r : Int32) (u : Unit) => Q r) (fun (u : Unit) t => PW D A (wdC cI cL cZ ad ga_sightings ga_bestShifts ga_commonLength ga_allTimes gr_width gr_height gr_size gr_kinds gr_before gr_columns gr_rows gr_floorCells gr_clearCells gr_standCells gr_firstColumn gr_lastColumn pi_cells pi_facings pi_sets pi_size po_needs ro_cells ro_lengths ro_shifts si_sightLaw si_sightRange th_unseen th_goals th_commonLength tr_marks tr_visited tr_size wh_places) t.heap) A) args s 0 0 A := ⟨_, rfl⟩
  rw [← hZ]
  have hw : SW D A s.heap (wdC cI cL cZ ad ga_sightings ga_bestShifts ga_commonLength ga_allTimes gr_width gr_height gr_size gr_kinds gr_before gr_columns gr_rows gr_floorCells gr_clearCells gr_standCells gr_firstColumn gr_lastColumn pi_cells pi_facings pi_sets pi_size po_needs ro_cells ro_lengths ro_shifts si_sightLaw si_sightRange th_unseen th_goals th_commonLength tr_marks tr_visited tr_size wh_places) s.heap [] := ⟨hP0, hD0, va_S.rf⟩
  clear hP0 hD0 B
  have J12 : ∀ (n : Nat) (x2 : Int32) (x3 : Int64) (x5 : Int32) , L_gr_stepsBetween_12 gr_width gr_size gr_standCells gr_firstColumn gr_lastColumn Q n x2 x3 x5 → ∀ (H : Heap) (locs : List Loc) (ls : Array Slot), SW D A s.heap (wdC cI cL cZ ad ga_sightings ga_bestShifts ga_commonLength ga_allTimes gr_width gr_height gr_size gr_kinds gr_before gr_columns gr_rows gr_floorCells gr_clearCells gr_standCells gr_firstColumn gr_lastColumn pi_cells pi_facings pi_sets pi_size po_needs ro_cells ro_lengths ro_shifts si_sightLaw si_sightRange th_unseen th_goals th_commonLength tr_marks tr_visited tr_size wh_places) H locs → lv_has ls 6 [(0, .ref (ad 1)), (2, .int x2), (3, .long x3), (5, .int x5)] → W p l e (headSpec wsX1_stepsBetween rm_gr_stepsBetween).room s m args below meth c H locs 0 0 Z (F0 m 12 ls []) := by
    intro  n
    induction n with
    | zero => intro x2 x3 x5 h; exact h.elim
    | succ n ih =>
    intro x2 x3 x5 h H locs ls hw hl
    unfold L_gr_stepsBetween_12 at h
    refine lv_iload hx hb dX1_stepsBetween_12 (lv_at hl 3 rfl) ?_
    refine lv_aload_n hx hb dX1_stepsBetween_14 rfl (lv_at hl 0 rfl) ?_
    refine gC_gr_size hx hb hts hin hown hK hw lk47 dX1_stepsBetween_15 ?_
    refine lv_icmp_ge (tgt := 44) hx hb dX1_stepsBetween_18 (by decide) (fun hc => ?_) (fun hc => ?_)
    · replace h := h.1 hc
      refine lv_bipush (v := (-9)) hx hb dX1_stepsBetween_44 (by decide) ?_
      rw [hZ]
      exact rt_i () hx hb hr hlocks hw h dX1_stepsBetween_46
    · replace h := h.2 hc
      refine lv_lload_n hx hb dX1_stepsBetween_21 rfl (lv_at hl 2 rfl) ?_
      refine lv_iload_n hx hb dX1_stepsBetween_22 rfl (lv_at hl 1 rfl) ?_
      refine cSN_i (host := "WatchedHalls") (As := [.long x3, .int x2]) (rest := []) ⟨hx, hb, hml, hown, hts⟩ hK hw (c_wh_holds x3 x2 h) ⟨va_cnB 2 hts (gw_X9_holds hB) rfl rfl rfl hK.2.1.2.2.1 (hts _ (hB _ m_59)) (by decide +kernel) ⟨Nat.le_of_ble_eq_true rfl, Nat.le_of_ble_eq_true rfl⟩, hts _ (hB _ m_394), trivial⟩ hl.1 ⟨Nat.zero_le _, Nat.zero_le _⟩ rfl rfl (Nat.le_of_ble_eq_true rfl) dX1_stepsBetween_23 (fun r23 _ H locs h hw => ?_)
      refine lv_if_eq (tgt := 32) hx hb dX1_stepsBetween_26 (by decide) (fun hc => ?_) (fun hc => ?_)
      · replace h := h.1 hc
        refine lv_aload_n hx hb dX1_stepsBetween_32 rfl (lv_at hl 0 rfl) ?_
        refine lv_lload_n hx hb dX1_stepsBetween_33 rfl (lv_at hl 2 rfl) ?_
        refine cV_l (b := (ad 1)) (As := [.long x3]) (rest := []) ⟨hx, hb, hml, hown, hts⟩ hK hw (c_gr_spread x3 h) (cwV 1 hts (gd_RX1_88 hB) rfl rfl rfl (by decide +kernel) ⟨Nat.le_of_ble_eq_true rfl, Nat.le_of_ble_eq_true rfl⟩) (rC_gr hK hw) hl.1 ⟨Nat.zero_le _, Nat.zero_le _⟩ rfl rfl (Nat.le_of_ble_eq_true rfl) dX1_stepsBetween_34 (fun r34 _ H locs h hw => ?_)
        refine lv_lstore_n (lv' := [(3, .long r34), (0, .ref (ad 1)), (2, .int x2), (5, .int x5)]) hx hb dX1_stepsBetween_37 rfl hl (by decide) rfl (fun ls hl => ?_)
        refine lv_iinc (v := (x5 + (1 : Int32))) (lv' := [(5, .int (x5 + (1 : Int32))), (3, .long r34), (0, .ref (ad 1)), (2, .int x2)]) hx hb dX1_stepsBetween_38 hl (k := 3) rfl rfl (by decide) rfl (fun ls hl => ?_)
        refine lv_goto (tgt := 12) hx hb dX1_stepsBetween_41 (by decide) ?_
        exact ih _ _ _ h _ _ _ hw (lv_sub hl [2, 3, 1, 0] rfl)
      · replace h := h.2 hc
        refine lv_iload hx hb dX1_stepsBetween_29 (lv_at hl 3 rfl) ?_
        rw [hZ]
        exact rt_i () hx hb hr hlocks hw h dX1_stepsBetween_31
  unfold P_gr_stepsBetween at h
  have he : entryFrame m args 6 = entryFrame m ([.ref (ad 1), .int x1, .int x2] : List Value).toArray 6 := by rw [hav]
  refine W.eq he ?_
  have hl := lv_entry ([.ref (ad 1), .int x1, .int x2]) (n := 6) (Nat.le_of_ble_eq_true rfl)
  rw [lg_entry_eq]
  generalize (lg_sl ([.ref (ad 1), .int x1, .int x2]) ++ List.replicate (6 - (lg_sl ([.ref (ad 1), .int x1, .int x2])).length) Slot.unset).toArray = ls at hl ⊢
  have hl : lv_has ls 6 [(0, .ref (ad 1)), (1, .int x1), (2, .int x2)] := hl
  refine lv_lconst (v := 1) hx hb dX1_stepsBetween_0 (by decide) ?_
  refine lv_iload_n hx hb dX1_stepsBetween_1 rfl (lv_at hl 1 rfl) ?_
  refine lv_lshl hx hb dX1_stepsBetween_2 rfl ?_
  refine lv_aload_n hx hb dX1_stepsBetween_3 rfl (lv_at hl 0 rfl) ?_
  refine gC_gr_standCells hx hb hts hin hown hK hw lk63 dX1_stepsBetween_4 ?_
  refine lv_land hx hb dX1_stepsBetween_7 ?_
  refine lv_topl (fun x3_8 ex3_8 => ?_)
  replace h := h x3_8 ex3_8
  refine lv_lstore_n (lv' := [(3, .long x3_8), (0, .ref (ad 1)), (1, .int x1), (2, .int x2)]) hx hb dX1_stepsBetween_8 rfl hl (by decide) rfl (fun ls hl => ?_)
  refine lv_iconst (v := 0) hx hb dX1_stepsBetween_9 (by decide) ?_
  refine lv_istore (lv' := [(5, .int (0 : Int32)), (3, .long x3_8), (0, .ref (ad 1)), (1, .int x1), (2, .int x2)]) hx hb dX1_stepsBetween_10 hl (by decide) rfl (fun ls hl => ?_)
  obtain ⟨n12, h⟩ := h
  exact J12  n12 _ _ _ h _ _ _ hw (lv_sub hl [2, 4, 1, 0] rfl)
def rm_gr_turnedPlace : Room := { frames := 0, cells := 0, slots := 0, locals := 0 }
set_option maxHeartbeats 4000000 in
set_option maxRecDepth 100000 in
theorem c_gr_turnedPlace {l : Launch} {D : va_G} {cI cL cZ : ClassId} {mx my : Nat} {A : Nat → Prop} {ad : Nat → Nat} {ga_sightings th_unseen th_goals tr_visited : Nat → Int64} {ga_bestShifts gr_kinds gr_before gr_columns gr_rows pi_cells pi_facings pi_sets po_needs ro_cells ro_lengths ro_shifts tr_marks wh_places : Nat → Int32} {ga_commonLength gr_width gr_height gr_size pi_size si_sightLaw si_sightRange th_commonLength tr_size : Int32} {ga_allTimes gr_floorCells gr_clearCells gr_standCells gr_firstColumn gr_lastColumn : Int64} (x1 : Int32) {Q : Int32 → Prop} (h : P_gr_turnedPlace gr_height gr_columns gr_rows x1 Q) : Met l yX1_turnedPlace wsX1_turnedPlace rm_gr_turnedPlace (va_Pc [.ref (ad 1), .int x1] (WC D cI cL cZ mx my A (wdC cI cL cZ ad ga_sightings ga_bestShifts ga_commonLength ga_allTimes gr_width gr_height gr_size gr_kinds gr_before gr_columns gr_rows gr_floorCells gr_clearCells gr_standCells gr_firstColumn gr_lastColumn pi_cells pi_facings pi_sets pi_size po_needs ro_cells ro_lengths ro_shifts si_sightLaw si_sightRange th_unseen th_goals th_commonLength tr_marks tr_visited tr_size wh_places))) (va_Qi (fun (r : Int32) (u : Unit) => Q r) (fun (u : Unit) t => PW D A (wdC cI cL cZ ad ga_sightings ga_bestShifts ga_commonLength ga_allTimes gr_width gr_height gr_size gr_kinds gr_before gr_columns gr_rows gr_floorCells gr_clearCells gr_standCells gr_firstColumn gr_lastColumn pi_cells pi_facings pi_sets pi_size po_needs ro_cells ro_lengths ro_shifts si_sightLaw si_sightRange th_unseen th_goals th_commonLength tr_marks tr_visited tr_size wh_places) t.heap) A) 0 0 A := by
  refine Met.ofW (cc := cX1_turnedPlace) (maxL := 2) (ret := (some .int)) (by decide) rfl ?_
  intro p e s m args below meth c s₁ B hml hv
  obtain ⟨hav, hP0, hD0, hK⟩ := hv
  have hx := B.exec
  have hb := B.bytes
  have hr := B.returns
  have hts := atoms_spec (ws := wsX1_turnedPlace) B.pre
  have hown : s.vm.findClass RX1 = some m.cls := findClass_of_methodNamed B.named
  have hlocks := B.notSynchronized
  have hB : ∀ w ∈ BIG, w ∈ wsX1_turnedPlace := fun _ h => List.mem_cons_of_mem _ h
  have hin : ∀ w ∈ wsX10, w ∈ wsX1_turnedPlace := fun w h => hB w (inB_X1 w h)
  have lk18 := hts _ (hB _ m_108)
  have lk21 := hts _ (hB _ m_109)
  have lk44 := hts _ (hB _ m_104)
  obtain ⟨Z, hZ⟩ : ∃ Z : State → Prop, Z = MQ below (va_Qi (fun (r : Int32) (u : Unit) => Q r) (fun (u : Unit) t => PW D A (wdC cI cL cZ ad ga_sightings ga_bestShifts ga_commonLength ga_allTimes gr_width gr_height gr_size gr_kinds gr_before gr_columns gr_rows gr_floorCells gr_clearCells gr_standCells gr_firstColumn gr_lastColumn pi_cells pi_facings pi_sets pi_size po_needs ro_cells ro_lengths ro_shifts si_sightLaw si_sightRange th_unseen th_goals th_commonLength tr_marks tr_visited tr_size wh_places) t.heap) A) args s 0 0 A := ⟨_, rfl⟩
  rw [← hZ]
  have hw : SW D A s.heap (wdC cI cL cZ ad ga_sightings ga_bestShifts ga_commonLength ga_allTimes gr_width gr_height gr_size gr_kinds gr_before gr_columns gr_rows gr_floorCells gr_clearCells gr_standCells gr_firstColumn gr_lastColumn pi_cells pi_facings pi_sets pi_size po_needs ro_cells ro_lengths ro_shifts si_sightLaw si_sightRange th_unseen th_goals th_commonLength tr_marks tr_visited tr_size wh_places) s.heap [] := ⟨hP0, hD0, va_S.rf⟩
  clear hP0 hD0 B
  unfold P_gr_turnedPlace at h
  have he : entryFrame m args 2 = entryFrame m ([.ref (ad 1), .int x1] : List Value).toArray 2 := by rw [hav]
  refine W.eq he ?_
  have hl := lv_entry ([.ref (ad 1), .int x1]) (n := 2) (Nat.le_of_ble_eq_true rfl)
  rw [lg_entry_eq]
  generalize (lg_sl ([.ref (ad 1), .int x1]) ++ List.replicate (2 - (lg_sl ([.ref (ad 1), .int x1])).length) Slot.unset).toArray = ls at hl ⊢
  have hl : lv_has ls 2 [(0, .ref (ad 1)), (1, .int x1)] := hl
  refine lv_aload_n hx hb dX1_turnedPlace_0 rfl (lv_at hl 0 rfl) ?_
  refine gC_gr_columns hx hb hts hin hown hK hw lk18 dX1_turnedPlace_1 ?_
  refine lv_iload_n hx hb dX1_turnedPlace_4 rfl (lv_at hl 1 rfl) ?_
  refine aC_gr_columns hx hb hK hw h.1 dX1_turnedPlace_5 ?_
  replace h := h.2
  refine lv_aload_n hx hb dX1_turnedPlace_6 rfl (lv_at hl 0 rfl) ?_
  refine gC_gr_height hx hb hts hin hown hK hw lk44 dX1_turnedPlace_7 ?_
  refine lv_imul hx hb dX1_turnedPlace_10 ?_
  refine lv_aload_n hx hb dX1_turnedPlace_11 rfl (lv_at hl 0 rfl) ?_
  refine gC_gr_height hx hb hts hin hown hK hw lk44 dX1_turnedPlace_12 ?_
  refine lv_iadd hx hb dX1_turnedPlace_15 ?_
  refine lv_iconst (v := 1) hx hb dX1_turnedPlace_16 (by decide) ?_
  refine lv_isub hx hb dX1_turnedPlace_17 ?_
  refine lv_aload_n hx hb dX1_turnedPlace_18 rfl (lv_at hl 0 rfl) ?_
  refine gC_gr_rows hx hb hts hin hown hK hw lk21 dX1_turnedPlace_19 ?_
  refine lv_iload_n hx hb dX1_turnedPlace_22 rfl (lv_at hl 1 rfl) ?_
  refine aC_gr_rows hx hb hK hw h.1 dX1_turnedPlace_23 ?_
  replace h := h.2
  refine lv_isub hx hb dX1_turnedPlace_24 ?_
  rw [hZ]
  exact rt_i () hx hb hr hlocks hw h dX1_turnedPlace_25
def rm_gr_mirroredPlace : Room := { frames := 0, cells := 0, slots := 0, locals := 0 }
set_option maxHeartbeats 4000000 in
set_option maxRecDepth 100000 in
theorem c_gr_mirroredPlace {l : Launch} {D : va_G} {cI cL cZ : ClassId} {mx my : Nat} {A : Nat → Prop} {ad : Nat → Nat} {ga_sightings th_unseen th_goals tr_visited : Nat → Int64} {ga_bestShifts gr_kinds gr_before gr_columns gr_rows pi_cells pi_facings pi_sets po_needs ro_cells ro_lengths ro_shifts tr_marks wh_places : Nat → Int32} {ga_commonLength gr_width gr_height gr_size pi_size si_sightLaw si_sightRange th_commonLength tr_size : Int32} {ga_allTimes gr_floorCells gr_clearCells gr_standCells gr_firstColumn gr_lastColumn : Int64} (x1 : Int32) {Q : Int32 → Prop} (h : P_gr_mirroredPlace gr_width gr_columns gr_rows x1 Q) : Met l yX1_mirroredPlace wsX1_mirroredPlace rm_gr_mirroredPlace (va_Pc [.ref (ad 1), .int x1] (WC D cI cL cZ mx my A (wdC cI cL cZ ad ga_sightings ga_bestShifts ga_commonLength ga_allTimes gr_width gr_height gr_size gr_kinds gr_before gr_columns gr_rows gr_floorCells gr_clearCells gr_standCells gr_firstColumn gr_lastColumn pi_cells pi_facings pi_sets pi_size po_needs ro_cells ro_lengths ro_shifts si_sightLaw si_sightRange th_unseen th_goals th_commonLength tr_marks tr_visited tr_size wh_places))) (va_Qi (fun (r : Int32) (u : Unit) => Q r) (fun (u : Unit) t => PW D A (wdC cI cL cZ ad ga_sightings ga_bestShifts ga_commonLength ga_allTimes gr_width gr_height gr_size gr_kinds gr_before gr_columns gr_rows gr_floorCells gr_clearCells gr_standCells gr_firstColumn gr_lastColumn pi_cells pi_facings pi_sets pi_size po_needs ro_cells ro_lengths ro_shifts si_sightLaw si_sightRange th_unseen th_goals th_commonLength tr_marks tr_visited tr_size wh_places) t.heap) A) 0 0 A := by
  refine Met.ofW (cc := cX1_mirroredPlace) (maxL := 2) (ret := (some .int)) (by decide) rfl ?_
  intro p e s m args below meth c s₁ B hml hv
  obtain ⟨hav, hP0, hD0, hK⟩ := hv
  have hx := B.exec
  have hb := B.bytes
  have hr := B.returns
  have hts := atoms_spec (ws := wsX1_mirroredPlace) B.pre
  have hown : s.vm.findClass RX1 = some m.cls := findClass_of_methodNamed B.named
  have hlocks := B.notSynchronized
  have hB : ∀ w ∈ BIG, w ∈ wsX1_mirroredPlace := fun _ h => List.mem_cons_of_mem _ h
  have hin : ∀ w ∈ wsX10, w ∈ wsX1_mirroredPlace := fun w h => hB w (inB_X1 w h)
  have lk18 := hts _ (hB _ m_108)
  have lk21 := hts _ (hB _ m_109)
  have lk40 := hts _ (hB _ m_103)
  obtain ⟨Z, hZ⟩ : ∃ Z : State → Prop, Z = MQ below (va_Qi (fun (r : Int32) (u : Unit) => Q r) (fun (u : Unit) t => PW D A (wdC cI cL cZ ad ga_sightings ga_bestShifts ga_commonLength ga_allTimes gr_width gr_height gr_size gr_kinds gr_before gr_columns gr_rows gr_floorCells gr_clearCells gr_standCells gr_firstColumn gr_lastColumn pi_cells pi_facings pi_sets pi_size po_needs ro_cells ro_lengths ro_shifts si_sightLaw si_sightRange th_unseen th_goals th_commonLength tr_marks tr_visited tr_size wh_places) t.heap) A) args s 0 0 A := ⟨_, rfl⟩
  rw [← hZ]
  have hw : SW D A s.heap (wdC cI cL cZ ad ga_sightings ga_bestShifts ga_commonLength ga_allTimes gr_width gr_height gr_size gr_kinds gr_before gr_columns gr_rows gr_floorCells gr_clearCells gr_standCells gr_firstColumn gr_lastColumn pi_cells pi_facings pi_sets pi_size po_needs ro_cells ro_lengths ro_shifts si_sightLaw si_sightRange th_unseen th_goals th_commonLength tr_marks tr_visited tr_size wh_places) s.heap [] := ⟨hP0, hD0, va_S.rf⟩
  clear hP0 hD0 B
  unfold P_gr_mirroredPlace at h
  have he : entryFrame m args 2 = entryFrame m ([.ref (ad 1), .int x1] : List Value).toArray 2 := by rw [hav]
  refine W.eq he ?_
  have hl := lv_entry ([.ref (ad 1), .int x1]) (n := 2) (Nat.le_of_ble_eq_true rfl)
  rw [lg_entry_eq]
  generalize (lg_sl ([.ref (ad 1), .int x1]) ++ List.replicate (2 - (lg_sl ([.ref (ad 1), .int x1])).length) Slot.unset).toArray = ls at hl ⊢
  have hl : lv_has ls 2 [(0, .ref (ad 1)), (1, .int x1)] := hl
  refine lv_aload_n hx hb dX1_mirroredPlace_0 rfl (lv_at hl 0 rfl) ?_
  refine gC_gr_rows hx hb hts hin hown hK hw lk21 dX1_mirroredPlace_1 ?_
  refine lv_iload_n hx hb dX1_mirroredPlace_4 rfl (lv_at hl 1 rfl) ?_
  refine aC_gr_rows hx hb hK hw h.1 dX1_mirroredPlace_5 ?_
  replace h := h.2
  refine lv_aload_n hx hb dX1_mirroredPlace_6 rfl (lv_at hl 0 rfl) ?_
  refine gC_gr_width hx hb hts hin hown hK hw lk40 dX1_mirroredPlace_7 ?_
  refine lv_imul hx hb dX1_mirroredPlace_10 ?_
  refine lv_aload_n hx hb dX1_mirroredPlace_11 rfl (lv_at hl 0 rfl) ?_
  refine gC_gr_width hx hb hts hin hown hK hw lk40 dX1_mirroredPlace_12 ?_
  refine lv_iadd hx hb dX1_mirroredPlace_15 ?_
  refine lv_iconst (v := 1) hx hb dX1_mirroredPlace_16 (by decide) ?_
  refine lv_isub hx hb dX1_mirroredPlace_17 ?_
  refine lv_aload_n hx hb dX1_mirroredPlace_18 rfl (lv_at hl 0 rfl) ?_
  refine gC_gr_columns hx hb hts hin hown hK hw lk18 dX1_mirroredPlace_19 ?_
  refine lv_iload_n hx hb dX1_mirroredPlace_22 rfl (lv_at hl 1 rfl) ?_
  refine aC_gr_columns hx hb hK hw h.1 dX1_mirroredPlace_23 ?_
  replace h := h.2
  refine lv_isub hx hb dX1_mirroredPlace_24 ?_
  rw [hZ]
  exact rt_i () hx hb hr hlocks hw h dX1_mirroredPlace_25
def rm_gr_relocate : Room := { frames := 1, cells := 0, slots := 0, locals := 48 }
set_option maxHeartbeats 4000000 in
set_option maxRecDepth 100000 in
theorem c_gr_relocate {l : Launch} {D : va_G} {cI cL cZ : ClassId} {mx my : Nat} {A : Nat → Prop} {ad : Nat → Nat} {ga_sightings th_unseen th_goals tr_visited : Nat → Int64} {ga_bestShifts gr_kinds gr_before gr_columns gr_rows pi_cells pi_facings pi_sets po_needs ro_cells ro_lengths ro_shifts tr_marks wh_places : Nat → Int32} {ga_commonLength gr_width gr_height gr_size pi_size si_sightLaw si_sightRange th_commonLength tr_size : Int32} {ga_allTimes gr_floorCells gr_clearCells gr_standCells gr_firstColumn gr_lastColumn : Int64} (x2 : Int32) (x3 : Int32) {Q : Int32 → Int32 → Int32 → Int32 → (Nat → Int32) → (Nat → Int32) → (Nat → Int32) → (Nat → Int32) → Int64 → Int64 → Int64 → Int64 → Int64 → Prop} (h : P_gr_relocate gr_width gr_height gr_size gr_kinds gr_before gr_columns gr_rows gr_floorCells gr_clearCells gr_standCells gr_firstColumn gr_lastColumn wh_places x2 x3 Q) : Met l yX1_relocate wsX1_relocate rm_gr_relocate (va_Pc [.ref (ad 1), .ref (ad 27), .int x2, .int x3] (WC D cI cL cZ mx my A (wdC cI cL cZ ad ga_sightings ga_bestShifts ga_commonLength ga_allTimes gr_width gr_height gr_size gr_kinds gr_before gr_columns gr_rows gr_floorCells gr_clearCells gr_standCells gr_firstColumn gr_lastColumn pi_cells pi_facings pi_sets pi_size po_needs ro_cells ro_lengths ro_shifts si_sightLaw si_sightRange th_unseen th_goals th_commonLength tr_marks tr_visited tr_size wh_places))) (va_Qi (fun (r : Int32) (u : Int32 × Int32 × Int32 × (Nat → Int32) × (Nat → Int32) × (Nat → Int32) × (Nat → Int32) × Int64 × Int64 × Int64 × Int64 × Int64) => Q r u.1 u.2.1 u.2.2.1 u.2.2.2.1 u.2.2.2.2.1 u.2.2.2.2.2.1 u.2.2.2.2.2.2.1 u.2.2.2.2.2.2.2.1 u.2.2.2.2.2.2.2.2.1 u.2.2.2.2.2.2.2.2.2.1 u.2.2.2.2.2.2.2.2.2.2.1 u.2.2.2.2.2.2.2.2.2.2.2) (fun (u : Int32 × Int32 × Int32 × (Nat → Int32) × (Nat → Int32) × (Nat → Int32) × (Nat → Int32) × Int64 × Int64 × Int64 × Int64 × Int64) t => PW D A (wdC cI cL cZ ad ga_sightings ga_bestShifts ga_commonLength ga_allTimes u.1 u.2.1 u.2.2.1 u.2.2.2.1 u.2.2.2.2.1 u.2.2.2.2.2.1 u.2.2.2.2.2.2.1 u.2.2.2.2.2.2.2.1 u.2.2.2.2.2.2.2.2.1 u.2.2.2.2.2.2.2.2.2.1 u.2.2.2.2.2.2.2.2.2.2.1 u.2.2.2.2.2.2.2.2.2.2.2 pi_cells pi_facings pi_sets pi_size po_needs ro_cells ro_lengths ro_shifts si_sightLaw si_sightRange th_unseen th_goals th_commonLength tr_marks tr_visited tr_size wh_places) t.heap) A) 0 0 A := by
  refine Met.ofW (cc := cX1_relocate) (maxL := 6) (ret := (some .int)) (by decide) rfl ?_
  intro p e s m args below meth c s₁ B hml hv
  obtain ⟨hav, hP0, hD0, hK⟩ := hv
  have hx := B.exec
  have hb := B.bytes
  have hr := B.returns
  have hts := atoms_spec (ws := wsX1_relocate) B.pre
  have hown : s.vm.findClass RX1 = some m.cls := findClass_of_methodNamed B.named
  have hlocks := B.notSynchronized
  have hB : ∀ w ∈ BIG, w ∈ wsX1_relocate := fun _ h => List.mem_cons_of_mem _ h
  have hin : ∀ w ∈ wsX10, w ∈ wsX1_relocate := fun w h => hB w (inB_X1 w h)
  have lk9 := hts _ (hB _ m_106)
  have lk15 := hts _ (hB _ m_107)
  have lk47 := hts _ (hB _ m_105)
  obtain ⟨Z, hZ⟩ : ∃ Z : State → Prop, Z = MQ below (va_Qi (fun (r : Int32) (u : Int32 × Int32 × Int32 × (Nat → Int32) × (Nat → Int32) × (Nat → Int32) × (Nat → Int32) × Int64 × Int64 × Int64 × Int64 × Int64) => Q r u.1 u.2.1 u.2.2.1 u.2.2.2.1 u.2.2.2.2.1 u.2.2.2.2.2.1 u.2.2.2.2.2.2.1 u.2.2.2.2.2.2.2.1 u.2.2.2.2.2.2.2.2.1 u.2.2.2.2.2.2.2.2.2.1 u.2.2.2.2.2.2.2.2.2.2.1 u.2.2.2.2.2.2.2.2.2.2.2) (fun (u : Int32 × Int32 × Int32 × (Nat → Int32) × (Nat → Int32) × (Nat → Int32) × (Nat → Int32) × Int64 × Int64 × Int64 × Int64 × Int64) t => PW D A (wdC cI cL cZ ad ga_sightings ga_bestShifts ga_commonLength ga_allTimes u.1 u.2.1 u.2.2.1 u.2.2.2.1 u.2.2.2.2.1 u.2.2.2.2.2.1 u.2.2.2.2.2.2.1 u.2.2.2.2.2.2.2.1 u.2.2.2.2.2.2.2.2.1 u.2.2.2.2.2.2.2.2.2.1 u.2.2.2.2.2.2.2.2.2.2.1 u.2.2.2.2.2.2.2.2.2.2.2 pi_cells pi_facings pi_sets pi_size po_needs ro_cells ro_lengths ro_shifts si_sightLaw si_sightRange th_unseen th_goals th_commonLength tr_marks tr_visited tr_size wh_places) t.heap) A) args s 0 0 A := ⟨_, rfl⟩
  rw [← hZ]
  have hw : SW D A s.heap (wdC cI cL cZ ad ga_sightings ga_bestShifts ga_commonLength ga_allTimes gr_width gr_height gr_size gr_kinds gr_before gr_columns gr_rows gr_floorCells gr_clearCells gr_standCells gr_firstColumn gr_lastColumn pi_cells pi_facings pi_sets pi_size po_needs ro_cells ro_lengths ro_shifts si_sightLaw si_sightRange th_unseen th_goals th_commonLength tr_marks tr_visited tr_size wh_places) s.heap [] := ⟨hP0, hD0, va_S.rf⟩
  clear hP0 hD0 B
  have J67 : ∀ (n : Nat) (gr_width : Int32) (gr_height : Int32) (gr_size : Int32) (gr_kinds : (Nat → Int32)) (gr_before : (Nat → Int32)) (gr_columns : (Nat → Int32)) (gr_rows : (Nat → Int32)) (gr_floorCells : Int64) (gr_clearCells : Int64) (gr_standCells : Int64) (gr_firstColumn : Int64) (gr_lastColumn : Int64) (x4 : Int32) (x5 : Int32) , L_gr_relocate_67 Q n gr_width gr_height gr_size gr_kinds gr_before gr_columns gr_rows gr_floorCells gr_clearCells gr_standCells gr_firstColumn gr_lastColumn x4 x5 → ∀ (H : Heap) (locs : List Loc) (ls : Array Slot), SW D A s.heap (wdC cI cL cZ ad ga_sightings ga_bestShifts ga_commonLength ga_allTimes gr_width gr_height gr_size gr_kinds gr_before gr_columns gr_rows gr_floorCells gr_clearCells gr_standCells gr_firstColumn gr_lastColumn pi_cells pi_facings pi_sets pi_size po_needs ro_cells ro_lengths ro_shifts si_sightLaw si_sightRange th_unseen th_goals th_commonLength tr_marks tr_visited tr_size wh_places) H locs → lv_has ls 6 [(0, .ref (ad 1)), (4, .int x4), (5, .int x5)] → W p l e (headSpec wsX1_relocate rm_gr_relocate).room s m args below meth c H locs 0 0 Z (F0 m 67 ls []) := by
    intro  n
    induction n with
    | zero => intro gr_width gr_height gr_size gr_kinds gr_before gr_columns gr_rows gr_floorCells gr_clearCells gr_standCells gr_firstColumn gr_lastColumn x4 x5 h; exact h.elim
    | succ n ih =>
    intro gr_width gr_height gr_size gr_kinds gr_before gr_columns gr_rows gr_floorCells gr_clearCells gr_standCells gr_firstColumn gr_lastColumn x4 x5 h H locs ls hw hl
    unfold L_gr_relocate_67 at h
    refine lv_iload hx hb dX1_relocate_67 (lv_at hl 2 rfl) ?_
    refine lv_aload_n hx hb dX1_relocate_69 rfl (lv_at hl 0 rfl) ?_
    refine gC_gr_size hx hb hts hin hown hK hw lk47 dX1_relocate_70 ?_
    refine lv_icmp_ge (tgt := 109) hx hb dX1_relocate_73 (by decide) (fun hc => ?_) (fun hc => ?_)
    · replace h := h.1 hc
      refine lv_iload hx hb dX1_relocate_109 (lv_at hl 1 rfl) ?_
      rw [hZ]
      exact rt_i (gr_width, gr_height, gr_size, gr_kinds, gr_before, gr_columns, gr_rows, gr_floorCells, gr_clearCells, gr_standCells, gr_firstColumn, gr_lastColumn) hx hb hr hlocks hw h dX1_relocate_111
    · replace h := h.2 hc
      refine lv_iload hx hb dX1_relocate_76 (lv_at hl 1 rfl) ?_
      refine lv_aload_n hx hb dX1_relocate_78 rfl (lv_at hl 0 rfl) ?_
      refine gC_gr_kinds hx hb hts hin hown hK hw lk9 dX1_relocate_79 ?_
      refine lv_iload hx hb dX1_relocate_82 (lv_at hl 2 rfl) ?_
      refine aC_gr_kinds hx hb hK hw h.1 dX1_relocate_84 ?_
      replace h := h.2
      refine lv_aload_n hx hb dX1_relocate_85 rfl (lv_at hl 0 rfl) ?_
      refine gC_gr_before hx hb hts hin hown hK hw lk15 dX1_relocate_86 ?_
      refine lv_iload hx hb dX1_relocate_89 (lv_at hl 2 rfl) ?_
      refine aC_gr_before hx hb hK hw h.1 dX1_relocate_91 ?_
      replace h := h.2
      refine lv_icmp_eq (tgt := 99) hx hb dX1_relocate_92 (by decide) (fun hc => ?_) (fun hc => ?_)
      · replace h := h.1 hc
        refine lv_iconst (v := 0) hx hb dX1_relocate_99 (by decide) ?_
        refine lv_iadd hx hb dX1_relocate_100 ?_
        refine lv_istore (lv' := [(4, .int (x4 + (0 : Int32))), (0, .ref (ad 1)), (5, .int x5)]) hx hb dX1_relocate_101 hl (by decide) rfl (fun ls hl => ?_)
        refine lv_iinc (v := (x5 + (1 : Int32))) (lv' := [(5, .int (x5 + (1 : Int32))), (4, .int (x4 + (0 : Int32))), (0, .ref (ad 1))]) hx hb dX1_relocate_103 hl (k := 2) rfl rfl (by decide) rfl (fun ls hl => ?_)
        refine lv_goto (tgt := 67) hx hb dX1_relocate_106 (by decide) ?_
        exact ih _ _ _ _ _ _ _ _ _ _ _ _ _ _ h _ _ _ hw (lv_sub hl [2, 1, 0] rfl)
      · replace h := h.2 hc
        refine lv_iconst (v := 1) hx hb dX1_relocate_95 (by decide) ?_
        refine lv_goto (tgt := 100) hx hb dX1_relocate_96 (by decide) ?_
        refine lv_iadd hx hb dX1_relocate_100 ?_
        refine lv_istore (lv' := [(4, .int (x4 + (1 : Int32))), (0, .ref (ad 1)), (5, .int x5)]) hx hb dX1_relocate_101 hl (by decide) rfl (fun ls hl => ?_)
        refine lv_iinc (v := (x5 + (1 : Int32))) (lv' := [(5, .int (x5 + (1 : Int32))), (4, .int (x4 + (1 : Int32))), (0, .ref (ad 1))]) hx hb dX1_relocate_103 hl (k := 2) rfl rfl (by decide) rfl (fun ls hl => ?_)
        refine lv_goto (tgt := 67) hx hb dX1_relocate_106 (by decide) ?_
        exact ih _ _ _ _ _ _ _ _ _ _ _ _ _ _ h _ _ _ hw (lv_sub hl [2, 1, 0] rfl)
  have J51 : ∀ (_ : True) (gr_width : Int32) (gr_height : Int32) (gr_size : Int32) (gr_kinds : (Nat → Int32)) (gr_before : (Nat → Int32)) (gr_columns : (Nat → Int32)) (gr_rows : (Nat → Int32)) (gr_floorCells : Int64) (gr_clearCells : Int64) (gr_standCells : Int64) (gr_firstColumn : Int64) (gr_lastColumn : Int64) (x2 : Int32) (x3 : Int32) , B_gr_relocate_51 Q gr_width gr_height gr_size gr_kinds gr_before gr_columns gr_rows gr_floorCells gr_clearCells gr_standCells gr_firstColumn gr_lastColumn x2 x3 → ∀ (H : Heap) (locs : List Loc) (ls : Array Slot), SW D A s.heap (wdC cI cL cZ ad ga_sightings ga_bestShifts ga_commonLength ga_allTimes gr_width gr_height gr_size gr_kinds gr_before gr_columns gr_rows gr_floorCells gr_clearCells gr_standCells gr_firstColumn gr_lastColumn pi_cells pi_facings pi_sets pi_size po_needs ro_cells ro_lengths ro_shifts si_sightLaw si_sightRange th_unseen th_goals th_commonLength tr_marks tr_visited tr_size wh_places) H locs → lv_has ls 6 [(0, .ref (ad 1)), (2, .int x2), (3, .int x3)] → W p l e (headSpec wsX1_relocate rm_gr_relocate).room s m args below meth c H locs 0 0 Z (F0 m 51 ls []) := by
    intro _  gr_width gr_height gr_size gr_kinds gr_before gr_columns gr_rows gr_floorCells gr_clearCells gr_standCells gr_firstColumn gr_lastColumn x2 x3 h H locs ls hw hl
    unfold B_gr_relocate_51 at h
    refine lv_aload_n hx hb dX1_relocate_51 rfl (lv_at hl 0 rfl) ?_
    refine lv_iload_n hx hb dX1_relocate_52 rfl (lv_at hl 1 rfl) ?_
    refine lv_iload_n hx hb dX1_relocate_53 rfl (lv_at hl 2 rfl) ?_
    refine cV_v (b := (ad 1)) (As := [.int x2, .int x3]) (rest := []) ⟨hx, hb, hml, hown, hts⟩ hK hw (c_gr_changeSides x2 x3 h) (cwV 2 hts (gd_RX1_34 hB) rfl rfl rfl (by decide +kernel) ⟨Nat.le_of_ble_eq_true rfl, Nat.le_of_ble_eq_true rfl⟩) (rC_gr hK hw) hl.1 ⟨Nat.zero_le _, Nat.zero_le _⟩ rfl rfl (Nat.le_of_ble_eq_true rfl) dX1_relocate_54 (fun u54 H locs h hw => ?_)
    obtain ⟨gr_width_54, gr_height_54, gr_size_54, gr_columns_54, gr_rows_54, gr_firstColumn_54, gr_lastColumn_54⟩ := u54
    refine lv_aload_n hx hb dX1_relocate_57 rfl (lv_at hl 0 rfl) ?_
    refine cV_v (b := (ad 1)) (As := []) (rest := []) ⟨hx, hb, hml, hown, hts⟩ hK hw (c_gr_sortKinds h) (cwV 0 hts (gd_RX1_37 hB) rfl rfl rfl (by decide +kernel) ⟨Nat.le_of_ble_eq_true rfl, Nat.le_of_ble_eq_true rfl⟩) (rC_gr hK hw) hl.1 ⟨Nat.zero_le _, Nat.zero_le _⟩ rfl rfl (Nat.le_of_ble_eq_true rfl) dX1_relocate_58 (fun u58 H locs h hw => ?_)
    obtain ⟨gr_floorCells_58, gr_clearCells_58, gr_standCells_58⟩ := u58
    refine lv_iconst (v := 0) hx hb dX1_relocate_61 (by decide) ?_
    refine lv_istore (lv' := [(4, .int (0 : Int32)), (0, .ref (ad 1)), (2, .int x2), (3, .int x3)]) hx hb dX1_relocate_62 hl (by decide) rfl (fun ls hl => ?_)
    refine lv_iconst (v := 0) hx hb dX1_relocate_64 (by decide) ?_
    refine lv_istore (lv' := [(5, .int (0 : Int32)), (4, .int (0 : Int32)), (0, .ref (ad 1)), (2, .int x2), (3, .int x3)]) hx hb dX1_relocate_65 hl (by decide) rfl (fun ls hl => ?_)
    obtain ⟨n67, h⟩ := h
    exact J67  n67 _ _ _ _ _ _ _ _ _ _ _ _ _ _ h _ _ _ hw (lv_sub hl [2, 1, 0] rfl)
  have J20 : ∀ (n : Nat) (gr_width : Int32) (gr_height : Int32) (gr_size : Int32) (gr_kinds : (Nat → Int32)) (gr_before : (Nat → Int32)) (gr_columns : (Nat → Int32)) (gr_rows : (Nat → Int32)) (gr_floorCells : Int64) (gr_clearCells : Int64) (gr_standCells : Int64) (gr_firstColumn : Int64) (gr_lastColumn : Int64) (x2 : Int32) (x3 : Int32) (x4 : Int32) , L_gr_relocate_20 wh_places Q n gr_width gr_height gr_size gr_kinds gr_before gr_columns gr_rows gr_floorCells gr_clearCells gr_standCells gr_firstColumn gr_lastColumn x2 x3 x4 → ∀ (H : Heap) (locs : List Loc) (ls : Array Slot), SW D A s.heap (wdC cI cL cZ ad ga_sightings ga_bestShifts ga_commonLength ga_allTimes gr_width gr_height gr_size gr_kinds gr_before gr_columns gr_rows gr_floorCells gr_clearCells gr_standCells gr_firstColumn gr_lastColumn pi_cells pi_facings pi_sets pi_size po_needs ro_cells ro_lengths ro_shifts si_sightLaw si_sightRange th_unseen th_goals th_commonLength tr_marks tr_visited tr_size wh_places) H locs → lv_has ls 6 [(0, .ref (ad 1)), (1, .ref (ad 27)), (2, .int x2), (3, .int x3), (4, .int x4)] → W p l e (headSpec wsX1_relocate rm_gr_relocate).room s m args below meth c H locs 0 0 Z (F0 m 20 ls []) := by
    intro  n
    induction n with
    | zero => intro gr_width gr_height gr_size gr_kinds gr_before gr_columns gr_rows gr_floorCells gr_clearCells gr_standCells gr_firstColumn gr_lastColumn x2 x3 x4 h; exact h.elim
    | succ n ih =>
    intro gr_width gr_height gr_size gr_kinds gr_before gr_columns gr_rows gr_floorCells gr_clearCells gr_standCells gr_firstColumn gr_lastColumn x2 x3 x4 h H locs ls hw hl
    unfold L_gr_relocate_20 at h
    refine lv_iload hx hb dX1_relocate_20 (lv_at hl 4 rfl) ?_
    refine lv_aload_n hx hb dX1_relocate_22 rfl (lv_at hl 0 rfl) ?_
    refine gC_gr_size hx hb hts hin hown hK hw lk47 dX1_relocate_23 ?_
    refine lv_icmp_ge (tgt := 51) hx hb dX1_relocate_26 (by decide) (fun hc => ?_) (fun hc => ?_)
    · replace h := h.1 hc
      exact J51 trivial  _ _ _ _ _ _ _ _ _ _ _ _ _ _ h _ _ _ hw (lv_sub hl [0, 2, 3] rfl)
    · replace h := h.2 hc
      refine lv_aload_n hx hb dX1_relocate_29 rfl (lv_at hl 0 rfl) ?_
      refine gC_gr_kinds hx hb hts hin hown hK hw lk9 dX1_relocate_30 ?_
      refine lv_aload_n hx hb dX1_relocate_33 rfl (lv_at hl 1 rfl) ?_
      refine lv_iload hx hb dX1_relocate_34 (lv_at hl 4 rfl) ?_
      refine aC_wh_places hx hb hK hw h.1 dX1_relocate_36 ?_
      replace h := h.2
      refine lv_aload_n hx hb dX1_relocate_37 rfl (lv_at hl 0 rfl) ?_
      refine gC_gr_before hx hb hts hin hown hK hw lk15 dX1_relocate_38 ?_
      refine lv_iload hx hb dX1_relocate_41 (lv_at hl 4 rfl) ?_
      refine aC_gr_before hx hb hK hw h.1 dX1_relocate_43 ?_
      replace h := h.2
      refine tC_gr_kinds hx hb hK hw h.1 dX1_relocate_44 (fun H locs hw => ?_)
      replace h := h.2
      refine lv_iinc (v := (x4 + (1 : Int32))) (lv' := [(4, .int (x4 + (1 : Int32))), (0, .ref (ad 1)), (1, .ref (ad 27)), (2, .int x2), (3, .int x3)]) hx hb dX1_relocate_45 hl (k := 4) rfl rfl (by decide) rfl (fun ls hl => ?_)
      refine lv_goto (tgt := 20) hx hb dX1_relocate_48 (by decide) ?_
      exact ih _ _ _ _ _ _ _ _ _ _ _ _ _ _ _ h _ _ _ hw (lv_sub hl [1, 2, 3, 4, 0] rfl)
  unfold P_gr_relocate at h
  have he : entryFrame m args 6 = entryFrame m ([.ref (ad 1), .ref (ad 27), .int x2, .int x3] : List Value).toArray 6 := by rw [hav]
  refine W.eq he ?_
  have hl := lv_entry ([.ref (ad 1), .ref (ad 27), .int x2, .int x3]) (n := 6) (Nat.le_of_ble_eq_true rfl)
  rw [lg_entry_eq]
  generalize (lg_sl ([.ref (ad 1), .ref (ad 27), .int x2, .int x3]) ++ List.replicate (6 - (lg_sl ([.ref (ad 1), .ref (ad 27), .int x2, .int x3])).length) Slot.unset).toArray = ls at hl ⊢
  have hl : lv_has ls 6 [(0, .ref (ad 1)), (1, .ref (ad 27)), (2, .int x2), (3, .int x3)] := hl
  refine lv_aload_n hx hb dX1_relocate_0 rfl (lv_at hl 0 rfl) ?_
  refine gC_gr_kinds hx hb hts hin hown hK hw lk9 dX1_relocate_1 ?_
  refine lv_iconst (v := 0) hx hb dX1_relocate_4 (by decide) ?_
  refine lv_aload_n hx hb dX1_relocate_5 rfl (lv_at hl 0 rfl) ?_
  refine gC_gr_before hx hb hts hin hown hK hw lk15 dX1_relocate_6 ?_
  refine lv_iconst (v := 0) hx hb dX1_relocate_9 (by decide) ?_
  refine lv_aload_n hx hb dX1_relocate_10 rfl (lv_at hl 0 rfl) ?_
  refine gC_gr_size hx hb hts hin hown hK hw lk47 dX1_relocate_11 ?_
  refine va_copyi hx hb (by rw [hml]; exact hl.1.symm) hown (hts _ (hB _ m_895)) (hts _ (hB _ m_897)) (hts _ (hB _ m_896)) (hts _ (hB _ m_73)) hK.1 hw.1 hw.2.1 hw.2.2 12 13 0 0 rfl rfl rfl rfl rfl (by decide) (by decide) h.1 h.2.1 h.2.2.1 (fun _ _ => rfl) (Nat.le_of_ble_eq_true rfl) (by decide +kernel) dX1_relocate_14 (fun H locs hq1 hq2 hq3 => ?_)
  replace h := h.2.2.2
  have hw : SW D A s.heap (wdC cI cL cZ ad ga_sightings ga_bestShifts ga_commonLength ga_allTimes gr_width gr_height gr_size gr_kinds (va_cpy gr_kinds gr_before (0 : Int32).toNatClampNeg (0 : Int32).toNatClampNeg gr_size.toNatClampNeg) gr_columns gr_rows gr_floorCells gr_clearCells gr_standCells gr_firstColumn gr_lastColumn pi_cells pi_facings pi_sets pi_size po_needs ro_cells ro_lengths ro_shifts si_sightLaw si_sightRange th_unseen th_goals th_commonLength tr_marks tr_visited tr_size wh_places) H locs := ⟨hq1, hq2, hq3⟩
  refine lv_iconst (v := 0) hx hb dX1_relocate_17 (by decide) ?_
  refine lv_istore (lv' := [(4, .int (0 : Int32)), (0, .ref (ad 1)), (1, .ref (ad 27)), (2, .int x2), (3, .int x3)]) hx hb dX1_relocate_18 hl (by decide) rfl (fun ls hl => ?_)
  obtain ⟨n20, h⟩ := h
  exact J20  n20 _ _ _ _ _ _ _ _ _ _ _ _ _ _ _ h _ _ _ hw (lv_sub hl [1, 2, 3, 4, 0] rfl)
