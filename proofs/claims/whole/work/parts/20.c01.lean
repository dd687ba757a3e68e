def rm_pi_isSeenFrom : Room := { frames := 3, cells := 0, slots := 0, locals := 77 }
set_option maxHeartbeats 4000000 in
set_option maxRecDepth 100000 in
theorem c_pi_isSeenFrom {l : Launch} {D : va_G} {cI cL cZ : ClassId} {mx my : Nat} {A : Nat → Prop} {ad : Nat → Nat} {ga_sightings th_unseen th_goals tr_visited : Nat → Int64} {ga_bestShifts gr_kinds gr_before gr_columns gr_rows pi_cells pi_facings pi_sets po_needs ro_cells ro_lengths ro_shifts tr_marks wh_places : Nat → Int32} {ga_commonLength gr_width gr_height gr_size pi_size si_sightLaw si_sightRange th_commonLength tr_size : Int32} {ga_allTimes gr_floorCells gr_clearCells gr_standCells gr_firstColumn gr_lastColumn : Int64} (x1 : Int32) (x2 : Int32) {Q : Int32 → Prop} (h : P_pi_isSeenFrom gr_width gr_columns gr_rows gr_floorCells gr_clearCells gr_standCells pi_cells pi_facings si_sightLaw si_sightRange x1 x2 Q) : Met l yX2_isSeenFrom wsX2_isSeenFrom rm_pi_isSeenFrom (va_Pc [.ref (ad 2), .int x1, .int x2] (WC D cI cL cZ mx my A (wdC cI cL cZ ad ga_sightings ga_bestShifts ga_commonLength ga_allTimes gr_width gr_height gr_size gr_kinds gr_before gr_columns gr_rows gr_floorCells gr_clearCells gr_standCells gr_firstColumn gr_lastColumn pi_cells pi_facings pi_sets pi_size po_needs ro_cells ro_lengths ro_shifts si_sightLaw si_sightRange th_unseen th_goals th_commonLength tr_marks tr_visited tr_size wh_places))) (va_Qi (fun (r : Int32) (u : Unit) => Q r) (fun (u : Unit) t => PW D A (wdC cI cL cZ ad ga_sightings ga_bestShifts ga_commonLength ga_allTimes gr_width gr_height gr_size gr_kinds gr_before gr_columns gr_rows gr_floorCells gr_clearCells gr_standCells gr_firstColumn gr_lastColumn pi_cells pi_facings pi_sets pi_size po_needs ro_cells ro_lengths ro_shifts si_sightLaw si_sightRange th_unseen th_goals th_commonLength tr_marks tr_visited tr_size wh_places) t.heap) A) 0 0 A := by
  refine Met.ofW (cc := cX2_isSeenFrom) (maxL := 3) (ret := (some .boolean)) (by decide) rfl ?_
  intro p e s m args below meth c s₁ B hml hv
  obtain ⟨hav, hP0, hD0, hK⟩ := hv
  have hx := B.exec
  have hb := B.bytes
  have hr := B.returns
  have hts := atoms_spec (ws := wsX2_isSeenFrom) B.pre
  have hown : s.vm.findClass RX2 = some m.cls := findClass_of_methodNamed B.named
  have hlocks := B.notSynchronized
  have hB : ∀ w ∈ BIG, w ∈ wsX2_isSeenFrom := fun _ h => List.mem_cons_of_mem _ h
  have hin : ∀ w ∈ wsX20, w ∈ wsX2_isSeenFrom := fun w h => hB w (inB_X2 w h)
  have lk9 := hts _ (hB _ m_165)
  have lk25 := hts _ (hB _ m_164)
  obtain ⟨Z, hZ⟩ : ∃ Z : State → Prop, Z = MQ below (va_Qi (fun (r : Int32) (u : Unit) => Q r) (fun (u : Unit) t => PW D A (wdC cI cL cZ ad ga_sightings ga_bestShifts ga_commonLength ga_allTimes gr_width gr_height gr_size gr_kinds gr_before gr_columns gr_rows gr_floorCells gr_clearCells gr_standCells gr_firstColumn gr_lastColumn pi_cells pi_facings pi_sets pi_size po_needs ro_cells ro_lengths ro_shifts si_sightLaw si_sightRange th_unseen th_goals th_commonLength tr_marks tr_visited tr_size wh_places) t.heap) A) args s 0 0 A := ⟨_, rfl⟩
  rw [← hZ]
  have hw : SW D A s.heap (wdC cI cL cZ ad ga_sightings ga_bestShifts ga_commonLength ga_allTimes gr_width gr_height gr_size gr_kinds gr_before gr_columns gr_rows gr_floorCells gr_clearCells gr_standCells gr_firstColumn gr_lastColumn pi_cells pi_facings pi_sets pi_size po_needs ro_cells ro_lengths ro_shifts si_sightLaw si_sightRange th_unseen th_goals th_commonLength tr_marks tr_visited tr_size wh_places) s.heap [] := ⟨hP0, hD0, va_S.rf⟩
  clear hP0 hD0 B
  unfold P_pi_isSeenFrom at h
  have he : entryFrame m args 3 = entryFrame m ([.ref (ad 2), .int x1, .int x2] : List Value).toArray 3 := by rw [hav]
  refine W.eq he ?_
  have hl := lv_entry ([.ref (ad 2), .int x1, .int x2]) (n := 3) (Nat.le_of_ble_eq_true rfl)
  rw [lg_entry_eq]
  generalize (lg_sl ([.ref (ad 2), .int x1, .int x2]) ++ List.replicate (3 - (lg_sl ([.ref (ad 2), .int x1, .int x2])).length) Slot.unset).toArray = ls at hl ⊢
  have hl : lv_has ls 3 [(0, .ref (ad 2)), (1, .int x1), (2, .int x2)] := hl
  refine lv_aload_n hx hb dX2_isSeenFrom_0 rfl (lv_at hl 0 rfl) ?_
  refine lv_iload_n hx hb dX2_isSeenFrom_1 rfl (lv_at hl 1 rfl) ?_
  refine lv_iload_n hx hb dX2_isSeenFrom_2 rfl (lv_at hl 2 rfl) ?_
  refine cV_i (b := (ad 2)) (As := [.int x1, .int x2]) (rest := []) ⟨hx, hb, hml, hown, hts⟩ hK hw (c_pi_isBehind x1 x2 h) (cwV 2 hts (gd_RX2_33 hB) rfl rfl rfl (by decide +kernel) ⟨Nat.le_of_ble_eq_true rfl, Nat.le_of_ble_eq_true rfl⟩) (rC_pi hK hw) hl.1 ⟨Nat.zero_le _, Nat.zero_le _⟩ rfl rfl (Nat.le_of_ble_eq_true rfl) dX2_isSeenFrom_3 (fun r3 _ H locs h hw => ?_)
  refine lv_if_ne (tgt := 30) hx hb dX2_isSeenFrom_6 (by decide) (fun hc => ?_) (fun hc => ?_)
  · replace h := h.2 hc
    refine lv_iconst (v := 0) hx hb dX2_isSeenFrom_30 (by decide) ?_
    rw [hZ]
    exact rt_z () hx hb hr hlocks hw (by decide) h dX2_isSeenFrom_31
  · replace h := h.1 hc
    refine lv_aload_n hx hb dX2_isSeenFrom_9 rfl (lv_at hl 0 rfl) ?_
    refine gC_pi_sight hx hb hts hin hown hK hw lk25 dX2_isSeenFrom_10 ?_
    refine lv_iload_n hx hb dX2_isSeenFrom_13 rfl (lv_at hl 2 rfl) ?_
    refine lv_aload_n hx hb dX2_isSeenFrom_14 rfl (lv_at hl 0 rfl) ?_
    refine gC_pi_cells hx hb hts hin hown hK hw lk9 dX2_isSeenFrom_15 ?_
    refine lv_iload_n hx hb dX2_isSeenFrom_18 rfl (lv_at hl 1 rfl) ?_
    refine aC_pi_cells hx hb hK hw h.1 dX2_isSeenFrom_19 ?_
    replace h := h.2
    refine cV_i (b := (ad 5)) (As := [.int x2, .int (pi_cells x1.toNatClampNeg)]) (rest := []) ⟨hx, hb, hml, hown, hts⟩ hK hw (c_si_reaches x2 (pi_cells x1.toNatClampNeg) h) (cwV 2 hts (gd_RX2_37 hB) rfl rfl rfl (by decide +kernel) ⟨Nat.le_of_ble_eq_true rfl, Nat.le_of_ble_eq_true rfl⟩) (rC_si hK hw) hl.1 ⟨Nat.zero_le _, Nat.zero_le _⟩ rfl rfl (Nat.le_of_ble_eq_true rfl) dX2_isSeenFrom_20 (fun r20 _ H locs h hw => ?_)
    refine lv_if_eq (tgt := 30) hx hb dX2_isSeenFrom_23 (by decide) (fun hc => ?_) (fun hc => ?_)
    · replace h := h.1 hc
      refine lv_iconst (v := 0) hx hb dX2_isSeenFrom_30 (by decide) ?_
      rw [hZ]
      exact rt_z () hx hb hr hlocks hw (by decide) h dX2_isSeenFrom_31
    · replace h := h.2 hc
      refine lv_iconst (v := 1) hx hb dX2_isSeenFrom_26 (by decide) ?_
      refine lv_goto (tgt := 31) hx hb dX2_isSeenFrom_27 (by decide) ?_
      rw [hZ]
      exact rt_z () hx hb hr hlocks hw (by decide) h dX2_isSeenFrom_31
def rm_ro_cellOf : Room := { frames := 0, cells := 0, slots := 0, locals := 0 }
set_option maxHeartbeats 4000000 in
set_option maxRecDepth 100000 in
theorem c_ro_cellOf {l : Launch} {D : va_G} {cI cL cZ : ClassId} {mx my : Nat} {A : Nat → Prop} {ad : Nat → Nat} {ga_sightings th_unseen th_goals tr_visited : Nat → Int64} {ga_bestShifts gr_kinds gr_before gr_columns gr_rows pi_cells pi_facings pi_sets po_needs ro_cells ro_lengths ro_shifts tr_marks wh_places : Nat → Int32} {ga_commonLength gr_width gr_height gr_size pi_size si_sightLaw si_sightRange th_commonLength tr_size : Int32} {ga_allTimes gr_floorCells gr_clearCells gr_standCells gr_firstColumn gr_lastColumn : Int64} (x1 : Int32) (x2 : Int32) {Q : Int32 → Prop} (h : P_ro_cellOf ro_cells x1 x2 Q) : Met l yX4_cellOf wsX4_cellOf rm_ro_cellOf (va_Pc [.ref (ad 4), .int x1, .int x2] (WC D cI cL cZ mx my A (wdC cI cL cZ ad ga_sightings ga_bestShifts ga_commonLength ga_allTimes gr_width gr_height gr_size gr_kinds gr_before gr_columns gr_rows gr_floorCells gr_clearCells gr_standCells gr_firstColumn gr_lastColumn pi_cells pi_facings pi_sets pi_size po_needs ro_cells ro_lengths ro_shifts si_sightLaw si_sightRange th_unseen th_goals th_commonLength tr_marks tr_visited tr_size wh_places))) (va_Qi (fun (r : Int32) (u : Unit) => Q r) (fun (u : Unit) t => PW D A (wdC cI cL cZ ad ga_sightings ga_bestShifts ga_commonLength ga_allTimes gr_width gr_height gr_size gr_kinds gr_before gr_columns gr_rows gr_floorCells gr_clearCells gr_standCells gr_firstColumn gr_lastColumn pi_cells pi_facings pi_sets pi_size po_needs ro_cells ro_lengths ro_shifts si_sightLaw si_sightRange th_unseen th_goals th_commonLength tr_marks tr_visited tr_size wh_places) t.heap) A) 0 0 A := by
  refine Met.ofW (cc := cX4_cellOf) (maxL := 3) (ret := (some .int)) (by decide) rfl ?_
  intro p e s m args below meth c s₁ B hml hv
  obtain ⟨hav, hP0, hD0, hK⟩ := hv
  have hx := B.exec
  have hb := B.bytes
  have hr := B.returns
  have hts := atoms_spec (ws := wsX4_cellOf) B.pre
  have hown : s.vm.findClass RX4 = some m.cls := findClass_of_methodNamed B.named
  have hlocks := B.notSynchronized
  have hB : ∀ w ∈ BIG, w ∈ wsX4_cellOf := fun _ h => List.mem_cons_of_mem _ h
  have hin : ∀ w ∈ wsX40, w ∈ wsX4_cellOf := fun w h => hB w (inB_X4 w h)
  have lk9 := hts _ (hB _ m_188)
  obtain ⟨Z, hZ⟩ : ∃ Z : State → Prop, Z = MQ below (va_Qi (fun (r : Int32) (u : Unit) => Q r) (fun (u : Unit) t => PW D A (wdC cI cL cZ ad ga_sightings ga_bestShifts ga_commonLength ga_allTimes gr_width gr_height gr_size gr_kinds gr_before gr_columns gr_rows gr_floorCells gr_clearCells gr_standCells gr_firstColumn gr_lastColumn pi_cells pi_facings pi_sets pi_size po_needs ro_cells ro_lengths ro_shifts si_sightLaw si_sightRange th_unseen th_goals th_commonLength tr_marks tr_visited tr_size wh_places) t.heap) A) args s 0 0 A := ⟨_, rfl⟩
  rw [← hZ]
  have hw : SW D A s.heap (wdC cI cL cZ ad ga_sightings ga_bestShifts ga_commonLength ga_allTimes gr_width gr_height gr_size gr_kinds gr_before gr_columns gr_rows gr_floorCells gr_clearCells gr_standCells gr_firstColumn gr_lastColumn pi_cells pi_facings pi_sets pi_size po_needs ro_cells ro_lengths ro_shifts si_sightLaw si_sightRange th_unseen th_goals th_commonLength tr_marks tr_visited tr_size wh_places) s.heap [] := ⟨hP0, hD0, va_S.rf⟩
  clear hP0 hD0 B
  unfold P_ro_cellOf at h
  have he : entryFrame m args 3 = entryFrame m ([.ref (ad 4), .int x1, .int x2] : List Value).toArray 3 := by rw [hav]
  refine W.eq he ?_
  have hl := lv_entry ([.ref (ad 4), .int x1, .int x2]) (n := 3) (Nat.le_of_ble_eq_true rfl)
  rw [lg_entry_eq]
  generalize (lg_sl ([.ref (ad 4), .int x1, .int x2]) ++ List.replicate (3 - (lg_sl ([.ref (ad 4), .int x1, .int x2])).length) Slot.unset).toArray = ls at hl ⊢
  have hl : lv_has ls 3 [(0, .ref (ad 4)), (1, .int x1), (2, .int x2)] := hl
  refine lv_aload_n hx hb dX4_cellOf_0 rfl (lv_at hl 0 rfl) ?_
  refine gC_ro_cells hx hb hts hin hown hK hw lk9 dX4_cellOf_1 ?_
  refine lv_iload_n hx hb dX4_cellOf_4 rfl (lv_at hl 1 rfl) ?_
  refine lv_bipush (v := 6) hx hb dX4_cellOf_5 (by decide) ?_
  refine lv_imul hx hb dX4_cellOf_7 ?_
  refine lv_iload_n hx hb dX4_cellOf_8 rfl (lv_at hl 2 rfl) ?_
  refine lv_iadd hx hb dX4_cellOf_9 ?_
  refine aC_ro_cells hx hb hK hw h.1 dX4_cellOf_10 ?_
  replace h := h.2
  rw [hZ]
  exact rt_i () hx hb hr hlocks hw h dX4_cellOf_11
def rm_ro_lengthOf : Room := { frames := 0, cells := 0, slots := 0, locals := 0 }
set_option maxHeartbeats 4000000 in
set_option maxRecDepth 100000 in
theorem c_ro_lengthOf {l : Launch} {D : va_G} {cI cL cZ : ClassId} {mx my : Nat} {A : Nat → Prop} {ad : Nat → Nat} {ga_sightings th_unseen th_goals tr_visited : Nat → Int64} {ga_bestShifts gr_kinds gr_before gr_columns gr_rows pi_cells pi_facings pi_sets po_needs ro_cells ro_lengths ro_shifts tr_marks wh_places : Nat → Int32} {ga_commonLength gr_width gr_height gr_size pi_size si_sightLaw si_sightRange th_commonLength tr_size : Int32} {ga_allTimes gr_floorCells gr_clearCells gr_standCells gr_firstColumn gr_lastColumn : Int64} (x1 : Int32) {Q : Int32 → Prop} (h : P_ro_lengthOf ro_lengths x1 Q) : Met l yX4_lengthOf wsX4_lengthOf rm_ro_lengthOf (va_Pc [.ref (ad 4), .int x1] (WC D cI cL cZ mx my A (wdC cI cL cZ ad ga_sightings ga_bestShifts ga_commonLength ga_allTimes gr_width gr_height gr_size gr_kinds gr_before gr_columns gr_rows gr_floorCells gr_clearCells gr_standCells gr_firstColumn gr_lastColumn pi_cells pi_facings pi_sets pi_size po_needs ro_cells ro_lengths ro_shifts si_sightLaw si_sightRange th_unseen th_goals th_commonLength tr_marks tr_visited tr_size wh_places))) (va_Qi (fun (r : Int32) (u : Unit) => Q r) (fun (u : Unit) t => PW D A (wdC cI cL cZ ad ga_sightings ga_bestShifts ga_commonLength ga_allTimes gr_width gr_height gr_size gr_kinds gr_before gr_columns gr_rows gr_floorCells gr_clearCells gr_standCells gr_firstColumn gr_lastColumn pi_cells pi_facings pi_sets pi_size po_needs ro_cells ro_lengths ro_shifts si_sightLaw si_sightRange th_unseen th_goals th_commonLength tr_marks tr_visited tr_size wh_places) t.heap) A) 0 0 A := by
  refine Met.ofW (cc := cX4_lengthOf) (maxL := 2) (ret := (some .int)) (by decide) rfl ?_
  intro p e s m args below meth c s₁ B hml hv
  obtain ⟨hav, hP0, hD0, hK⟩ := hv
  have hx := B.exec
  have hb := B.bytes
  have hr := B.returns
  have hts := atoms_spec (ws := wsX4_lengthOf) B.pre
  have hown : s.vm.findClass RX4 = some m.cls := findClass_of_methodNamed B.named
  have hlocks := B.notSynchronized
  have hB : ∀ w ∈ BIG, w ∈ wsX4_lengthOf := fun _ h => List.mem_cons_of_mem _ h
  have hin : ∀ w ∈ wsX40, w ∈ wsX4_lengthOf := fun w h => hB w (inB_X4 w h)
  have lk15 := hts _ (hB _ m_189)
  obtain ⟨Z, hZ⟩ : ∃ Z : State → Prop, Z = MQ below (va_Qi (fun (r : Int32) (u : Unit) => Q r) (fun (u : Unit) t => PW D A (wdC cI cL cZ ad ga_sightings ga_bestShifts ga_commonLength ga_allTimes gr_width gr_height gr_size gr_kinds gr_before gr_columns gr_rows gr_floorCells gr_clearCells gr_standCells gr_firstColumn gr_lastColumn pi_cells pi_facings pi_sets pi_size po_needs ro_cells ro_lengths ro_shifts si_sightLaw si_sightRange th_unseen th_goals th_commonLength tr_marks tr_visited tr_size wh_places) t.heap) A) args s 0 0 A := ⟨_, rfl⟩
  rw [← hZ]
  have hw : SW D A s.heap (wdC cI cL cZ ad ga_sightings ga_bestShifts ga_commonLength ga_allTimes gr_width gr_height gr_size gr_kinds gr_before gr_columns gr_rows gr_floorCells gr_clearCells gr_standCells gr_firstColumn gr_lastColumn pi_cells pi_facings pi_sets pi_size po_needs ro_cells ro_lengths ro_shifts si_sightLaw si_sightRange th_unseen th_goals th_commonLength tr_marks tr_visited tr_size wh_places) s.heap [] := ⟨hP0, hD0, va_S.rf⟩
  clear hP0 hD0 B
  unfold P_ro_lengthOf at h
  have he : entryFrame m args 2 = entryFrame m ([.ref (ad 4), .int x1] : List Value).toArray 2 := by rw [hav]
  refine W.eq he ?_
  have hl := lv_entry ([.ref (ad 4), .int x1]) (n := 2) (Nat.le_of_ble_eq_true rfl)
  rw [lg_entry_eq]
  generalize (lg_sl ([.ref (ad 4), .int x1]) ++ List.replicate (2 - (lg_sl ([.ref (ad 4), .int x1])).length) Slot.unset).toArray = ls at hl ⊢
  have hl : lv_has ls 2 [(0, .ref (ad 4)), (1, .int x1)] := hl
  refine lv_aload_n hx hb dX4_lengthOf_0 rfl (lv_at hl 0 rfl) ?_
  refine gC_ro_lengths hx hb hts hin hown hK hw lk15 dX4_lengthOf_1 ?_
  refine lv_iload_n hx hb dX4_lengthOf_4 rfl (lv_at hl 1 rfl) ?_
  refine aC_ro_lengths hx hb hK hw h.1 dX4_lengthOf_5 ?_
  replace h := h.2
  rw [hZ]
  exact rt_i () hx hb hr hlocks hw h dX4_lengthOf_6
def rm_ga_sightingsOf : Room := { frames := 4, cells := 0, slots := 0, locals := 99 }
set_option maxHeartbeats 4000000 in
set_option maxRecDepth 100000 in
theorem c_ga_sightingsOf {l : Launch} {D : va_G} {cI cL cZ : ClassId} {mx my : Nat} {A : Nat → Prop} {ad : Nat → Nat} {ga_sightings th_unseen th_goals tr_visited : Nat → Int64} {ga_bestShifts gr_kinds gr_before gr_columns gr_rows pi_cells pi_facings pi_sets po_needs ro_cells ro_lengths ro_shifts tr_marks wh_places : Nat → Int32} {ga_commonLength gr_width gr_height gr_size pi_size si_sightLaw si_sightRange th_commonLength tr_size : Int32} {ga_allTimes gr_floorCells gr_clearCells gr_standCells gr_firstColumn gr_lastColumn : Int64} (x1 : Int32) (x2 : Int32) {Q : Int64 → Prop} (h : P_ga_sightingsOf ga_commonLength gr_width gr_columns gr_rows gr_floorCells gr_clearCells gr_standCells pi_cells pi_facings ro_cells ro_lengths si_sightLaw si_sightRange x1 x2 Q) : Met l yX0_sightingsOf wsX0_sightingsOf rm_ga_sightingsOf (va_Pc [.ref (ad 0), .int x1, .int x2] (WC D cI cL cZ mx my A (wdC cI cL cZ ad ga_sightings ga_bestShifts ga_commonLength ga_allTimes gr_width gr_height gr_size gr_kinds gr_before gr_columns gr_rows gr_floorCells gr_clearCells gr_standCells gr_firstColumn gr_lastColumn pi_cells pi_facings pi_sets pi_size po_needs ro_cells ro_lengths ro_shifts si_sightLaw si_sightRange th_unseen th_goals th_commonLength tr_marks tr_visited tr_size wh_places))) (va_Ql (fun (r : Int64) (u : Unit) => Q r) (fun (u : Unit) t => PW D A (wdC cI cL cZ ad ga_sightings ga_bestShifts ga_commonLength ga_allTimes gr_width gr_height gr_size gr_kinds gr_before gr_columns gr_rows gr_floorCells gr_clearCells gr_standCells gr_firstColumn gr_lastColumn pi_cells pi_facings pi_sets pi_size po_needs ro_cells ro_lengths ro_shifts si_sightLaw si_sightRange th_unseen th_goals th_commonLength tr_marks tr_visited tr_size wh_places) t.heap) A) 0 0 A := by
  refine Met.ofW (cc := cX0_sightingsOf) (maxL := 8) (ret := (some .long)) (by decide) rfl ?_
  intro p e s m args below meth c s₁ B hml hv
  obtain ⟨hav, hP0, hD0, hK⟩ := hv
  have hx := B.exec
  have hb := B.bytes
  have hr := B.returns
  have hts := atoms_spec (ws := wsX0_sightingsOf) B.pre
  have hown : s.vm.findClass RX0 = some m.cls := findClass_of_methodNamed B.named
  have hlocks := B.notSynchronized
  have hB : ∀ w ∈ BIG, w ∈ wsX0_sightingsOf := fun _ h => List.mem_cons_of_mem _ h
  have hin : ∀ w ∈ wsX00, w ∈ wsX0_sightingsOf := fun w h => hB w (inB_X0 w h)
  have lk19 := hts _ (hB _ m_220)
  have lk23 := hts _ (hB _ m_221)
  have lk33 := hts _ (hB _ m_224)
  obtain ⟨Z, hZ⟩ : ∃ Z : State → Prop, Z = MQ below (va_Ql (fun (r : Int64) (u : Unit) => Q r) (fun (u : Unit) t => PW D A (wdC cI cL cZ ad ga_sightings ga_bestShifts ga_commonLength ga_allTimes gr_width gr_height gr_size gr_kinds gr_before gr_columns gr_rows gr_floorCells gr_clearCells gr_standCells gr_firstColumn gr_lastColumn pi_cells pi_facings pi_sets pi_size po_needs ro_cells ro_lengths ro_shifts si_sightLaw si_sightRange th_unseen th_goals th_commonLength tr_marks tr_visited tr_size wh_places) t.heap) A) args s 0 0 A := ⟨_, rfl⟩
  rw [← hZ]
  have hw : SW D A s.heap (wdC cI cL cZ ad ga_sightings ga_bestShifts ga_commonLength ga_allTimes gr_width gr_height gr_size gr_kinds gr_before gr_columns gr_rows gr_floorCells gr_clearCells gr_standCells gr_firstColumn gr_lastColumn pi_cells pi_facings pi_sets pi_size po_needs ro_cells ro_lengths ro_shifts si_sightLaw si_sightRange th_unseen th_goals th_commonLength tr_marks tr_visited tr_size wh_places) s.heap [] := ⟨hP0, hD0, va_S.rf⟩
  clear hP0 hD0 B
  have J47 : ∀ (k15 : Int32 → Int32 → Int64 → Int32 → Int32 → Prop) (hk15 : ∀ (x1 : Int32) (x2 : Int32) (x3 : Int64) (x5 : Int32) (x6 : Int32) , k15 x1 x2 x3 x5 x6 → ∀ (H : Heap) (locs : List Loc) (ls : Array Slot), SW D A s.heap (wdC cI cL cZ ad ga_sightings ga_bestShifts ga_commonLength ga_allTimes gr_width gr_height gr_size gr_kinds gr_before gr_columns gr_rows gr_floorCells gr_clearCells gr_standCells gr_firstColumn gr_lastColumn pi_cells pi_facings pi_sets pi_size po_needs ro_cells ro_lengths ro_shifts si_sightLaw si_sightRange th_unseen th_goals th_commonLength tr_marks tr_visited tr_size wh_places) H locs → lv_has ls 8 [(0, .ref (ad 0)), (1, .int x1), (2, .int x2), (3, .long x3), (5, .int x5), (6, .int x6)] → W p l e (headSpec wsX0_sightingsOf rm_ga_sightingsOf).room s m args below meth c H locs 0 0 Z (F0 m 15 ls [])) (n : Nat) (x1 : Int32) (x2 : Int32) (x3 : Int64) (x5 : Int32) (x6 : Int32) (x7 : Int32) , L_ga_sightingsOf_47 ga_commonLength gr_width gr_columns gr_rows gr_floorCells gr_clearCells gr_standCells pi_cells pi_facings ro_cells si_sightLaw si_sightRange Q k15 n x1 x2 x3 x5 x6 x7 → ∀ (H : Heap) (locs : List Loc) (ls : Array Slot), SW D A s.heap (wdC cI cL cZ ad ga_sightings ga_bestShifts ga_commonLength ga_allTimes gr_width gr_height gr_size gr_kinds gr_before gr_columns gr_rows gr_floorCells gr_clearCells gr_standCells gr_firstColumn gr_lastColumn pi_cells pi_facings pi_sets pi_size po_needs ro_cells ro_lengths ro_shifts si_sightLaw si_sightRange th_unseen th_goals th_commonLength tr_marks tr_visited tr_size wh_places) H locs → lv_has ls 8 [(0, .ref (ad 0)), (1, .int x1), (2, .int x2), (3, .long x3), (5, .int x5), (6, .int x6), (7, .int x7)] → W p l e (headSpec wsX0_sightingsOf rm_ga_sightingsOf).room s m args below meth c H locs 0 0 Z (F0 m 47 ls []) := by
    intro k15 hk15 n
    induction n with
    | zero => intro x1 x2 x3 x5 x6 x7 h; exact h.elim
    | succ n ih =>
    intro x1 x2 x3 x5 x6 x7 h H locs ls hw hl
    unfold L_ga_sightingsOf_47 at h
    refine lv_iload hx hb dX0_sightingsOf_47 (lv_at hl 6 rfl) ?_
    refine lv_aload_n hx hb dX0_sightingsOf_49 rfl (lv_at hl 0 rfl) ?_
    refine gC_ga_commonLength hx hb hts hin hown hK hw lk33 dX0_sightingsOf_50 ?_
    refine lv_icmp_ge (tgt := 73) hx hb dX0_sightingsOf_53 (by decide) (fun hc => ?_) (fun hc => ?_)
    · replace h := h.1 hc
      refine lv_iinc (v := (x6 + (1 : Int32))) (lv' := [(6, .int (x6 + (1 : Int32))), (0, .ref (ad 0)), (1, .int x1), (2, .int x2), (3, .long x3), (5, .int x5), (7, .int x7)]) hx hb dX0_sightingsOf_73 hl (k := 5) rfl rfl (by decide) rfl (fun ls hl => ?_)
      refine lv_goto (tgt := 15) hx hb dX0_sightingsOf_76 (by decide) ?_
      exact hk15 _ _ _ _ _ h _ _ _ hw (lv_sub hl [1, 2, 3, 4, 5, 0] rfl)
    · replace h := h.2 hc
      refine lv_lload_n hx hb dX0_sightingsOf_56 rfl (lv_at hl 3 rfl) ?_
      refine lv_lconst (v := 1) hx hb dX0_sightingsOf_57 (by decide) ?_
      refine lv_iload hx hb dX0_sightingsOf_58 (lv_at hl 6 rfl) ?_
      refine lv_lshl hx hb dX0_sightingsOf_60 rfl ?_
      refine lv_lor hx hb dX0_sightingsOf_61 ?_
      refine lv_topl (fun x3_62 ex3_62 => ?_)
      replace h := h x3_62 ex3_62
      refine lv_lstore_n (lv' := [(3, .long x3_62), (0, .ref (ad 0)), (1, .int x1), (2, .int x2), (5, .int x5), (6, .int x6), (7, .int x7)]) hx hb dX0_sightingsOf_62 rfl hl (by decide) rfl (fun ls hl => ?_)
      refine lv_iload hx hb dX0_sightingsOf_63 (lv_at hl 6 rfl) ?_
      refine lv_iload hx hb dX0_sightingsOf_65 (lv_at hl 4 rfl) ?_
      refine lv_iadd hx hb dX0_sightingsOf_67 ?_
      refine lv_topi (fun x7_68 ex7_68 => ?_)
      replace h := h x7_68 ex7_68
      refine lv_istore (lv' := [(7, .int x7_68), (3, .long x3_62), (0, .ref (ad 0)), (1, .int x1), (2, .int x2), (5, .int x5), (6, .int x6)]) hx hb dX0_sightingsOf_68 hl (by decide) rfl (fun ls hl => ?_)
      refine lv_goto (tgt := 47) hx hb dX0_sightingsOf_70 (by decide) ?_
      exact ih _ _ _ _ _ _ h _ _ _ hw (lv_sub hl [2, 3, 4, 1, 5, 6, 0] rfl)
  have J15 : ∀ (n : Nat) (x1 : Int32) (x2 : Int32) (x3 : Int64) (x5 : Int32) (x6 : Int32) , L_ga_sightingsOf_15 ga_commonLength gr_width gr_columns gr_rows gr_floorCells gr_clearCells gr_standCells pi_cells pi_facings ro_cells si_sightLaw si_sightRange Q n x1 x2 x3 x5 x6 → ∀ (H : Heap) (locs : List Loc) (ls : Array Slot), SW D A s.heap (wdC cI cL cZ ad ga_sightings ga_bestShifts ga_commonLength ga_allTimes gr_width gr_height gr_size gr_kinds gr_before gr_columns gr_rows gr_floorCells gr_clearCells gr_standCells gr_firstColumn gr_lastColumn pi_cells pi_facings pi_sets pi_size po_needs ro_cells ro_lengths ro_shifts si_sightLaw si_sightRange th_unseen th_goals th_commonLength tr_marks tr_visited tr_size wh_places) H locs → lv_has ls 8 [(0, .ref (ad 0)), (1, .int x1), (2, .int x2), (3, .long x3), (5, .int x5), (6, .int x6)] → W p l e (headSpec wsX0_sightingsOf rm_ga_sightingsOf).room s m args below meth c H locs 0 0 Z (F0 m 15 ls []) := by
    intro  n
    induction n with
    | zero => intro x1 x2 x3 x5 x6 h; exact h.elim
    | succ n ih =>
    intro x1 x2 x3 x5 x6 h H locs ls hw hl
    unfold L_ga_sightingsOf_15 at h
    refine lv_iload hx hb dX0_sightingsOf_15 (lv_at hl 5 rfl) ?_
    refine lv_iload hx hb dX0_sightingsOf_17 (lv_at hl 4 rfl) ?_
    refine lv_icmp_ge (tgt := 79) hx hb dX0_sightingsOf_19 (by decide) (fun hc => ?_) (fun hc => ?_)
    · replace h := h.1 hc
      refine lv_lload_n hx hb dX0_sightingsOf_79 rfl (lv_at hl 3 rfl) ?_
      rw [hZ]
      exact rt_l () hx hb hr hlocks hw h dX0_sightingsOf_80
    · replace h := h.2 hc
      refine lv_aload_n hx hb dX0_sightingsOf_22 rfl (lv_at hl 0 rfl) ?_
      refine gC_ga_pictures hx hb hts hin hown hK hw lk19 dX0_sightingsOf_23 ?_
      refine lv_iload_n hx hb dX0_sightingsOf_26 rfl (lv_at hl 1 rfl) ?_
      refine lv_aload_n hx hb dX0_sightingsOf_27 rfl (lv_at hl 0 rfl) ?_
      refine gC_ga_rounds hx hb hts hin hown hK hw lk23 dX0_sightingsOf_28 ?_
      refine lv_iload_n hx hb dX0_sightingsOf_31 rfl (lv_at hl 2 rfl) ?_
      refine lv_iload hx hb dX0_sightingsOf_32 (lv_at hl 5 rfl) ?_
      refine cV_i (b := (ad 4)) (As := [.int x2, .int x6]) (rest := [.int x1, .ref (ad 2)]) ⟨hx, hb, hml, hown, hts⟩ hK hw (c_ro_cellOf x2 x6 h) (cwV 2 hts (gd_RX0_53 hB) rfl rfl rfl (by decide +kernel) ⟨Nat.le_of_ble_eq_true rfl, Nat.le_of_ble_eq_true rfl⟩) (rC_ro hK hw) hl.1 ⟨Nat.zero_le _, Nat.zero_le _⟩ rfl rfl (Nat.le_of_ble_eq_true rfl) dX0_sightingsOf_34 (fun r34 _ H locs h hw => ?_)
      refine cV_i (b := (ad 2)) (As := [.int x1, .int r34]) (rest := []) ⟨hx, hb, hml, hown, hts⟩ hK hw (c_pi_isSeenFrom x1 r34 h) (cwV 2 hts (gd_RX0_57 hB) rfl rfl rfl (by decide +kernel) ⟨Nat.le_of_ble_eq_true rfl, Nat.le_of_ble_eq_true rfl⟩) (rC_pi hK hw) hl.1 ⟨Nat.zero_le _, Nat.zero_le _⟩ rfl rfl (Nat.le_of_ble_eq_true rfl) dX0_sightingsOf_37 (fun r37 _ H locs h hw => ?_)
      refine lv_if_eq (tgt := 73) hx hb dX0_sightingsOf_40 (by decide) (fun hc => ?_) (fun hc => ?_)
      · replace h := h.1 hc
        refine lv_iinc (v := (x6 + (1 : Int32))) (lv' := [(6, .int (x6 + (1 : Int32))), (0, .ref (ad 0)), (1, .int x1), (2, .int x2), (3, .long x3), (5, .int x5)]) hx hb dX0_sightingsOf_73 hl (k := 5) rfl rfl (by decide) rfl (fun ls hl => ?_)
        refine lv_goto (tgt := 15) hx hb dX0_sightingsOf_76 (by decide) ?_
        exact ih _ _ _ _ _ h _ _ _ hw (lv_sub hl [1, 2, 3, 4, 5, 0] rfl)
      · replace h := h.2 hc
        refine lv_iload hx hb dX0_sightingsOf_43 (lv_at hl 5 rfl) ?_
        refine lv_istore (lv' := [(7, .int x6), (0, .ref (ad 0)), (1, .int x1), (2, .int x2), (3, .long x3), (5, .int x5), (6, .int x6)]) hx hb dX0_sightingsOf_45 hl (by decide) rfl (fun ls hl => ?_)
        obtain ⟨n47, h⟩ := h
        exact J47 (L_ga_sightingsOf_15 ga_commonLength gr_width gr_columns gr_rows gr_floorCells gr_clearCells gr_standCells pi_cells pi_facings ro_cells si_sightLaw si_sightRange Q n) ih n47 _ _ _ _ _ _ h _ _ _ hw (lv_sub hl [1, 2, 3, 4, 5, 6, 0] rfl)
  unfold P_ga_sightingsOf at h
  have he : entryFrame m args 8 = entryFrame m ([.ref (ad 0), .int x1, .int x2] : List Value).toArray 8 := by rw [hav]
  refine W.eq he ?_
  have hl := lv_entry ([.ref (ad 0), .int x1, .int x2]) (n := 8) (Nat.le_of_ble_eq_true rfl)
  rw [lg_entry_eq]
  generalize (lg_sl ([.ref (ad 0), .int x1, .int x2]) ++ List.replicate (8 - (lg_sl ([.ref (ad 0), .int x1, .int x2])).length) Slot.unset).toArray = ls at hl ⊢
  have hl : lv_has ls 8 [(0, .ref (ad 0)), (1, .int x1), (2, .int x2)] := hl
  refine lv_lconst (v := 0) hx hb dX0_sightingsOf_0 (by decide) ?_
  refine lv_lstore_n (lv' := [(3, .long (0 : Int64)), (0, .ref (ad 0)), (1, .int x1), (2, .int x2)]) hx hb dX0_sightingsOf_1 rfl hl (by decide) rfl (fun ls hl => ?_)
  refine lv_aload_n hx hb dX0_sightingsOf_2 rfl (lv_at hl 1 rfl) ?_
  refine gC_ga_rounds hx hb hts hin hown hK hw lk23 dX0_sightingsOf_3 ?_
  refine lv_iload_n hx hb dX0_sightingsOf_6 rfl (lv_at hl 3 rfl) ?_
  refine cV_i (b := (ad 4)) (As := [.int x2]) (rest := []) ⟨hx, hb, hml, hown, hts⟩ hK hw (c_ro_lengthOf x2 h) (cwV 1 hts (gd_RX0_49 hB) rfl rfl rfl (by decide +kernel) ⟨Nat.le_of_ble_eq_true rfl, Nat.le_of_ble_eq_true rfl⟩) (rC_ro hK hw) hl.1 ⟨Nat.zero_le _, Nat.zero_le _⟩ rfl rfl (Nat.le_of_ble_eq_true rfl) dX0_sightingsOf_7 (fun r7 _ H locs h hw => ?_)
  refine lv_istore (lv' := [(5, .int r7), (3, .long (0 : Int64)), (0, .ref (ad 0)), (1, .int x1), (2, .int x2)]) hx hb dX0_sightingsOf_10 hl (by decide) rfl (fun ls hl => ?_)
  refine lv_iconst (v := 0) hx hb dX0_sightingsOf_12 (by decide) ?_
  refine lv_istore (lv' := [(6, .int (0 : Int32)), (5, .int r7), (3, .long (0 : Int64)), (0, .ref (ad 0)), (1, .int x1), (2, .int x2)]) hx hb dX0_sightingsOf_13 hl (by decide) rfl (fun ls hl => ?_)
  obtain ⟨n15, h⟩ := h
  exact J15  n15 _ _ _ _ _ h _ _ _ hw (lv_sub hl [3, 4, 5, 2, 1, 0] rfl)
def rm_pi_size : Room := { frames := 0, cells := 0, slots := 0, locals := 0 }
set_option maxHeartbeats 4000000 in
set_option maxRecDepth 100000 in
theorem c_pi_size {l : Launch} {D : va_G} {cI cL cZ : ClassId} {mx my : Nat} {A : Nat → Prop} {ad : Nat → Nat} {ga_sightings th_unseen th_goals tr_visited : Nat → Int64} {ga_bestShifts gr_kinds gr_before gr_columns gr_rows pi_cells pi_facings pi_sets po_needs ro_cells ro_lengths ro_shifts tr_marks wh_places : Nat → Int32} {ga_commonLength gr_width gr_height gr_size pi_size si_sightLaw si_sightRange th_commonLength tr_size : Int32} {ga_allTimes gr_floorCells gr_clearCells gr_standCells gr_firstColumn gr_lastColumn : Int64}  {Q : Int32 → Prop} (h : P_pi_size pi_size Q) : Met l yX2_size wsX2_size rm_pi_size (va_Pc [.ref (ad 2)] (WC D cI cL cZ mx my A (wdC cI cL cZ ad ga_sightings ga_bestShifts ga_commonLength ga_allTimes gr_width gr_height gr_size gr_kinds gr_before gr_columns gr_rows gr_floorCells gr_clearCells gr_standCells gr_firstColumn gr_lastColumn pi_cells pi_facings pi_sets pi_size po_needs ro_cells ro_lengths ro_shifts si_sightLaw si_sightRange th_unseen th_goals th_commonLength tr_marks tr_visited tr_size wh_places))) (va_Qi (fun (r : Int32) (u : Unit) => Q r) (fun (u : Unit) t => PW D A (wdC cI cL cZ ad ga_sightings ga_bestShifts ga_commonLength ga_allTimes gr_width gr_height gr_size gr_kinds gr_before gr_columns gr_rows gr_floorCells gr_clearCells gr_standCells gr_firstColumn gr_lastColumn pi_cells pi_facings pi_sets pi_size po_needs ro_cells ro_lengths ro_shifts si_sightLaw si_sightRange th_unseen th_goals th_commonLength tr_marks tr_visited tr_size wh_places) t.heap) A) 0 0 A := by
  refine Met.ofW (cc := cX2_size) (maxL := 1) (ret := (some .int)) (by decide) rfl ?_
  intro p e s m args below meth c s₁ B hml hv
  obtain ⟨hav, hP0, hD0, hK⟩ := hv
  have hx := B.exec
  have hb := B.bytes
  have hr := B.returns
  have hts := atoms_spec (ws := wsX2_size) B.pre
  have hown : s.vm.findClass RX2 = some m.cls := findClass_of_methodNamed B.named
  have hlocks := B.notSynchronized
  have hB : ∀ w ∈ BIG, w ∈ wsX2_size := fun _ h => List.mem_cons_of_mem _ h
  have hin : ∀ w ∈ wsX20, w ∈ wsX2_size := fun w h => hB w (inB_X2 w h)
  have lk29 := hts _ (hB _ m_168)
  obtain ⟨Z, hZ⟩ : ∃ Z : State → Prop, Z = MQ below (va_Qi (fun (r : Int32) (u : Unit) => Q r) (fun (u : Unit) t => PW D A (wdC cI cL cZ ad ga_sightings ga_bestShifts ga_commonLength ga_allTimes gr_width gr_height gr_size gr_kinds gr_before gr_columns gr_rows gr_floorCells gr_clearCells gr_standCells gr_firstColumn gr_lastColumn pi_cells pi_facings pi_sets pi_size po_needs ro_cells ro_lengths ro_shifts si_sightLaw si_sightRange th_unseen th_goals th_commonLength tr_marks tr_visited tr_size wh_places) t.heap) A) args s 0 0 A := ⟨_, rfl⟩
  rw [← hZ]
  have hw : SW D A s.heap (wdC cI cL cZ ad ga_sightings ga_bestShifts ga_commonLength ga_allTimes gr_width gr_height gr_size gr_kinds gr_before gr_columns gr_rows gr_floorCells gr_clearCells gr_standCells gr_firstColumn gr_lastColumn pi_cells pi_facings pi_sets pi_size po_needs ro_cells ro_lengths ro_shifts si_sightLaw si_sightRange th_unseen th_goals th_commonLength tr_marks tr_visited tr_size wh_places) s.heap [] := ⟨hP0, hD0, va_S.rf⟩
  clear hP0 hD0 B
  unfold P_pi_size at h
  have he : entryFrame m args 1 = entryFrame m ([.ref (ad 2)] : List Value).toArray 1 := by rw [hav]
  refine W.eq he ?_
  have hl := lv_entry ([.ref (ad 2)]) (n := 1) (Nat.le_of_ble_eq_true rfl)
  rw [lg_entry_eq]
  generalize (lg_sl ([.ref (ad 2)]) ++ List.replicate (1 - (lg_sl ([.ref (ad 2)])).length) Slot.unset).toArray = ls at hl ⊢
  have hl : lv_has ls 1 [(0, .ref (ad 2))] := hl
  refine lv_aload_n hx hb dX2_size_0 rfl (lv_at hl 0 rfl) ?_
  refine gC_pi_size hx hb hts hin hown hK hw lk29 dX2_size_1 ?_
  rw [hZ]
  exact rt_i () hx hb hr hlocks hw h dX2_size_4
def rm_ro_allDivide : Room := { frames := 0, cells := 0, slots := 0, locals := 0 }
set_option maxHeartbeats 4000000 in
set_option maxRecDepth 100000 in
theorem c_ro_allDivide {l : Launch} {D : va_G} {cI cL cZ : ClassId} {mx my : Nat} {A : Nat → Prop} {ad : Nat → Nat} {ga_sightings th_unseen th_goals tr_visited : Nat → Int64} {ga_bestShifts gr_kinds gr_before gr_columns gr_rows pi_cells pi_facings pi_sets po_needs ro_cells ro_lengths ro_shifts tr_marks wh_places : Nat → Int32} {ga_commonLength gr_width gr_height gr_size pi_size si_sightLaw si_sightRange th_commonLength tr_size : Int32} {ga_allTimes gr_floorCells gr_clearCells gr_standCells gr_firstColumn gr_lastColumn : Int64} (x1 : Int32) {Q : Int32 → Prop} (h : P_ro_allDivide ro_lengths x1 Q) : Met l yX4_allDivide wsX4_allDivide rm_ro_allDivide (va_Pc [.ref (ad 4), .int x1] (WC D cI cL cZ mx my A (wdC cI cL cZ ad ga_sightings ga_bestShifts ga_commonLength ga_allTimes gr_width gr_height gr_size gr_kinds gr_before gr_columns gr_rows gr_floorCells gr_clearCells gr_standCells gr_firstColumn gr_lastColumn pi_cells pi_facings pi_sets pi_size po_needs ro_cells ro_lengths ro_shifts si_sightLaw si_sightRange th_unseen th_goals th_commonLength tr_marks tr_visited tr_size wh_places))) (va_Qi (fun (r : Int32) (u : Unit) => Q r) (fun (u : Unit) t => PW D A (wdC cI cL cZ ad ga_sightings ga_bestShifts ga_commonLength ga_allTimes gr_width gr_height gr_size gr_kinds gr_before gr_columns gr_rows gr_floorCells gr_clearCells gr_standCells gr_firstColumn gr_lastColumn pi_cells pi_facings pi_sets pi_size po_needs ro_cells ro_lengths ro_shifts si_sightLaw si_sightRange th_unseen th_goals th_commonLength tr_marks tr_visited tr_size wh_places) t.heap) A) 0 0 A := by
  refine Met.ofW (cc := cX4_allDivide) (maxL := 3) (ret := (some .boolean)) (by decide) rfl ?_
  intro p e s m args below meth c s₁ B hml hv
  obtain ⟨hav, hP0, hD0, hK⟩ := hv
  have hx := B.exec
  have hb := B.bytes
  have hr := B.returns
  have hts := atoms_spec (ws := wsX4_allDivide) B.pre
  have hown : s.vm.findClass RX4 = some m.cls := findClass_of_methodNamed B.named
  have hlocks := B.notSynchronized
  have hB : ∀ w ∈ BIG, w ∈ wsX4_allDivide := fun _ h => List.mem_cons_of_mem _ h
  have hin : ∀ w ∈ wsX40, w ∈ wsX4_allDivide := fun w h => hB w (inB_X4 w h)
  have lk15 := hts _ (hB _ m_189)
  obtain ⟨Z, hZ⟩ : ∃ Z : State → Prop, Z = MQ below (va_Qi (fun (r : Int32) (u : Unit) => Q r) (fun (u : Unit) t => PW D A (wdC cI cL cZ ad ga_sightings ga_bestShifts ga_commonLength ga_allTimes gr_width gr_height gr_size gr_kinds gr_before gr_columns gr_rows gr_floorCells gr_clearCells gr_standCells gr_firstColumn gr_lastColumn pi_cells pi_facings pi_sets pi_size po_needs ro_cells ro_lengths ro_shifts si_sightLaw si_sightRange th_unseen th_goals th_commonLength tr_marks tr_visited tr_size wh_places) t.heap) A) args s 0 0 A := ⟨_, rfl⟩
  rw [← hZ]
  have hw : SW D A s.heap (wdC cI cL cZ ad ga_sightings ga_bestShifts ga_commonLength ga_allTimes gr_width gr_height gr_size gr_kinds gr_before gr_columns gr_rows gr_floorCells gr_clearCells gr_standCells gr_firstColumn gr_lastColumn pi_cells pi_facings pi_sets pi_size po_needs ro_cells ro_lengths ro_shifts si_sightLaw si_sightRange th_unseen th_goals th_commonLength tr_marks tr_visited tr_size wh_places) s.heap [] := ⟨hP0, hD0, va_S.rf⟩
  clear hP0 hD0 B
  have J2 : ∀ (n : Nat) (x1 : Int32) (x2 : Int32) , L_ro_allDivide_2 ro_lengths Q n x1 x2 → ∀ (H : Heap) (locs : List Loc) (ls : Array Slot), SW D A s.heap (wdC cI cL cZ ad ga_sightings ga_bestShifts ga_commonLength ga_allTimes gr_width gr_height gr_size gr_kinds gr_before gr_columns gr_rows gr_floorCells gr_clearCells gr_standCells gr_firstColumn gr_lastColumn pi_cells pi_facings pi_sets pi_size po_needs ro_cells ro_lengths ro_shifts si_sightLaw si_sightRange th_unseen th_goals th_commonLength tr_marks tr_visited tr_size wh_places) H locs → lv_has ls 3 [(0, .ref (ad 4)), (1, .int x1), (2, .int x2)] → W p l e (headSpec wsX4_allDivide rm_ro_allDivide).room s m args below meth c H locs 0 0 Z (F0 m 2 ls []) := by
    intro  n
    induction n with
    | zero => intro x1 x2 h; exact h.elim
    | succ n ih =>
    intro x1 x2 h H locs ls hw hl
    unfold L_ro_allDivide_2 at h
    refine lv_iload_n hx hb dX4_allDivide_2 rfl (lv_at hl 2 rfl) ?_
    refine lv_iconst (v := 4) hx hb dX4_allDivide_3 (by decide) ?_
    refine lv_icmp_ge (tgt := 35) hx hb dX4_allDivide_4 (by decide) (fun hc => ?_) (fun hc => ?_)
    · replace h := h.1 hc
      refine lv_iconst (v := 1) hx hb dX4_allDivide_35 (by decide) ?_
      rw [hZ]
      exact rt_z () hx hb hr hlocks hw (by decide) h dX4_allDivide_36
    · replace h := h.2 hc
      refine lv_aload_n hx hb dX4_allDivide_7 rfl (lv_at hl 0 rfl) ?_
      refine gC_ro_lengths hx hb hts hin hown hK hw lk15 dX4_allDivide_8 ?_
      refine lv_iload_n hx hb dX4_allDivide_11 rfl (lv_at hl 2 rfl) ?_
      refine aC_ro_lengths hx hb hK hw h.1 dX4_allDivide_12 ?_
      replace h := h.2
      refine lv_if_le (tgt := 29) hx hb dX4_allDivide_13 (by decide) (fun hc => ?_) (fun hc => ?_)
      · replace h := h.1 hc
        refine lv_iinc (v := (x2 + (1 : Int32))) (lv' := [(2, .int (x2 + (1 : Int32))), (0, .ref (ad 4)), (1, .int x1)]) hx hb dX4_allDivide_29 hl (k := 2) rfl rfl (by decide) rfl (fun ls hl => ?_)
        refine lv_goto (tgt := 2) hx hb dX4_allDivide_32 (by decide) ?_
        exact ih _ _ h _ _ _ hw (lv_sub hl [1, 2, 0] rfl)
      · replace h := h.2 hc
        refine lv_iload_n hx hb dX4_allDivide_16 rfl (lv_at hl 1 rfl) ?_
        refine lv_aload_n hx hb dX4_allDivide_17 rfl (lv_at hl 0 rfl) ?_
        refine gC_ro_lengths hx hb hts hin hown hK hw lk15 dX4_allDivide_18 ?_
        refine lv_iload_n hx hb dX4_allDivide_21 rfl (lv_at hl 2 rfl) ?_
        refine aC_ro_lengths hx hb hK hw h.1 dX4_allDivide_22 ?_
        replace h := h.2
        refine lv_irem hx hb dX4_allDivide_23 h.1 ?_
        replace h := h.2
        refine lv_if_eq (tgt := 29) hx hb dX4_allDivide_24 (by decide) (fun hc => ?_) (fun hc => ?_)
        · replace h := h.1 hc
          refine lv_iinc (v := (x2 + (1 : Int32))) (lv' := [(2, .int (x2 + (1 : Int32))), (0, .ref (ad 4)), (1, .int x1)]) hx hb dX4_allDivide_29 hl (k := 2) rfl rfl (by decide) rfl (fun ls hl => ?_)
          refine lv_goto (tgt := 2) hx hb dX4_allDivide_32 (by decide) ?_
          exact ih _ _ h _ _ _ hw (lv_sub hl [1, 2, 0] rfl)
        · replace h := h.2 hc
          refine lv_iconst (v := 0) hx hb dX4_allDivide_27 (by decide) ?_
          rw [hZ]
          exact rt_z () hx hb hr hlocks hw (by decide) h dX4_allDivide_28
  unfold P_ro_allDivide at h
  have he : entryFrame m args 3 = entryFrame m ([.ref (ad 4), .int x1] : List Value).toArray 3 := by rw [hav]
  refine W.eq he ?_
  have hl := lv_entry ([.ref (ad 4), .int x1]) (n := 3) (Nat.le_of_ble_eq_true rfl)
  rw [lg_entry_eq]
  generalize (lg_sl ([.ref (ad 4), .int x1]) ++ List.replicate (3 - (lg_sl ([.ref (ad 4), .int x1])).length) Slot.unset).toArray = ls at hl ⊢
  have hl : lv_has ls 3 [(0, .ref (ad 4)), (1, .int x1)] := hl
  refine lv_iconst (v := 0) hx hb dX4_allDivide_0 (by decide) ?_
  refine lv_istore_n (lv' := [(2, .int (0 : Int32)), (0, .ref (ad 4)), (1, .int x1)]) hx hb dX4_allDivide_1 rfl hl (by decide) rfl (fun ls hl => ?_)
  obtain ⟨n2, h⟩ := h
  exact J2  n2 _ _ h _ _ _ hw (lv_sub hl [1, 2, 0] rfl)
def rm_ro_commonLength : Room := { frames := 1, cells := 0, slots := 0, locals := 22 }
set_option maxHeartbeats 4000000 in
set_option maxRecDepth 100000 in
theorem c_ro_commonLength {l : Launch} {D : va_G} {cI cL cZ : ClassId} {mx my : Nat} {A : Nat → Prop} {ad : Nat → Nat} {ga_sightings th_unseen th_goals tr_visited : Nat → Int64} {ga_bestShifts gr_kinds gr_before gr_columns gr_rows pi_cells pi_facings pi_sets po_needs ro_cells ro_lengths ro_shifts tr_marks wh_places : Nat → Int32} {ga_commonLength gr_width gr_height gr_size pi_size si_sightLaw si_sightRange th_commonLength tr_size : Int32} {ga_allTimes gr_floorCells gr_clearCells gr_standCells gr_firstColumn gr_lastColumn : Int64}  {Q : Int32 → Prop} (h : P_ro_commonLength ro_lengths Q) : Met l yX4_commonLength wsX4_commonLength rm_ro_commonLength (va_Pc [.ref (ad 4)] (WC D cI cL cZ mx my A (wdC cI cL cZ ad ga_sightings ga_bestShifts ga_commonLength ga_allTimes gr_width gr_height gr_size gr_kinds gr_before gr_columns gr_rows gr_floorCells gr_clearCells gr_standCells gr_firstColumn gr_lastColumn pi_cells pi_facings pi_sets pi_size po_needs ro_cells ro_lengths ro_shifts si_sightLaw si_sightRange th_unseen th_goals th_commonLength tr_marks tr_visited tr_size wh_places))) (va_Qi (fun (r : Int32) (u : Unit) => Q r) (fun (u : Unit) t => PW D A (wdC cI cL cZ ad ga_sightings ga_bestShifts ga_commonLength ga_allTimes gr_width gr_height gr_size gr_kinds gr_before gr_columns gr_rows gr_floorCells gr_clearCells gr_standCells gr_firstColumn gr_lastColumn pi_cells pi_facings pi_sets pi_size po_needs ro_cells ro_lengths ro_shifts si_sightLaw si_sightRange th_unseen th_goals th_commonLength tr_marks tr_visited tr_size wh_places) t.heap) A) 0 0 A := by
  refine Met.ofW (cc := cX4_commonLength) (maxL := 2) (ret := (some .int)) (by decide) rfl ?_
  intro p e s m args below meth c s₁ B hml hv
  obtain ⟨hav, hP0, hD0, hK⟩ := hv
  have hx := B.exec
  have hb := B.bytes
  have hr := B.returns
  have hts := atoms_spec (ws := wsX4_commonLength) B.pre
  have hown : s.vm.findClass RX4 = some m.cls := findClass_of_methodNamed B.named
  have hlocks := B.notSynchronized
  have hB : ∀ w ∈ BIG, w ∈ wsX4_commonLength := fun _ h => List.mem_cons_of_mem _ h
  obtain ⟨Z, hZ⟩ : ∃ Z : State → Prop, Z = MQ below (va_Qi (fun (r : Int32) (u : Unit) => Q r) (fun (u : Unit) t => PW D A (wdC cI cL cZ ad ga_sightings ga_bestShifts ga_commonLength ga_allTimes gr_width gr_height gr_size gr_kinds gr_before gr_columns gr_rows gr_floorCells gr_clearCells gr_standCells gr_firstColumn gr_lastColumn pi_cells pi_facings pi_sets pi_size po_needs ro_cells ro_lengths ro_shifts si_sightLaw si_sightRange th_unseen th_goals th_commonLength tr_marks tr_visited tr_size wh_places) t.heap) A) args s 0 0 A := ⟨_, rfl⟩
  rw [← hZ]
  have hw : SW D A s.heap (wdC cI cL cZ ad ga_sightings ga_bestShifts ga_commonLength ga_allTimes gr_width gr_height gr_size gr_kinds gr_before gr_columns gr_rows gr_floorCells gr_clearCells gr_standCells gr_firstColumn gr_lastColumn pi_cells pi_facings pi_sets pi_size po_needs ro_cells ro_lengths ro_shifts si_sightLaw si_sightRange th_unseen th_goals th_commonLength tr_marks tr_visited tr_size wh_places) s.heap [] := ⟨hP0, hD0, va_S.rf⟩
  clear hP0 hD0 B
  have J2 : ∀ (n : Nat) (x1 : Int32) , L_ro_commonLength_2 ro_lengths Q n x1 → ∀ (H : Heap) (locs : List Loc) (ls : Array Slot), SW D A s.heap (wdC cI cL cZ ad ga_sightings ga_bestShifts ga_commonLength ga_allTimes gr_width gr_height gr_size gr_kinds gr_before gr_columns gr_rows gr_floorCells gr_clearCells gr_standCells gr_firstColumn gr_lastColumn pi_cells pi_facings pi_sets pi_size po_needs ro_cells ro_lengths ro_shifts si_sightLaw si_sightRange th_unseen th_goals th_commonLength tr_marks tr_visited tr_size wh_places) H locs → lv_has ls 2 [(0, .ref (ad 4)), (1, .int x1)] → W p l e (headSpec wsX4_commonLength rm_ro_commonLength).room s m args below meth c H locs 0 0 Z (F0 m 2 ls []) := by
    intro  n
    induction n with
    | zero => intro x1 h; exact h.elim
    | succ n ih =>
    intro x1 h H locs ls hw hl
    unfold L_ro_commonLength_2 at h
    refine lv_iload_n hx hb dX4_commonLength_2 rfl (lv_at hl 1 rfl) ?_
    refine lv_bipush (v := 60) hx hb dX4_commonLength_3 (by decide) ?_
    refine lv_icmp_ge (tgt := 24) hx hb dX4_commonLength_5 (by decide) (fun hc => ?_) (fun hc => ?_)
    · replace h := h.1 hc
      refine lv_bipush (v := 60) hx hb dX4_commonLength_24 (by decide) ?_
      rw [hZ]
      exact rt_i () hx hb hr hlocks hw h dX4_commonLength_26
    · replace h := h.2 hc
      refine lv_aload_n hx hb dX4_commonLength_8 rfl (lv_at hl 0 rfl) ?_
      refine lv_iload_n hx hb dX4_commonLength_9 rfl (lv_at hl 1 rfl) ?_
      refine cV_i (b := (ad 4)) (As := [.int x1]) (rest := []) ⟨hx, hb, hml, hown, hts⟩ hK hw (c_ro_allDivide x1 h) (cwV 1 hts (gd_RX4_31 hB) rfl rfl rfl (by decide +kernel) ⟨Nat.le_of_ble_eq_true rfl, Nat.le_of_ble_eq_true rfl⟩) (rC_ro hK hw) hl.1 ⟨Nat.zero_le _, Nat.zero_le _⟩ rfl rfl (Nat.le_of_ble_eq_true rfl) dX4_commonLength_10 (fun r10 _ H locs h hw => ?_)
      refine lv_if_eq (tgt := 18) hx hb dX4_commonLength_13 (by decide) (fun hc => ?_) (fun hc => ?_)
      · replace h := h.1 hc
        refine lv_iinc (v := (x1 + (1 : Int32))) (lv' := [(1, .int (x1 + (1 : Int32))), (0, .ref (ad 4))]) hx hb dX4_commonLength_18 hl (k := 1) rfl rfl (by decide) rfl (fun ls hl => ?_)
        refine lv_goto (tgt := 2) hx hb dX4_commonLength_21 (by decide) ?_
        exact ih _ h _ _ _ hw (lv_sub hl [1, 0] rfl)
      · replace h := h.2 hc
        refine lv_iload_n hx hb dX4_commonLength_16 rfl (lv_at hl 1 rfl) ?_
        rw [hZ]
        exact rt_i () hx hb hr hlocks hw h dX4_commonLength_17
  unfold P_ro_commonLength at h
  have he : entryFrame m args 2 = entryFrame m ([.ref (ad 4)] : List Value).toArray 2 := by rw [hav]
  refine W.eq he ?_
  have hl := lv_entry ([.ref (ad 4)]) (n := 2) (Nat.le_of_ble_eq_true rfl)
  rw [lg_entry_eq]
  generalize (lg_sl ([.ref (ad 4)]) ++ List.replicate (2 - (lg_sl ([.ref (ad 4)])).length) Slot.unset).toArray = ls at hl ⊢
  have hl : lv_has ls 2 [(0, .ref (ad 4))] := hl
  refine lv_iconst (v := 1) hx hb dX4_commonLength_0 (by decide) ?_
  refine lv_istore_n (lv' := [(1, .int (1 : Int32)), (0, .ref (ad 4))]) hx hb dX4_commonLength_1 rfl hl (by decide) rfl (fun ls hl => ?_)
  obtain ⟨n2, h⟩ := h
  exact J2  n2 _ h _ _ _ hw (lv_sub hl [1, 0] rfl)
def rm_ga_survey : Room := { frames := 5, cells := 0, slots := 0, locals := 126 }
set_option maxHeartbeats 4000000 in
set_option maxRecDepth 100000 in
theorem c_ga_survey {l : Launch} {D : va_G} {cI cL cZ : ClassId} {mx my : Nat} {A : Nat → Prop} {ad : Nat → Nat} {ga_sightings th_unseen th_goals tr_visited : Nat → Int64} {ga_bestShifts gr_kinds gr_before gr_columns gr_rows pi_cells pi_facings pi_sets po_needs ro_cells ro_lengths ro_shifts tr_marks wh_places : Nat → Int32} {ga_commonLength gr_width gr_height gr_size pi_size si_sightLaw si_sightRange th_commonLength tr_size : Int32} {ga_allTimes gr_floorCells gr_clearCells gr_standCells gr_firstColumn gr_lastColumn : Int64}  {Q : (Nat → Int64) → Int32 → Int64 → Prop} (h : P_ga_survey ga_sightings ga_commonLength ga_allTimes gr_width gr_columns gr_rows gr_floorCells gr_clearCells gr_standCells pi_cells pi_facings pi_size ro_cells ro_lengths si_sightLaw si_sightRange Q) : Met l yX0_survey wsX0_survey rm_ga_survey (va_Pc [.ref (ad 0)] (WC D cI cL cZ mx my A (wdC cI cL cZ ad ga_sightings ga_bestShifts ga_commonLength ga_allTimes gr_width gr_height gr_size gr_kinds gr_before gr_columns gr_rows gr_floorCells gr_clearCells gr_standCells gr_firstColumn gr_lastColumn pi_cells pi_facings pi_sets pi_size po_needs ro_cells ro_lengths ro_shifts si_sightLaw si_sightRange th_unseen th_goals th_commonLength tr_marks tr_visited tr_size wh_places))) (va_Qv (fun (u : (Nat → Int64) × Int32 × Int64) => Q u.1 u.2.1 u.2.2) (fun (u : (Nat → Int64) × Int32 × Int64) t => PW D A (wdC cI cL cZ ad u.1 ga_bestShifts u.2.1 u.2.2 gr_width gr_height gr_size gr_kinds gr_before gr_columns gr_rows gr_floorCells gr_clearCells gr_standCells gr_firstColumn gr_lastColumn pi_cells pi_facings pi_sets pi_size po_needs ro_cells ro_lengths ro_shifts si_sightLaw si_sightRange th_unseen th_goals th_commonLength tr_marks tr_visited tr_size wh_places) t.heap) A) 0 0 A := by
  refine Met.ofW (cc := cX0_survey) (maxL := 3) (ret := none) (by decide) rfl ?_
  intro p e s m args below meth c s₁ B hml hv
  obtain ⟨hav, hP0, hD0, hK⟩ := hv
  have hx := B.exec
  have hb := B.bytes
  have hr := B.returns
  have hts := atoms_spec (ws := wsX0_survey) B.pre
  have hown : s.vm.findClass RX0 = some m.cls := findClass_of_methodNamed B.named
  have hlocks := B.notSynchronized
  have hB : ∀ w ∈ BIG, w ∈ wsX0_survey := fun _ h => List.mem_cons_of_mem _ h
  have hin : ∀ w ∈ wsX00, w ∈ wsX0_survey := fun w h => hB w (inB_X0 w h)
  have lk9 := hts _ (hB _ m_222)
  have lk19 := hts _ (hB _ m_220)
  have lk23 := hts _ (hB _ m_221)
  have lk33 := hts _ (hB _ m_224)
  have lk36 := hts _ (hB _ m_225)
  obtain ⟨Z, hZ⟩ : ∃ Z : State → Prop, Z = MQ below (va_Qv (fun (u : (Nat → Int64) × Int32 × Int64) => Q u.1 u.2.1 u.2.2) (fun (u : (Nat → Int64) × Int32 × Int64) t => PW D A (wdC cI cL cZ ad u.1 ga_bestShifts u.2.1 u.2.2 gr_width gr_height gr_size gr_kinds gr_before gr_columns gr_rows gr_floorCells gr_clearCells gr_standCells gr_firstColumn gr_lastColumn pi_cells pi_facings pi_sets pi_size po_needs ro_cells ro_lengths ro_shifts si_sightLaw si_sightRange th_unseen th_goals th_commonLength tr_marks tr_visited tr_size wh_places) t.heap) A) args s 0 0 A := ⟨_, rfl⟩
  rw [← hZ]
  have hw : SW D A s.heap (wdC cI cL cZ ad ga_sightings ga_bestShifts ga_commonLength ga_allTimes gr_width gr_height gr_size gr_kinds gr_before gr_columns gr_rows gr_floorCells gr_clearCells gr_standCells gr_firstColumn gr_lastColumn pi_cells pi_facings pi_sets pi_size po_needs ro_cells ro_lengths ro_shifts si_sightLaw si_sightRange th_unseen th_goals th_commonLength tr_marks tr_visited tr_size wh_places) s.heap [] := ⟨hP0, hD0, va_S.rf⟩
  clear hP0 hD0 B
  have J38 : ∀ (k25 : (Nat → Int64) → Int32 → Int64 → Int32 → Prop) (hk25 : ∀ (ga_sightings : (Nat → Int64)) (ga_commonLength : Int32) (ga_allTimes : Int64) (x1 : Int32) , k25 ga_sightings ga_commonLength ga_allTimes x1 → ∀ (H : Heap) (locs : List Loc) (ls : Array Slot), SW D A s.heap (wdC cI cL cZ ad ga_sightings ga_bestShifts ga_commonLength ga_allTimes gr_width gr_height gr_size gr_kinds gr_before gr_columns gr_rows gr_floorCells gr_clearCells gr_standCells gr_firstColumn gr_lastColumn pi_cells pi_facings pi_sets pi_size po_needs ro_cells ro_lengths ro_shifts si_sightLaw si_sightRange th_unseen th_goals th_commonLength tr_marks tr_visited tr_size wh_places) H locs → lv_has ls 3 [(0, .ref (ad 0)), (1, .int x1)] → W p l e (headSpec wsX0_survey rm_ga_survey).room s m args below meth c H locs 0 0 Z (F0 m 25 ls [])) (n : Nat) (ga_sightings : (Nat → Int64)) (ga_commonLength : Int32) (ga_allTimes : Int64) (x1 : Int32) (x2 : Int32) , L_ga_survey_38 gr_width gr_columns gr_rows gr_floorCells gr_clearCells gr_standCells pi_cells pi_facings pi_size ro_cells ro_lengths si_sightLaw si_sightRange Q k25 n ga_sightings ga_commonLength ga_allTimes x1 x2 → ∀ (H : Heap) (locs : List Loc) (ls : Array Slot), SW D A s.heap (wdC cI cL cZ ad ga_sightings ga_bestShifts ga_commonLength ga_allTimes gr_width gr_height gr_size gr_kinds gr_before gr_columns gr_rows gr_floorCells gr_clearCells gr_standCells gr_firstColumn gr_lastColumn pi_cells pi_facings pi_sets pi_size po_needs ro_cells ro_lengths ro_shifts si_sightLaw si_sightRange th_unseen th_goals th_commonLength tr_marks tr_visited tr_size wh_places) H locs → lv_has ls 3 [(0, .ref (ad 0)), (1, .int x1), (2, .int x2)] → W p l e (headSpec wsX0_survey rm_ga_survey).room s m args below meth c H locs 0 0 Z (F0 m 38 ls []) := by
    intro k25 hk25 n
    induction n with
    | zero => intro ga_sightings ga_commonLength ga_allTimes x1 x2 h; exact h.elim
    | succ n ih =>
    intro ga_sightings ga_commonLength ga_allTimes x1 x2 h H locs ls hw hl
    unfold L_ga_survey_38 at h
    refine lv_iload_n hx hb dX0_survey_38 rfl (lv_at hl 2 rfl) ?_
    refine lv_iconst (v := 4) hx hb dX0_survey_39 (by decide) ?_
    refine lv_icmp_ge (tgt := 65) hx hb dX0_survey_40 (by decide) (fun hc => ?_) (fun hc => ?_)
    · replace h := h.1 hc
      refine lv_iinc (v := (x1 + (1 : Int32))) (lv' := [(1, .int (x1 + (1 : Int32))), (0, .ref (ad 0)), (2, .int x2)]) hx hb dX0_survey_65 hl (k := 1) rfl rfl (by decide) rfl (fun ls hl => ?_)
      refine lv_goto (tgt := 25) hx hb dX0_survey_68 (by decide) ?_
      exact hk25 _ _ _ _ h _ _ _ hw (lv_sub hl [1, 0] rfl)
    · replace h := h.2 hc
      refine lv_aload_n hx hb dX0_survey_43 rfl (lv_at hl 0 rfl) ?_
      refine gC_ga_sightings hx hb hts hin hown hK hw lk9 dX0_survey_44 ?_
      refine lv_iload_n hx hb dX0_survey_47 rfl (lv_at hl 1 rfl) ?_
      refine lv_iconst (v := 4) hx hb dX0_survey_48 (by decide) ?_
      refine lv_imul hx hb dX0_survey_49 ?_
      refine lv_iload_n hx hb dX0_survey_50 rfl (lv_at hl 2 rfl) ?_
      refine lv_iadd hx hb dX0_survey_51 ?_
      refine lv_aload_n hx hb dX0_survey_52 rfl (lv_at hl 0 rfl) ?_
      refine lv_iload_n hx hb dX0_survey_53 rfl (lv_at hl 1 rfl) ?_
      refine lv_iload_n hx hb dX0_survey_54 rfl (lv_at hl 2 rfl) ?_
      refine cV_l (b := (ad 0)) (As := [.int x1, .int x2]) (rest := [.int ((x1 * (4 : Int32)) + x2), .ref (ad 10)]) ⟨hx, hb, hml, hown, hts⟩ hK hw (c_ga_sightingsOf x1 x2 h) (cwV 2 hts (gd_RX0_45 hB) rfl rfl rfl (by decide +kernel) ⟨Nat.le_of_ble_eq_true rfl, Nat.le_of_ble_eq_true rfl⟩) (rC_ga hK hw) hl.1 ⟨Nat.zero_le _, Nat.zero_le _⟩ rfl rfl (Nat.le_of_ble_eq_true rfl) dX0_survey_55 (fun r55 _ H locs h hw => ?_)
      refine tC_ga_sightings hx hb hK hw h.1 dX0_survey_58 (fun H locs hw => ?_)
      replace h := h.2
      refine lv_iinc (v := (x2 + (1 : Int32))) (lv' := [(2, .int (x2 + (1 : Int32))), (0, .ref (ad 0)), (1, .int x1)]) hx hb dX0_survey_59 hl (k := 2) rfl rfl (by decide) rfl (fun ls hl => ?_)
      refine lv_goto (tgt := 38) hx hb dX0_survey_62 (by decide) ?_
      exact ih _ _ _ _ _ h _ _ _ hw (lv_sub hl [1, 2, 0] rfl)
  have J25 : ∀ (n : Nat) (ga_sightings : (Nat → Int64)) (ga_commonLength : Int32) (ga_allTimes : Int64) (x1 : Int32) , L_ga_survey_25 gr_width gr_columns gr_rows gr_floorCells gr_clearCells gr_standCells pi_cells pi_facings pi_size ro_cells ro_lengths si_sightLaw si_sightRange Q n ga_sightings ga_commonLength ga_allTimes x1 → ∀ (H : Heap) (locs : List Loc) (ls : Array Slot), SW D A s.heap (wdC cI cL cZ ad ga_sightings ga_bestShifts ga_commonLength ga_allTimes gr_width gr_height gr_size gr_kinds gr_before gr_columns gr_rows gr_floorCells gr_clearCells gr_standCells gr_firstColumn gr_lastColumn pi_cells pi_facings pi_sets pi_size po_needs ro_cells ro_lengths ro_shifts si_sightLaw si_sightRange th_unseen th_goals th_commonLength tr_marks tr_visited tr_size wh_places) H locs → lv_has ls 3 [(0, .ref (ad 0)), (1, .int x1)] → W p l e (headSpec wsX0_survey rm_ga_survey).room s m args below meth c H locs 0 0 Z (F0 m 25 ls []) := by
    intro  n
    induction n with
    | zero => intro ga_sightings ga_commonLength ga_allTimes x1 h; exact h.elim
    | succ n ih =>
    intro ga_sightings ga_commonLength ga_allTimes x1 h H locs ls hw hl
    unfold L_ga_survey_25 at h
    refine lv_iload_n hx hb dX0_survey_25 rfl (lv_at hl 1 rfl) ?_
    refine lv_aload_n hx hb dX0_survey_26 rfl (lv_at hl 0 rfl) ?_
    refine gC_ga_pictures hx hb hts hin hown hK hw lk19 dX0_survey_27 ?_
    refine cV_i (b := (ad 2)) (As := []) (rest := [.int x1]) ⟨hx, hb, hml, hown, hts⟩ hK hw (c_pi_size h) (cwV 0 hts (gd_RX0_40 hB) rfl rfl rfl (by decide +kernel) ⟨Nat.le_of_ble_eq_true rfl, Nat.le_of_ble_eq_true rfl⟩) (rC_pi hK hw) hl.1 ⟨Nat.zero_le _, Nat.zero_le _⟩ rfl rfl (Nat.le_of_ble_eq_true rfl) dX0_survey_30 (fun r30 _ H locs h hw => ?_)
    refine lv_icmp_ge (tgt := 71) hx hb dX0_survey_33 (by decide) (fun hc => ?_) (fun hc => ?_)
    · replace h := h.1 hc
      rw [hZ]
      exact rt_v (ga_sightings, ga_commonLength, ga_allTimes) hx hb hr hlocks hw h dX0_survey_71
    · replace h := h.2 hc
      refine lv_iconst (v := 0) hx hb dX0_survey_36 (by decide) ?_
      refine lv_istore_n (lv' := [(2, .int (0 : Int32)), (0, .ref (ad 0)), (1, .int x1)]) hx hb dX0_survey_37 rfl hl (by decide) rfl (fun ls hl => ?_)
      obtain ⟨n38, h⟩ := h
      exact J38 (L_ga_survey_25 gr_width gr_columns gr_rows gr_floorCells gr_clearCells gr_standCells pi_cells pi_facings pi_size ro_cells ro_lengths si_sightLaw si_sightRange Q n) ih n38 _ _ _ _ _ h _ _ _ hw (lv_sub hl [1, 2, 0] rfl)
  unfold P_ga_survey at h
  have he : entryFrame m args 3 = entryFrame m ([.ref (ad 0)] : List Value).toArray 3 := by rw [hav]
  refine W.eq he ?_
  have hl := lv_entry ([.ref (ad 0)]) (n := 3) (Nat.le_of_ble_eq_true rfl)
  rw [lg_entry_eq]
  generalize (lg_sl ([.ref (ad 0)]) ++ List.replicate (3 - (lg_sl ([.ref (ad 0)])).length) Slot.unset).toArray = ls at hl ⊢
  have hl : lv_has ls 3 [(0, .ref (ad 0))] := hl
  refine lv_aload_n hx hb dX0_survey_0 rfl (lv_at hl 0 rfl) ?_
  refine lv_aload_n hx hb dX0_survey_1 rfl (lv_at hl 0 rfl) ?_
  refine gC_ga_rounds hx hb hts hin hown hK hw lk23 dX0_survey_2 ?_
  refine cV_i (b := (ad 4)) (As := []) (rest := [.ref (ad 0)]) ⟨hx, hb, hml, hown, hts⟩ hK hw (c_ro_commonLength h) (cwV 0 hts (gd_RX0_27 hB) rfl rfl rfl (by decide +kernel) ⟨Nat.le_of_ble_eq_true rfl, Nat.le_of_ble_eq_true rfl⟩) (rC_ro hK hw) hl.1 ⟨Nat.zero_le _, Nat.zero_le _⟩ rfl rfl (Nat.le_of_ble_eq_true rfl) dX0_survey_5 (fun r5 _ H locs h hw => ?_)
  refine sC_ga_commonLength hx hb hts hin hown hK hw lk33 dX0_survey_8 (fun H locs hw => ?_)
  refine lv_aload_n hx hb dX0_survey_11 rfl (lv_at hl 0 rfl) ?_
  refine lv_lconst (v := 1) hx hb dX0_survey_12 (by decide) ?_
  refine lv_aload_n hx hb dX0_survey_13 rfl (lv_at hl 0 rfl) ?_
  refine gC_ga_commonLength hx hb hts hin hown hK hw lk33 dX0_survey_14 ?_
  refine lv_lshl hx hb dX0_survey_17 rfl ?_
  refine lv_lconst (v := 1) hx hb dX0_survey_18 (by decide) ?_
  refine lv_lsub hx hb dX0_survey_19 ?_
  refine lv_topl (fun ga_allTimes_20 ega_allTimes_20 => ?_)
  replace h := h ga_allTimes_20 ega_allTimes_20
  refine sC_ga_allTimes hx hb hts hin hown hK hw lk36 dX0_survey_20 (fun H locs hw => ?_)
  refine lv_iconst (v := 0) hx hb dX0_survey_23 (by decide) ?_
  refine lv_istore_n (lv' := [(1, .int (0 : Int32)), (0, .ref (ad 0))]) hx hb dX0_survey_24 rfl hl (by decide) rfl (fun ls hl => ?_)
  obtain ⟨n25, h⟩ := h
  exact J25  n25 _ _ _ _ h _ _ _ hw (lv_sub hl [1, 0] rfl)
def rm_ga_sooner : Room := { frames := 0, cells := 0, slots := 0, locals := 0 }
set_option maxHeartbeats 4000000 in
set_option maxRecDepth 100000 in
theorem c_ga_sooner {l : Launch} {D : va_G} {cI cL cZ : ClassId} {mx my : Nat} {A : Nat → Prop} {ad : Nat → Nat} {ga_sightings th_unseen th_goals tr_visited : Nat → Int64} {ga_bestShifts gr_kinds gr_before gr_columns gr_rows pi_cells pi_facings pi_sets po_needs ro_cells ro_lengths ro_shifts tr_marks wh_places : Nat → Int32} {ga_commonLength gr_width gr_height gr_size pi_size si_sightLaw si_sightRange th_commonLength tr_size : Int32} {ga_allTimes gr_floorCells gr_clearCells gr_standCells gr_firstColumn gr_lastColumn : Int64} (x1 : Int64) (x3 : Int32) {Q : Int64 → Prop} (h : P_ga_sooner ga_commonLength ga_allTimes x1 x3 Q) : Met l yX0_sooner wsX0_sooner rm_ga_sooner (va_Pc [.ref (ad 0), .long x1, .int x3] (WC D cI cL cZ mx my A (wdC cI cL cZ ad ga_sightings ga_bestShifts ga_commonLength ga_allTimes gr_width gr_height gr_size gr_kinds gr_before gr_columns gr_rows gr_floorCells gr_clearCells gr_standCells gr_firstColumn gr_lastColumn pi_cells pi_facings pi_sets pi_size po_needs ro_cells ro_lengths ro_shifts si_sightLaw si_sightRange th_unseen th_goals th_commonLength tr_marks tr_visited tr_size wh_places))) (va_Ql (fun (r : Int64) (u : Unit) => Q r) (fun (u : Unit) t => PW D A (wdC cI cL cZ ad ga_sightings ga_bestShifts ga_commonLength ga_allTimes gr_width gr_height gr_size gr_kinds gr_before gr_columns gr_rows gr_floorCells gr_clearCells gr_standCells gr_firstColumn gr_lastColumn pi_cells pi_facings pi_sets pi_size po_needs ro_cells ro_lengths ro_shifts si_sightLaw si_sightRange th_unseen th_goals th_commonLength tr_marks tr_visited tr_size wh_places) t.heap) A) 0 0 A := by
  refine Met.ofW (cc := cX0_sooner) (maxL := 4) (ret := (some .long)) (by decide) rfl ?_
  intro p e s m args below meth c s₁ B hml hv
  obtain ⟨hav, hP0, hD0, hK⟩ := hv
  have hx := B.exec
  have hb := B.bytes
  have hr := B.returns
  have hts := atoms_spec (ws := wsX0_sooner) B.pre
  have hown : s.vm.findClass RX0 = some m.cls := findClass_of_methodNamed B.named
  have hlocks := B.notSynchronized
  have hB : ∀ w ∈ BIG, w ∈ wsX0_sooner := fun _ h => List.mem_cons_of_mem _ h
  have hin : ∀ w ∈ wsX00, w ∈ wsX0_sooner := fun w h => hB w (inB_X0 w h)
  have lk33 := hts _ (hB _ m_224)
  have lk36 := hts _ (hB _ m_225)
  obtain ⟨Z, hZ⟩ : ∃ Z : State → Prop, Z = MQ below (va_Ql (fun (r : Int64) (u : Unit) => Q r) (fun (u : Unit) t => PW D A (wdC cI cL cZ ad ga_sightings ga_bestShifts ga_commonLength ga_allTimes gr_width gr_height gr_size gr_kinds gr_before gr_columns gr_rows gr_floorCells gr_clearCells gr_standCells gr_firstColumn gr_lastColumn pi_cells pi_facings pi_sets pi_size po_needs ro_cells ro_lengths ro_shifts si_sightLaw si_sightRange th_unseen th_goals th_commonLength tr_marks tr_visited tr_size wh_places) t.heap) A) args s 0 0 A := ⟨_, rfl⟩
  rw [← hZ]
  have hw : SW D A s.heap (wdC cI cL cZ ad ga_sightings ga_bestShifts ga_commonLength ga_allTimes gr_width gr_height gr_size gr_kinds gr_before gr_columns gr_rows gr_floorCells gr_clearCells gr_standCells gr_firstColumn gr_lastColumn pi_cells pi_facings pi_sets pi_size po_needs ro_cells ro_lengths ro_shifts si_sightLaw si_sightRange th_unseen th_goals th_commonLength tr_marks tr_visited tr_size wh_places) s.heap [] := ⟨hP0, hD0, va_S.rf⟩
  clear hP0 hD0 B
  unfold P_ga_sooner at h
  have he : entryFrame m args 4 = entryFrame m ([.ref (ad 0), .long x1, .int x3] : List Value).toArray 4 := by rw [hav]
  refine W.eq he ?_
  have hl := lv_entry ([.ref (ad 0), .long x1, .int x3]) (n := 4) (Nat.le_of_ble_eq_true rfl)
  rw [lg_entry_eq]
  generalize (lg_sl ([.ref (ad 0), .long x1, .int x3]) ++ List.replicate (4 - (lg_sl ([.ref (ad 0), .long x1, .int x3])).length) Slot.unset).toArray = ls at hl ⊢
  have hl : lv_has ls 4 [(0, .ref (ad 0)), (1, .long x1), (3, .int x3)] := hl
  refine lv_lload_n hx hb dX0_sooner_0 rfl (lv_at hl 1 rfl) ?_
  refine lv_iload_n hx hb dX0_sooner_1 rfl (lv_at hl 2 rfl) ?_
  refine lv_lushr hx hb dX0_sooner_2 rfl ?_
  refine lv_lload_n hx hb dX0_sooner_3 rfl (lv_at hl 1 rfl) ?_
  refine lv_aload_n hx hb dX0_sooner_4 rfl (lv_at hl 0 rfl) ?_
  refine gC_ga_commonLength hx hb hts hin hown hK hw lk33 dX0_sooner_5 ?_
  refine lv_iload_n hx hb dX0_sooner_8 rfl (lv_at hl 2 rfl) ?_
  refine lv_isub hx hb dX0_sooner_9 ?_
  refine lv_lshl hx hb dX0_sooner_10 rfl ?_
  refine lv_lor hx hb dX0_sooner_11 ?_
  refine lv_aload_n hx hb dX0_sooner_12 rfl (lv_at hl 0 rfl) ?_
  refine gC_ga_allTimes hx hb hts hin hown hK hw lk36 dX0_sooner_13 ?_
  refine lv_land hx hb dX0_sooner_16 ?_
  rw [hZ]
  exact rt_l () hx hb hr hlocks hw h dX0_sooner_17
def rm_ga_longestRun : Room := { frames := 1, cells := 0, slots := 0, locals := 23 }
set_option maxHeartbeats 4000000 in
set_option maxRecDepth 100000 in
theorem c_ga_longestRun {l : Launch} {D : va_G} {cI cL cZ : ClassId} {mx my : Nat} {A : Nat → Prop} {ad : Nat → Nat} {ga_sightings th_unseen th_goals tr_visited : Nat → Int64} {ga_bestShifts gr_kinds gr_before gr_columns gr_rows pi_cells pi_facings pi_sets po_needs ro_cells ro_lengths ro_shifts tr_marks wh_places : Nat → Int32} {ga_commonLength gr_width gr_height gr_size pi_size si_sightLaw si_sightRange th_commonLength tr_size : Int32} {ga_allTimes gr_floorCells gr_clearCells gr_standCells gr_firstColumn gr_lastColumn : Int64} (x1 : Int64) {Q : Int32 → Prop} (h : P_ga_longestRun ga_commonLength ga_allTimes x1 Q) : Met l yX0_longestRun wsX0_longestRun rm_ga_longestRun (va_Pc [.ref (ad 0), .long x1] (WC D cI cL cZ mx my A (wdC cI cL cZ ad ga_sightings ga_bestShifts ga_commonLength ga_allTimes gr_width gr_height gr_size gr_kinds gr_before gr_columns gr_rows gr_floorCells gr_clearCells gr_standCells gr_firstColumn gr_lastColumn pi_cells pi_facings pi_sets pi_size po_needs ro_cells ro_lengths ro_shifts si_sightLaw si_sightRange th_unseen th_goals th_commonLength tr_marks tr_visited tr_size wh_places))) (va_Qi (fun (r : Int32) (u : Unit) => Q r) (fun (u : Unit) t => PW D A (wdC cI cL cZ ad ga_sightings ga_bestShifts ga_commonLength ga_allTimes gr_width gr_height gr_size gr_kinds gr_before gr_columns gr_rows gr_floorCells gr_clearCells gr_standCells gr_firstColumn gr_lastColumn pi_cells pi_facings pi_sets pi_size po_needs ro_cells ro_lengths ro_shifts si_sightLaw si_sightRange th_unseen th_goals th_commonLength tr_marks tr_visited tr_size wh_places) t.heap) A) 0 0 A := by
  refine Met.ofW (cc := cX0_longestRun) (maxL := 6) (ret := (some .int)) (by decide) rfl ?_
  intro p e s m args below meth c s₁ B hml hv
  obtain ⟨hav, hP0, hD0, hK⟩ := hv
  have hx := B.exec
  have hb := B.bytes
  have hr := B.returns
  have hts := atoms_spec (ws := wsX0_longestRun) B.pre
  have hown : s.vm.findClass RX0 = some m.cls := findClass_of_methodNamed B.named
  have hlocks := B.notSynchronized
  have hB : ∀ w ∈ BIG, w ∈ wsX0_longestRun := fun _ h => List.mem_cons_of_mem _ h
  have hin : ∀ w ∈ wsX00, w ∈ wsX0_longestRun := fun w h => hB w (inB_X0 w h)
  have lk33 := hts _ (hB _ m_224)
  obtain ⟨Z, hZ⟩ : ∃ Z : State → Prop, Z = MQ below (va_Qi (fun (r : Int32) (u : Unit) => Q r) (fun (u : Unit) t => PW D A (wdC cI cL cZ ad ga_sightings ga_bestShifts ga_commonLength ga_allTimes gr_width gr_height gr_size gr_kinds gr_before gr_columns gr_rows gr_floorCells gr_clearCells gr_standCells gr_firstColumn gr_lastColumn pi_cells pi_facings pi_sets pi_size po_needs ro_cells ro_lengths ro_shifts si_sightLaw si_sightRange th_unseen th_goals th_commonLength tr_marks tr_visited tr_size wh_places) t.heap) A) args s 0 0 A := ⟨_, rfl⟩
  rw [← hZ]
  have hw : SW D A s.heap (wdC cI cL cZ ad ga_sightings ga_bestShifts ga_commonLength ga_allTimes gr_width gr_height gr_size gr_kinds gr_before gr_columns gr_rows gr_floorCells gr_clearCells gr_standCells gr_firstColumn gr_lastColumn pi_cells pi_facings pi_sets pi_size po_needs ro_cells ro_lengths ro_shifts si_sightLaw si_sightRange th_unseen th_goals th_commonLength tr_marks tr_visited tr_size wh_places) s.heap [] := ⟨hP0, hD0, va_S.rf⟩
  clear hP0 hD0 B
  have J5 : ∀ (n : Nat) (x3 : Int64) (x5 : Int32) , L_ga_longestRun_5 ga_commonLength ga_allTimes Q n x3 x5 → ∀ (H : Heap) (locs : List Loc) (ls : Array Slot), SW D A s.heap (wdC cI cL cZ ad ga_sightings ga_bestShifts ga_commonLength ga_allTimes gr_width gr_height gr_size gr_kinds gr_before gr_columns gr_rows gr_floorCells gr_clearCells gr_standCells gr_firstColumn gr_lastColumn pi_cells pi_facings pi_sets pi_size po_needs ro_cells ro_lengths ro_shifts si_sightLaw si_sightRange th_unseen th_goals th_commonLength tr_marks tr_visited tr_size wh_places) H locs → lv_has ls 6 [(0, .ref (ad 0)), (3, .long x3), (5, .int x5)] → W p l e (headSpec wsX0_longestRun rm_ga_longestRun).room s m args below meth c H locs 0 0 Z (F0 m 5 ls []) := by
    intro  n
    induction n with
    | zero => intro x3 x5 h; exact h.elim
    | succ n ih =>
    intro x3 x5 h H locs ls hw hl
    unfold L_ga_longestRun_5 at h
    refine lv_lload_n hx hb dX0_longestRun_5 rfl (lv_at hl 1 rfl) ?_
    refine lv_lconst (v := 0) hx hb dX0_longestRun_6 (by decide) ?_
    refine W.lcmp hx hb dX0_longestRun_7 ?_
    refine lv_if_eq (tgt := 35) hx hb dX0_longestRun_8 (by decide) (fun hc => ?_) (fun hc => ?_)
    · replace h := h.1 hc
      refine lv_iload hx hb dX0_longestRun_35 (lv_at hl 2 rfl) ?_
      rw [hZ]
      exact rt_i () hx hb hr hlocks hw h dX0_longestRun_37
    · replace h := h.2 hc
      refine lv_iload hx hb dX0_longestRun_11 (lv_at hl 2 rfl) ?_
      refine lv_aload_n hx hb dX0_longestRun_13 rfl (lv_at hl 0 rfl) ?_
      refine gC_ga_commonLength hx hb hts hin hown hK hw lk33 dX0_longestRun_14 ?_
      refine lv_icmp_ge (tgt := 35) hx hb dX0_longestRun_17 (by decide) (fun hc => ?_) (fun hc => ?_)
      · replace h := h.1 hc
        refine lv_iload hx hb dX0_longestRun_35 (lv_at hl 2 rfl) ?_
        rw [hZ]
        exact rt_i () hx hb hr hlocks hw h dX0_longestRun_37
      · replace h := h.2 hc
        refine lv_lload_n hx hb dX0_longestRun_20 rfl (lv_at hl 1 rfl) ?_
        refine lv_aload_n hx hb dX0_longestRun_21 rfl (lv_at hl 0 rfl) ?_
        refine lv_lload_n hx hb dX0_longestRun_22 rfl (lv_at hl 1 rfl) ?_
        refine lv_iconst (v := 1) hx hb dX0_longestRun_23 (by decide) ?_
        refine cV_l (b := (ad 0)) (As := [.long x3, .int (1 : Int32)]) (rest := [.long x3]) ⟨hx, hb, hml, hown, hts⟩ hK hw (c_ga_sooner x3 (1 : Int32) h) (cwV 2 hts (gd_RX0_64 hB) rfl rfl rfl (by decide +kernel) ⟨Nat.le_of_ble_eq_true rfl, Nat.le_of_ble_eq_true rfl⟩) (rC_ga hK hw) hl.1 ⟨Nat.zero_le _, Nat.zero_le _⟩ rfl rfl (Nat.le_of_ble_eq_true rfl) dX0_longestRun_24 (fun r24 _ H locs h hw => ?_)
        refine lv_land hx hb dX0_longestRun_27 ?_
        refine lv_topl (fun x3_28 ex3_28 => ?_)
        replace h := h x3_28 ex3_28
        refine lv_lstore_n (lv' := [(3, .long x3_28), (0, .ref (ad 0)), (5, .int x5)]) hx hb dX0_longestRun_28 rfl hl (by decide) rfl (fun ls hl => ?_)
        refine lv_iinc (v := (x5 + (1 : Int32))) (lv' := [(5, .int (x5 + (1 : Int32))), (3, .long x3_28), (0, .ref (ad 0))]) hx hb dX0_longestRun_29 hl (k := 2) rfl rfl (by decide) rfl (fun ls hl => ?_)
        refine lv_goto (tgt := 5) hx hb dX0_longestRun_32 (by decide) ?_
        exact ih _ _ h _ _ _ hw (lv_sub hl [2, 1, 0] rfl)
  unfold P_ga_longestRun at h
  have he : entryFrame m args 6 = entryFrame m ([.ref (ad 0), .long x1] : List Value).toArray 6 := by rw [hav]
  refine W.eq he ?_
  have hl := lv_entry ([.ref (ad 0), .long x1]) (n := 6) (Nat.le_of_ble_eq_true rfl)
  rw [lg_entry_eq]
  generalize (lg_sl ([.ref (ad 0), .long x1]) ++ List.replicate (6 - (lg_sl ([.ref (ad 0), .long x1])).length) Slot.unset).toArray = ls at hl ⊢
  have hl : lv_has ls 6 [(0, .ref (ad 0)), (1, .long x1)] := hl
  refine lv_lload_n hx hb dX0_longestRun_0 rfl (lv_at hl 1 rfl) ?_
  refine lv_lstore_n (lv' := [(3, .long x1), (0, .ref (ad 0)), (1, .long x1)]) hx hb dX0_longestRun_1 rfl hl (by decide) rfl (fun ls hl => ?_)
  refine lv_iconst (v := 0) hx hb dX0_longestRun_2 (by decide) ?_
  refine lv_istore (lv' := [(5, .int (0 : Int32)), (3, .long x1), (0, .ref (ad 0)), (1, .long x1)]) hx hb dX0_longestRun_3 hl (by decide) rfl (fun ls hl => ?_)
  obtain ⟨n5, h⟩ := h
  exact J5  n5 _ _ h _ _ _ hw (lv_sub hl [2, 1, 0] rfl)
def rm_ro_shiftOf : Room := { frames := 0, cells := 0, slots := 0, locals := 0 }
set_option maxHeartbeats 4000000 in
set_option maxRecDepth 100000 in
theorem c_ro_shiftOf {l : Launch} {D : va_G} {cI cL cZ : ClassId} {mx my : Nat} {A : Nat → Prop} {ad : Nat → Nat} {ga_sightings th_unseen th_goals tr_visited : Nat → Int64} {ga_bestShifts gr_kinds gr_before gr_columns gr_rows pi_cells pi_facings pi_sets po_needs ro_cells ro_lengths ro_shifts tr_marks wh_places : Nat → Int32} {ga_commonLength gr_width gr_height gr_size pi_size si_sightLaw si_sightRange th_commonLength tr_size : Int32} {ga_allTimes gr_floorCells gr_clearCells gr_standCells gr_firstColumn gr_lastColumn : Int64} (x1 : Int32) {Q : Int32 → Prop} (h : P_ro_shiftOf ro_shifts x1 Q) : Met l yX4_shiftOf wsX4_shiftOf rm_ro_shiftOf (va_Pc [.ref (ad 4), .int x1] (WC D cI cL cZ mx my A (wdC cI cL cZ ad ga_sightings ga_bestShifts ga_commonLength ga_allTimes gr_width gr_height gr_size gr_kinds gr_before gr_columns gr_rows gr_floorCells gr_clearCells gr_standCells gr_firstColumn gr_lastColumn pi_cells pi_facings pi_sets pi_size po_needs ro_cells ro_lengths ro_shifts si_sightLaw si_sightRange th_unseen th_goals th_commonLength tr_marks tr_visited tr_size wh_places))) (va_Qi (fun (r : Int32) (u : Unit) => Q r) (fun (u : Unit) t => PW D A (wdC cI cL cZ ad ga_sightings ga_bestShifts ga_commonLength ga_allTimes gr_width gr_height gr_size gr_kinds gr_before gr_columns gr_rows gr_floorCells gr_clearCells gr_standCells gr_firstColumn gr_lastColumn pi_cells pi_facings pi_sets pi_size po_needs ro_cells ro_lengths ro_shifts si_sightLaw si_sightRange th_unseen th_goals th_commonLength tr_marks tr_visited tr_size wh_places) t.heap) A) 0 0 A := by
  refine Met.ofW (cc := cX4_shiftOf) (maxL := 2) (ret := (some .int)) (by decide) rfl ?_
  intro p e s m args below meth c s₁ B hml hv
  obtain ⟨hav, hP0, hD0, hK⟩ := hv
  have hx := B.exec
  have hb := B.bytes
  have hr := B.returns
  have hts := atoms_spec (ws := wsX4_shiftOf) B.pre
  have hown : s.vm.findClass RX4 = some m.cls := findClass_of_methodNamed B.named
  have hlocks := B.notSynchronized
  have hB : ∀ w ∈ BIG, w ∈ wsX4_shiftOf := fun _ h => List.mem_cons_of_mem _ h
  have hin : ∀ w ∈ wsX40, w ∈ wsX4_shiftOf := fun w h => hB w (inB_X4 w h)
  have lk18 := hts _ (hB _ m_190)
  obtain ⟨Z, hZ⟩ : ∃ Z : State → Prop, Z = MQ below (va_Qi (fun (r : Int32) (u : Unit) => Q r) (fun (u : Unit) t => PW D A (wdC cI cL cZ ad ga_sightings ga_bestShifts ga_commonLength ga_allTimes gr_width gr_height gr_size gr_kinds gr_before gr_columns gr_rows gr_floorCells gr_clearCells gr_standCells gr_firstColumn gr_lastColumn pi_cells pi_facings pi_sets pi_size po_needs ro_cells ro_lengths ro_shifts si_sightLaw si_sightRange th_unseen th_goals th_commonLength tr_marks tr_visited tr_size wh_places) t.heap) A) args s 0 0 A := ⟨_, rfl⟩
  rw [← hZ]
  have hw : SW D A s.heap (wdC cI cL cZ ad ga_sightings ga_bestShifts ga_commonLength ga_allTimes gr_width gr_height gr_size gr_kinds gr_before gr_columns gr_rows gr_floorCells gr_clearCells gr_standCells gr_firstColumn gr_lastColumn pi_cells pi_facings pi_sets pi_size po_needs ro_cells ro_lengths ro_shifts si_sightLaw si_sightRange th_unseen th_goals th_commonLength tr_marks tr_visited tr_size wh_places) s.heap [] := ⟨hP0, hD0, va_S.rf⟩
  clear hP0 hD0 B
  unfold P_ro_shiftOf at h
  have he : entryFrame m args 2 = entryFrame m ([.ref (ad 4), .int x1] : List Value).toArray 2 := by rw [hav]
  refine W.eq he ?_
  have hl := lv_entry ([.ref (ad 4), .int x1]) (n := 2) (Nat.le_of_ble_eq_true rfl)
  rw [lg_entry_eq]
  generalize (lg_sl ([.ref (ad 4), .int x1]) ++ List.replicate (2 - (lg_sl ([.ref (ad 4), .int x1])).length) Slot.unset).toArray = ls at hl ⊢
  have hl : lv_has ls 2 [(0, .ref (ad 4)), (1, .int x1)] := hl
  refine lv_aload_n hx hb dX4_shiftOf_0 rfl (lv_at hl 0 rfl) ?_
  refine gC_ro_shifts hx hb hts hin hown hK hw lk18 dX4_shiftOf_1 ?_
  refine lv_iload_n hx hb dX4_shiftOf_4 rfl (lv_at hl 1 rfl) ?_
  refine aC_ro_shifts hx hb hK hw h.1 dX4_shiftOf_5 ?_
  replace h := h.2
  rw [hZ]
  exact rt_i () hx hb hr hlocks hw h dX4_shiftOf_6
def rm_ga_gapOf : Room := { frames := 2, cells := 0, slots := 0, locals := 48 }
set_option maxHeartbeats 4000000 in
set_option maxRecDepth 100000 in
theorem c_ga_gapOf {l : Launch} {D : va_G} {cI cL cZ : ClassId} {mx my : Nat} {A : Nat → Prop} {ad : Nat → Nat} {ga_sightings th_unseen th_goals tr_visited : Nat → Int64} {ga_bestShifts gr_kinds gr_before gr_columns gr_rows pi_cells pi_facings pi_sets po_needs ro_cells ro_lengths ro_shifts tr_marks wh_places : Nat → Int32} {ga_commonLength gr_width gr_height gr_size pi_size si_sightLaw si_sightRange th_commonLength tr_size : Int32} {ga_allTimes gr_floorCells gr_clearCells gr_standCells gr_firstColumn gr_lastColumn : Int64} (x1 : Int32) {Q : Int32 → Prop} (h : P_ga_gapOf ga_sightings ga_commonLength ga_allTimes ro_lengths ro_shifts x1 Q) : Met l yX0_gapOf wsX0_gapOf rm_ga_gapOf (va_Pc [.ref (ad 0), .int x1] (WC D cI cL cZ mx my A (wdC cI cL cZ ad ga_sightings ga_bestShifts ga_commonLength ga_allTimes gr_width gr_height gr_size gr_kinds gr_before gr_columns gr_rows gr_floorCells gr_clearCells gr_standCells gr_firstColumn gr_lastColumn pi_cells pi_facings pi_sets pi_size po_needs ro_cells ro_lengths ro_shifts si_sightLaw si_sightRange th_unseen th_goals th_commonLength tr_marks tr_visited tr_size wh_places))) (va_Qi (fun (r : Int32) (u : Unit) => Q r) (fun (u : Unit) t => PW D A (wdC cI cL cZ ad ga_sightings ga_bestShifts ga_commonLength ga_allTimes gr_width gr_height gr_size gr_kinds gr_before gr_columns gr_rows gr_floorCells gr_clearCells gr_standCells gr_firstColumn gr_lastColumn pi_cells pi_facings pi_sets pi_size po_needs ro_cells ro_lengths ro_shifts si_sightLaw si_sightRange th_unseen th_goals th_commonLength tr_marks tr_visited tr_size wh_places) t.heap) A) 0 0 A := by
  refine Met.ofW (cc := cX0_gapOf) (maxL := 7) (ret := (some .int)) (by decide) rfl ?_
  intro p e s m args below meth c s₁ B hml hv
  obtain ⟨hav, hP0, hD0, hK⟩ := hv
  have hx := B.exec
  have hb := B.bytes
  have hr := B.returns
  have hts := atoms_spec (ws := wsX0_gapOf) B.pre
  have hown : s.vm.findClass RX0 = some m.cls := findClass_of_methodNamed B.named
  have hlocks := B.notSynchronized
  have hB : ∀ w ∈ BIG, w ∈ wsX0_gapOf := fun _ h => List.mem_cons_of_mem _ h
  have hin : ∀ w ∈ wsX00, w ∈ wsX0_gapOf := fun w h => hB w (inB_X0 w h)
  have lk9 := hts _ (hB _ m_222)
  have lk23 := hts _ (hB _ m_221)
  have lk36 := hts _ (hB _ m_225)
  obtain ⟨Z, hZ⟩ : ∃ Z : State → Prop, Z = MQ below (va_Qi (fun (r : Int32) (u : Unit) => Q r) (fun (u : Unit) t => PW D A (wdC cI cL cZ ad ga_sightings ga_bestShifts ga_commonLength ga_allTimes gr_width gr_height gr_size gr_kinds gr_before gr_columns gr_rows gr_floorCells gr_clearCells gr_standCells gr_firstColumn gr_lastColumn pi_cells pi_facings pi_sets pi_size po_needs ro_cells ro_lengths ro_shifts si_sightLaw si_sightRange th_unseen th_goals th_commonLength tr_marks tr_visited tr_size wh_places) t.heap) A) args s 0 0 A := ⟨_, rfl⟩
  rw [← hZ]
  have hw : SW D A s.heap (wdC cI cL cZ ad ga_sightings ga_bestShifts ga_commonLength ga_allTimes gr_width gr_height gr_size gr_kinds gr_before gr_columns gr_rows gr_floorCells gr_clearCells gr_standCells gr_firstColumn gr_lastColumn pi_cells pi_facings pi_sets pi_size po_needs ro_cells ro_lengths ro_shifts si_sightLaw si_sightRange th_unseen th_goals th_commonLength tr_marks tr_visited tr_size wh_places) s.heap [] := ⟨hP0, hD0, va_S.rf⟩
  clear hP0 hD0 B
  have J74 : ∀ (_ : True) (x2 : Int64) , B_ga_gapOf_74 ga_commonLength ga_allTimes Q x2 → ∀ (H : Heap) (locs : List Loc) (ls : Array Slot), SW D A s.heap (wdC cI cL cZ ad ga_sightings ga_bestShifts ga_commonLength ga_allTimes gr_width gr_height gr_size gr_kinds gr_before gr_columns gr_rows gr_floorCells gr_clearCells gr_standCells gr_firstColumn gr_lastColumn pi_cells pi_facings pi_sets pi_size po_needs ro_cells ro_lengths ro_shifts si_sightLaw si_sightRange th_unseen th_goals th_commonLength tr_marks tr_visited tr_size wh_places) H locs → lv_has ls 7 [(0, .ref (ad 0)), (2, .long x2)] → W p l e (headSpec wsX0_gapOf rm_ga_gapOf).room s m args below meth c H locs 0 0 Z (F0 m 74 ls []) := by
    intro _  x2 h H locs ls hw hl
    unfold B_ga_gapOf_74 at h
    refine lv_lload_n hx hb dX0_gapOf_74 rfl (lv_at hl 1 rfl) ?_
    refine lv_aload_n hx hb dX0_gapOf_75 rfl (lv_at hl 0 rfl) ?_
    refine gC_ga_allTimes hx hb hts hin hown hK hw lk36 dX0_gapOf_76 ?_
    refine W.lcmp hx hb dX0_gapOf_79 ?_
    refine lv_if_ne (tgt := 88) hx hb dX0_gapOf_80 (by decide) (fun hc => ?_) (fun hc => ?_)
    · replace h := h.2 hc
      refine lv_aload_n hx hb dX0_gapOf_88 rfl (lv_at hl 0 rfl) ?_
      refine lv_lload_n hx hb dX0_gapOf_89 rfl (lv_at hl 1 rfl) ?_
      refine cV_i (b := (ad 0)) (As := [.long x2]) (rest := []) ⟨hx, hb, hml, hown, hts⟩ hK hw (c_ga_longestRun x2 h) (cwV 1 hts (gd_RX0_70 hB) rfl rfl rfl (by decide +kernel) ⟨Nat.le_of_ble_eq_true rfl, Nat.le_of_ble_eq_true rfl⟩) (rC_ga hK hw) hl.1 ⟨Nat.zero_le _, Nat.zero_le _⟩ rfl rfl (Nat.le_of_ble_eq_true rfl) dX0_gapOf_90 (fun r90 _ H locs h hw => ?_)
      rw [hZ]
      exact rt_i () hx hb hr hlocks hw h dX0_gapOf_93
    · replace h := h.1 hc
      refine lv_bipush (v := (-9)) hx hb dX0_gapOf_83 (by decide) ?_
      refine lv_goto (tgt := 93) hx hb dX0_gapOf_85 (by decide) ?_
      rw [hZ]
      exact rt_i () hx hb hr hlocks hw h dX0_gapOf_93
  have J8 : ∀ (n : Nat) (x1 : Int32) (x2 : Int64) (x4 : Int32) , L_ga_gapOf_8 ga_sightings ga_commonLength ga_allTimes ro_lengths ro_shifts Q n x1 x2 x4 → ∀ (H : Heap) (locs : List Loc) (ls : Array Slot), SW D A s.heap (wdC cI cL cZ ad ga_sightings ga_bestShifts ga_commonLength ga_allTimes gr_width gr_height gr_size gr_kinds gr_before gr_columns gr_rows gr_floorCells gr_clearCells gr_standCells gr_firstColumn gr_lastColumn pi_cells pi_facings pi_sets pi_size po_needs ro_cells ro_lengths ro_shifts si_sightLaw si_sightRange th_unseen th_goals th_commonLength tr_marks tr_visited tr_size wh_places) H locs → lv_has ls 7 [(0, .ref (ad 0)), (1, .int x1), (2, .long x2), (4, .int x4)] → W p l e (headSpec wsX0_gapOf rm_ga_gapOf).room s m args below meth c H locs 0 0 Z (F0 m 8 ls []) := by
    intro  n
    induction n with
    | zero => intro x1 x2 x4 h; exact h.elim
    | succ n ih =>
    intro x1 x2 x4 h H locs ls hw hl
    unfold L_ga_gapOf_8 at h
    refine lv_iload hx hb dX0_gapOf_8 (lv_at hl 3 rfl) ?_
    refine lv_iconst (v := 4) hx hb dX0_gapOf_10 (by decide) ?_
    refine lv_icmp_ge (tgt := 74) hx hb dX0_gapOf_11 (by decide) (fun hc => ?_) (fun hc => ?_)
    · replace h := h.1 hc
      exact J74 trivial  _ h _ _ _ hw (lv_sub hl [0, 2] rfl)
    · replace h := h.2 hc
      refine lv_aload_n hx hb dX0_gapOf_14 rfl (lv_at hl 0 rfl) ?_
      refine gC_ga_rounds hx hb hts hin hown hK hw lk23 dX0_gapOf_15 ?_
      refine lv_iload hx hb dX0_gapOf_18 (lv_at hl 3 rfl) ?_
      refine cV_i (b := (ad 4)) (As := [.int x4]) (rest := []) ⟨hx, hb, hml, hown, hts⟩ hK hw (c_ro_lengthOf x4 h) (cwV 1 hts (gd_RX0_49 hB) rfl rfl rfl (by decide +kernel) ⟨Nat.le_of_ble_eq_true rfl, Nat.le_of_ble_eq_true rfl⟩) (rC_ro hK hw) hl.1 ⟨Nat.zero_le _, Nat.zero_le _⟩ rfl rfl (Nat.le_of_ble_eq_true rfl) dX0_gapOf_20 (fun r20 _ H locs h hw => ?_)
      refine lv_istore (lv' := [(5, .int r20), (0, .ref (ad 0)), (1, .int x1), (2, .long x2), (4, .int x4)]) hx hb dX0_gapOf_23 hl (by decide) rfl (fun ls hl => ?_)
      refine lv_iload hx hb dX0_gapOf_25 (lv_at hl 0 rfl) ?_
      refine lv_if_le (tgt := 68) hx hb dX0_gapOf_27 (by decide) (fun hc => ?_) (fun hc => ?_)
      · replace h := h.1 hc
        refine lv_iinc (v := (x4 + (1 : Int32))) (lv' := [(4, .int (x4 + (1 : Int32))), (5, .int r20), (0, .ref (ad 0)), (1, .int x1), (2, .long x2)]) hx hb dX0_gapOf_68 hl (k := 4) rfl rfl (by decide) rfl (fun ls hl => ?_)
        refine lv_goto (tgt := 8) hx hb dX0_gapOf_71 (by decide) ?_
        exact ih _ _ _ h _ _ _ hw (lv_sub hl [2, 3, 4, 0] rfl)
      · replace h := h.2 hc
        refine lv_aload_n hx hb dX0_gapOf_30 rfl (lv_at hl 1 rfl) ?_
        refine gC_ga_rounds hx hb hts hin hown hK hw lk23 dX0_gapOf_31 ?_
        refine lv_iload hx hb dX0_gapOf_34 (lv_at hl 4 rfl) ?_
        refine cV_i (b := (ad 4)) (As := [.int x4]) (rest := []) ⟨hx, hb, hml, hown, hts⟩ hK hw (c_ro_shiftOf x4 h) (cwV 1 hts (gd_RX0_61 hB) rfl rfl rfl (by decide +kernel) ⟨Nat.le_of_ble_eq_true rfl, Nat.le_of_ble_eq_true rfl⟩) (rC_ro hK hw) hl.1 ⟨Nat.zero_le _, Nat.zero_le _⟩ rfl rfl (Nat.le_of_ble_eq_true rfl) dX0_gapOf_36 (fun r36 _ H locs h hw => ?_)
        refine lv_iload hx hb dX0_gapOf_39 (lv_at hl 0 rfl) ?_
        refine lv_irem hx hb dX0_gapOf_41 h.1 ?_
        replace h := h.2
        refine lv_topi (fun x6_42 ex6_42 => ?_)
        replace h := h x6_42 ex6_42
        refine lv_istore (lv' := [(6, .int x6_42), (5, .int r20), (0, .ref (ad 0)), (1, .int x1), (2, .long x2), (4, .int x4)]) hx hb dX0_gapOf_42 hl (by decide) rfl (fun ls hl => ?_)
        refine lv_lload_n hx hb dX0_gapOf_44 rfl (lv_at hl 4 rfl) ?_
        refine lv_aload_n hx hb dX0_gapOf_45 rfl (lv_at hl 2 rfl) ?_
        refine lv_aload_n hx hb dX0_gapOf_46 rfl (lv_at hl 2 rfl) ?_
        refine gC_ga_sightings hx hb hts hin hown hK hw lk9 dX0_gapOf_47 ?_
        refine lv_iload_n hx hb dX0_gapOf_50 rfl (lv_at hl 3 rfl) ?_
        refine lv_iconst (v := 4) hx hb dX0_gapOf_51 (by decide) ?_
        refine lv_imul hx hb dX0_gapOf_52 ?_
        refine lv_iload hx hb dX0_gapOf_53 (lv_at hl 5 rfl) ?_
        refine lv_iadd hx hb dX0_gapOf_55 ?_
        refine aC_ga_sightings hx hb hK hw h.1 dX0_gapOf_56 ?_
        replace h := h.2
        refine lv_iload hx hb dX0_gapOf_57 (lv_at hl 0 rfl) ?_
        refine cV_l (b := (ad 0)) (As := [.long (ga_sightings ((x1 * (4 : Int32)) + x4).toNatClampNeg), .int x6_42]) (rest := [.long x2]) ⟨hx, hb, hml, hown, hts⟩ hK hw (c_ga_sooner (ga_sightings ((x1 * (4 : Int32)) + x4).toNatClampNeg) x6_42 h) (cwV 2 hts (gd_RX0_64 hB) rfl rfl rfl (by decide +kernel) ⟨Nat.le_of_ble_eq_true rfl, Nat.le_of_ble_eq_true rfl⟩) (rC_ga hK hw) hl.1 ⟨Nat.zero_le _, Nat.zero_le _⟩ rfl rfl (Nat.le_of_ble_eq_true rfl) dX0_gapOf_59 (fun r59 _ H locs h hw => ?_)
        refine lv_ldc2 (v := (-1)) hx hb hown (hts _ (hB _ m_749)) dX0_gapOf_62 ?_
        refine lv_lxor hx hb dX0_gapOf_65 ?_
        refine lv_land hx hb dX0_gapOf_66 ?_
        refine lv_topl (fun x2_67 ex2_67 => ?_)
        replace h := h x2_67 ex2_67
        refine lv_lstore_n (lv' := [(2, .long x2_67), (6, .int x6_42), (5, .int r20), (0, .ref (ad 0)), (1, .int x1), (4, .int x4)]) hx hb dX0_gapOf_67 rfl hl (by decide) rfl (fun ls hl => ?_)
        refine lv_iinc (v := (x4 + (1 : Int32))) (lv' := [(4, .int (x4 + (1 : Int32))), (2, .long x2_67), (6, .int x6_42), (5, .int r20), (0, .ref (ad 0)), (1, .int x1)]) hx hb dX0_gapOf_68 hl (k := 5) rfl rfl (by decide) rfl (fun ls hl => ?_)
        refine lv_goto (tgt := 8) hx hb dX0_gapOf_71 (by decide) ?_
        exact ih _ _ _ h _ _ _ hw (lv_sub hl [4, 5, 1, 0] rfl)
  unfold P_ga_gapOf at h
  have he : entryFrame m args 7 = entryFrame m ([.ref (ad 0), .int x1] : List Value).toArray 7 := by rw [hav]
  refine W.eq he ?_
  have hl := lv_entry ([.ref (ad 0), .int x1]) (n := 7) (Nat.le_of_ble_eq_true rfl)
  rw [lg_entry_eq]
  generalize (lg_sl ([.ref (ad 0), .int x1]) ++ List.replicate (7 - (lg_sl ([.ref (ad 0), .int x1])).length) Slot.unset).toArray = ls at hl ⊢
  have hl : lv_has ls 7 [(0, .ref (ad 0)), (1, .int x1)] := hl
  refine lv_aload_n hx hb dX0_gapOf_0 rfl (lv_at hl 0 rfl) ?_
  refine gC_ga_allTimes hx hb hts hin hown hK hw lk36 dX0_gapOf_1 ?_
  refine lv_lstore_n (lv' := [(2, .long ga_allTimes), (0, .ref (ad 0)), (1, .int x1)]) hx hb dX0_gapOf_4 rfl hl (by decide) rfl (fun ls hl => ?_)
  refine lv_iconst (v := 0) hx hb dX0_gapOf_5 (by decide) ?_
  refine lv_istore (lv' := [(4, .int (0 : Int32)), (2, .long ga_allTimes), (0, .ref (ad 0)), (1, .int x1)]) hx hb dX0_gapOf_6 hl (by decide) rfl (fun ls hl => ?_)
  obtain ⟨n8, h⟩ := h
  exact J8  n8 _ _ _ h _ _ _ hw (lv_sub hl [2, 3, 1, 0] rfl)
def rm_ga_worstOfAll : Room := { frames := 3, cells := 0, slots := 0, locals := 74 }
set_option maxHeartbeats 4000000 in
set_option maxRecDepth 100000 in
theorem c_ga_worstOfAll {l : Launch} {D : va_G} {cI cL cZ : ClassId} {mx my : Nat} {A : Nat → Prop} {ad : Nat → Nat} {ga_sightings th_unseen th_goals tr_visited : Nat → Int64} {ga_bestShifts gr_kinds gr_before gr_columns gr_rows pi_cells pi_facings pi_sets po_needs ro_cells ro_lengths ro_shifts tr_marks wh_places : Nat → Int32} {ga_commonLength gr_width gr_height gr_size pi_size si_sightLaw si_sightRange th_commonLength tr_size : Int32} {ga_allTimes gr_floorCells gr_clearCells gr_standCells gr_firstColumn gr_lastColumn : Int64}  {Q : Int32 → Prop} (h : P_ga_worstOfAll ga_sightings ga_commonLength ga_allTimes pi_size ro_lengths ro_shifts Q) : Met l yX0_worstOfAll wsX0_worstOfAll rm_ga_worstOfAll (va_Pc [.ref (ad 0)] (WC D cI cL cZ mx my A (wdC cI cL cZ ad ga_sightings ga_bestShifts ga_commonLength ga_allTimes gr_width gr_height gr_size gr_kinds gr_before gr_columns gr_rows gr_floorCells gr_clearCells gr_standCells gr_firstColumn gr_lastColumn pi_cells pi_facings pi_sets pi_size po_needs ro_cells ro_lengths ro_shifts si_sightLaw si_sightRange th_unseen th_goals th_commonLength tr_marks tr_visited tr_size wh_places))) (va_Qi (fun (r : Int32) (u : Unit) => Q r) (fun (u : Unit) t => PW D A (wdC cI cL cZ ad ga_sightings ga_bestShifts ga_commonLength ga_allTimes gr_width gr_height gr_size gr_kinds gr_before gr_columns gr_rows gr_floorCells gr_clearCells gr_standCells gr_firstColumn gr_lastColumn pi_cells pi_facings pi_sets pi_size po_needs ro_cells ro_lengths ro_shifts si_sightLaw si_sightRange th_unseen th_goals th_commonLength tr_marks tr_visited tr_size wh_places) t.heap) A) 0 0 A := by
  refine Met.ofW (cc := cX0_worstOfAll) (maxL := 4) (ret := (some .int)) (by decide) rfl ?_
  intro p e s m args below meth c s₁ B hml hv
  obtain ⟨hav, hP0, hD0, hK⟩ := hv
  have hx := B.exec
  have hb := B.bytes
  have hr := B.returns
  have hts := atoms_spec (ws := wsX0_worstOfAll) B.pre
  have hown : s.vm.findClass RX0 = some m.cls := findClass_of_methodNamed B.named
  have hlocks := B.notSynchronized
  have hB : ∀ w ∈ BIG, w ∈ wsX0_worstOfAll := fun _ h => List.mem_cons_of_mem _ h
  have hin : ∀ w ∈ wsX00, w ∈ wsX0_worstOfAll := fun w h => hB w (inB_X0 w h)
  have lk19 := hts _ (hB _ m_220)
  obtain ⟨Z, hZ⟩ : ∃ Z : State → Prop, Z = MQ below (va_Qi (fun (r : Int32) (u : Unit) => Q r) (fun (u : Unit) t => PW D A (wdC cI cL cZ ad ga_sightings ga_bestShifts ga_commonLength ga_allTimes gr_width gr_height gr_size gr_kinds gr_before gr_columns gr_rows gr_floorCells gr_clearCells gr_standCells gr_firstColumn gr_lastColumn pi_cells pi_facings pi_sets pi_size po_needs ro_cells ro_lengths ro_shifts si_sightLaw si_sightRange th_unseen th_goals th_commonLength tr_marks tr_visited tr_size wh_places) t.heap) A) args s 0 0 A := ⟨_, rfl⟩
  rw [← hZ]
  have hw : SW D A s.heap (wdC cI cL cZ ad ga_sightings ga_bestShifts ga_commonLength ga_allTimes gr_width gr_height gr_size gr_kinds gr_before gr_columns gr_rows gr_floorCells gr_clearCells gr_standCells gr_firstColumn gr_lastColumn pi_cells pi_facings pi_sets pi_size po_needs ro_cells ro_lengths ro_shifts si_sightLaw si_sightRange th_unseen th_goals th_commonLength tr_marks tr_visited tr_size wh_places) s.heap [] := ⟨hP0, hD0, va_S.rf⟩
  clear hP0 hD0 B
  have J4 : ∀ (n : Nat) (x1 : Int32) (x2 : Int32) , L_ga_worstOfAll_4 ga_sightings ga_commonLength ga_allTimes pi_size ro_lengths ro_shifts Q n x1 x2 → ∀ (H : Heap) (locs : List Loc) (ls : Array Slot), SW D A s.heap (wdC cI cL cZ ad ga_sightings ga_bestShifts ga_commonLength ga_allTimes gr_width gr_height gr_size gr_kinds gr_before gr_columns gr_rows gr_floorCells gr_clearCells gr_standCells gr_firstColumn gr_lastColumn pi_cells pi_facings pi_sets pi_size po_needs ro_cells ro_lengths ro_shifts si_sightLaw si_sightRange th_unseen th_goals th_commonLength tr_marks tr_visited tr_size wh_places) H locs → lv_has ls 4 [(0, .ref (ad 0)), (1, .int x1), (2, .int x2)] → W p l e (headSpec wsX0_worstOfAll rm_ga_worstOfAll).room s m args below meth c H locs 0 0 Z (F0 m 4 ls []) := by
    intro  n
    induction n with
    | zero => intro x1 x2 h; exact h.elim
    | succ n ih =>
    intro x1 x2 h H locs ls hw hl
    unfold L_ga_worstOfAll_4 at h
    refine lv_iload_n hx hb dX0_worstOfAll_4 rfl (lv_at hl 2 rfl) ?_
    refine lv_aload_n hx hb dX0_worstOfAll_5 rfl (lv_at hl 0 rfl) ?_
    refine gC_ga_pictures hx hb hts hin hown hK hw lk19 dX0_worstOfAll_6 ?_
    refine cV_i (b := (ad 2)) (As := []) (rest := [.int x2]) ⟨hx, hb, hml, hown, hts⟩ hK hw (c_pi_size h) (cwV 0 hts (gd_RX0_40 hB) rfl rfl rfl (by decide +kernel) ⟨Nat.le_of_ble_eq_true rfl, Nat.le_of_ble_eq_true rfl⟩) (rC_pi hK hw) hl.1 ⟨Nat.zero_le _, Nat.zero_le _⟩ rfl rfl (Nat.le_of_ble_eq_true rfl) dX0_worstOfAll_9 (fun r9 _ H locs h hw => ?_)
    refine lv_icmp_ge (tgt := 42) hx hb dX0_worstOfAll_12 (by decide) (fun hc => ?_) (fun hc => ?_)
    · replace h := h.1 hc
      refine lv_iload_n hx hb dX0_worstOfAll_42 rfl (lv_at hl 1 rfl) ?_
      rw [hZ]
      exact rt_i () hx hb hr hlocks hw h dX0_worstOfAll_43
    · replace h := h.2 hc
      refine lv_aload_n hx hb dX0_worstOfAll_15 rfl (lv_at hl 0 rfl) ?_
      refine lv_iload_n hx hb dX0_worstOfAll_16 rfl (lv_at hl 2 rfl) ?_
      refine cV_i (b := (ad 0)) (As := [.int x2]) (rest := []) ⟨hx, hb, hml, hown, hts⟩ hK hw (c_ga_gapOf x2 h) (cwV 1 hts (gd_RX0_74 hB) rfl rfl rfl (by decide +kernel) ⟨Nat.le_of_ble_eq_true rfl, Nat.le_of_ble_eq_true rfl⟩) (rC_ga hK hw) hl.1 ⟨Nat.zero_le _, Nat.zero_le _⟩ rfl rfl (Nat.le_of_ble_eq_true rfl) dX0_worstOfAll_17 (fun r17 _ H locs h hw => ?_)
      refine lv_istore_n (lv' := [(3, .int r17), (0, .ref (ad 0)), (1, .int x1), (2, .int x2)]) hx hb dX0_worstOfAll_20 rfl hl (by decide) rfl (fun ls hl => ?_)
      refine lv_iload_n hx hb dX0_worstOfAll_21 rfl (lv_at hl 0 rfl) ?_
      refine lv_bipush (v := (-9)) hx hb dX0_worstOfAll_22 (by decide) ?_
      refine lv_icmp_ne (tgt := 30) hx hb dX0_worstOfAll_24 (by decide) (fun hc => ?_) (fun hc => ?_)
      · replace h := h.2 hc
        refine lv_iload_n hx hb dX0_worstOfAll_30 rfl (lv_at hl 2 rfl) ?_
        refine lv_iload_n hx hb dX0_worstOfAll_31 rfl (lv_at hl 0 rfl) ?_
        refine va_mmax hx hb (by rw [hml]; exact hl.1.symm) hown (hts _ (hB _ m_763)) (hts _ (hB _ m_441)) (hts _ (hB _ m_71)) (hts _ (hB _ m_442)) (Nat.le_of_ble_eq_true rfl) (Nat.le_of_ble_eq_true rfl) (Nat.zero_le _) (Nat.zero_le _) dX0_worstOfAll_32 ?_
        refine lv_topi (fun x1_35 ex1_35 => ?_)
        replace h := h x1_35 ex1_35
        refine lv_istore_n (lv' := [(1, .int x1_35), (3, .int r17), (0, .ref (ad 0)), (2, .int x2)]) hx hb dX0_worstOfAll_35 rfl hl (by decide) rfl (fun ls hl => ?_)
        refine lv_iinc (v := (x2 + (1 : Int32))) (lv' := [(2, .int (x2 + (1 : Int32))), (1, .int x1_35), (3, .int r17), (0, .ref (ad 0))]) hx hb dX0_worstOfAll_36 hl (k := 3) rfl rfl (by decide) rfl (fun ls hl => ?_)
        refine lv_goto (tgt := 4) hx hb dX0_worstOfAll_39 (by decide) ?_
        exact ih _ _ h _ _ _ hw (lv_sub hl [3, 1, 0] rfl)
      · replace h := h.1 hc
        refine lv_bipush (v := (-9)) hx hb dX0_worstOfAll_27 (by decide) ?_
        rw [hZ]
        exact rt_i () hx hb hr hlocks hw h dX0_worstOfAll_29
  unfold P_ga_worstOfAll at h
  have he : entryFrame m args 4 = entryFrame m ([.ref (ad 0)] : List Value).toArray 4 := by rw [hav]
  refine W.eq he ?_
  have hl := lv_entry ([.ref (ad 0)]) (n := 4) (Nat.le_of_ble_eq_true rfl)
  rw [lg_entry_eq]
  generalize (lg_sl ([.ref (ad 0)]) ++ List.replicate (4 - (lg_sl ([.ref (ad 0)])).length) Slot.unset).toArray = ls at hl ⊢
  have hl : lv_has ls 4 [(0, .ref (ad 0))] := hl
  refine lv_iconst (v := 0) hx hb dX0_worstOfAll_0 (by decide) ?_
  refine lv_istore_n (lv' := [(1, .int (0 : Int32)), (0, .ref (ad 0))]) hx hb dX0_worstOfAll_1 rfl hl (by decide) rfl (fun ls hl => ?_)
  refine lv_iconst (v := 0) hx hb dX0_worstOfAll_2 (by decide) ?_
  refine lv_istore_n (lv' := [(2, .int (0 : Int32)), (1, .int (0 : Int32)), (0, .ref (ad 0))]) hx hb dX0_worstOfAll_3 rfl hl (by decide) rfl (fun ls hl => ?_)
  obtain ⟨n4, h⟩ := h
  exact J4  n4 _ _ h _ _ _ hw (lv_sub hl [2, 1, 0] rfl)
