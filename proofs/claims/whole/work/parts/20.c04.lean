def rm_pi_clear : Room := { frames := 0, cells := 0, slots := 0, locals := 0 }
set_option maxHeartbeats 4000000 in
set_option maxRecDepth 100000 in
theorem c_pi_clear {l : Launch} {D : va_G} {cI cL cZ : ClassId} {mx my : Nat} {A : Nat → Prop} {ad : Nat → Nat} {ga_sightings th_unseen th_goals tr_visited : Nat → Int64} {ga_bestShifts gr_kinds gr_before gr_columns gr_rows pi_cells pi_facings pi_sets po_needs ro_cells ro_lengths ro_shifts tr_marks wh_places : Nat → Int32} {ga_commonLength gr_width gr_height gr_size pi_size si_sightLaw si_sightRange th_commonLength tr_size : Int32} {ga_allTimes gr_floorCells gr_clearCells gr_standCells gr_firstColumn gr_lastColumn : Int64}  {Q : Int32 → Prop} (h : P_pi_clear pi_size Q) : Met l yX2_clear wsX2_clear rm_pi_clear (va_Pc [.ref (ad 2)] (WC D cI cL cZ mx my A (wdC cI cL cZ ad ga_sightings ga_bestShifts ga_commonLength ga_allTimes gr_width gr_height gr_size gr_kinds gr_before gr_columns gr_rows gr_floorCells gr_clearCells gr_standCells gr_firstColumn gr_lastColumn pi_cells pi_facings pi_sets pi_size po_needs ro_cells ro_lengths ro_shifts si_sightLaw si_sightRange th_unseen th_goals th_commonLength tr_marks tr_visited tr_size wh_places))) (va_Qv (fun (u : Int32) => Q u) (fun (u : Int32) t => PW D A (wdC cI cL cZ ad ga_sightings ga_bestShifts ga_commonLength ga_allTimes gr_width gr_height gr_size gr_kinds gr_before gr_columns gr_rows gr_floorCells gr_clearCells gr_standCells gr_firstColumn gr_lastColumn pi_cells pi_facings pi_sets u po_needs ro_cells ro_lengths ro_shifts si_sightLaw si_sightRange th_unseen th_goals th_commonLength tr_marks tr_visited tr_size wh_places) t.heap) A) 0 0 A := by
  refine Met.ofW (cc := cX2_clear) (maxL := 1) (ret := none) (by decide) rfl ?_
  intro p e s m args below meth c s₁ B hml hv
  obtain ⟨hav, hP0, hD0, hK⟩ := hv
  have hx := B.exec
  have hb := B.bytes
  have hr := B.returns
  have hts := atoms_spec (ws := wsX2_clear) B.pre
  have hown : s.vm.findClass RX2 = some m.cls := findClass_of_methodNamed B.named
  have hlocks := B.notSynchronized
  have hB : ∀ w ∈ BIG, w ∈ wsX2_clear := fun _ h => List.mem_cons_of_mem _ h
  have hin : ∀ w ∈ wsX20, w ∈ wsX2_clear := fun w h => hB w (inB_X2 w h)
  have lk29 := hts _ (hB _ m_168)
  obtain ⟨Z, hZ⟩ : ∃ Z : State → Prop, Z = MQ below (va_Qv (fun (u : Int32) => Q u) (fun (u : Int32) t => PW D A (wdC cI cL cZ ad ga_sightings ga_bestShifts ga_commonLength ga_allTimes gr_width gr_height gr_size gr_kinds gr_before gr_columns gr_rows gr_floorCells gr_clearCells gr_standCells gr_firstColumn gr_lastColumn pi_cells pi_facings pi_sets u po_needs ro_cells ro_lengths ro_shifts si_sightLaw si_sightRange th_unseen th_goals th_commonLength tr_marks tr_visited tr_size wh_places) t.heap) A) args s 0 0 A := ⟨_, rfl⟩
  rw [← hZ]
  have hw : SW D A s.heap (wdC cI cL cZ ad ga_sightings ga_bestShifts ga_commonLength ga_allTimes gr_width gr_height gr_size gr_kinds gr_before gr_columns gr_rows gr_floorCells gr_clearCells gr_standCells gr_firstColumn gr_lastColumn pi_cells pi_facings pi_sets pi_size po_needs ro_cells ro_lengths ro_shifts si_sightLaw si_sightRange th_unseen th_goals th_commonLength tr_marks tr_visited tr_size wh_places) s.heap [] := ⟨hP0, hD0, va_S.rf⟩
  clear hP0 hD0 B
  unfold P_pi_clear at h
  have he : entryFrame m args 1 = entryFrame m ([.ref (ad 2)] : List Value).toArray 1 := by rw [hav]
  refine W.eq he ?_
  have hl := lv_entry ([.ref (ad 2)]) (n := 1) (Nat.le_of_ble_eq_true rfl)
  rw [lg_entry_eq]
  generalize (lg_sl ([.ref (ad 2)]) ++ List.replicate (1 - (lg_sl ([.ref (ad 2)])).length) Slot.unset).toArray = ls at hl ⊢
  have hl : lv_has ls 1 [(0, .ref (ad 2))] := hl
  refine lv_aload_n hx hb dX2_clear_0 rfl (lv_at hl 0 rfl) ?_
  refine lv_iconst (v := 0) hx hb dX2_clear_1 (by decide) ?_
  refine sC_pi_size hx hb hts hin hown hK hw lk29 dX2_clear_2 (fun H locs hw => ?_)
  rw [hZ]
  exact rt_v (0 : Int32) hx hb hr hlocks hw h dX2_clear_5
def rm_pi_isPicture : Room := { frames := 0, cells := 0, slots := 0, locals := 0 }
set_option maxHeartbeats 4000000 in
set_option maxRecDepth 100000 in
theorem c_pi_isPicture {l : Launch} {D : va_G} {cI cL cZ : ClassId} {mx my : Nat} {A : Nat → Prop} {ad : Nat → Nat} {ga_sightings th_unseen th_goals tr_visited : Nat → Int64} {ga_bestShifts gr_kinds gr_before gr_columns gr_rows pi_cells pi_facings pi_sets po_needs ro_cells ro_lengths ro_shifts tr_marks wh_places : Nat → Int32} {ga_commonLength gr_width gr_height gr_size pi_size si_sightLaw si_sightRange th_commonLength tr_size : Int32} {ga_allTimes gr_floorCells gr_clearCells gr_standCells gr_firstColumn gr_lastColumn : Int64} (x1 : Int32) {Q : Int32 → Prop} (h : P_pi_isPicture pi_size x1 Q) : Met l yX2_isPicture wsX2_isPicture rm_pi_isPicture (va_Pc [.ref (ad 2), .int x1] (WC D cI cL cZ mx my A (wdC cI cL cZ ad ga_sightings ga_bestShifts ga_commonLength ga_allTimes gr_width gr_height gr_size gr_kinds gr_before gr_columns gr_rows gr_floorCells gr_clearCells gr_standCells gr_firstColumn gr_lastColumn pi_cells pi_facings pi_sets pi_size po_needs ro_cells ro_lengths ro_shifts si_sightLaw si_sightRange th_unseen th_goals th_commonLength tr_marks tr_visited tr_size wh_places))) (va_Qi (fun (r : Int32) (u : Unit) => Q r) (fun (u : Unit) t => PW D A (wdC cI cL cZ ad ga_sightings ga_bestShifts ga_commonLength ga_allTimes gr_width gr_height gr_size gr_kinds gr_before gr_columns gr_rows gr_floorCells gr_clearCells gr_standCells gr_firstColumn gr_lastColumn pi_cells pi_facings pi_sets pi_size po_needs ro_cells ro_lengths ro_shifts si_sightLaw si_sightRange th_unseen th_goals th_commonLength tr_marks tr_visited tr_size wh_places) t.heap) A) 0 0 A := by
  refine Met.ofW (cc := cX2_isPicture) (maxL := 2) (ret := (some .boolean)) (by decide) rfl ?_
  intro p e s m args below meth c s₁ B hml hv
  obtain ⟨hav, hP0, hD0, hK⟩ := hv
  have hx := B.exec
  have hb := B.bytes
  have hr := B.returns
  have hts := atoms_spec (ws := wsX2_isPicture) B.pre
  have hown : s.vm.findClass RX2 = some m.cls := findClass_of_methodNamed B.named
  have hlocks := B.notSynchronized
  have hB : ∀ w ∈ BIG, w ∈ wsX2_isPicture := fun _ h => List.mem_cons_of_mem _ h
  have hin : ∀ w ∈ wsX20, w ∈ wsX2_isPicture := fun w h => hB w (inB_X2 w h)
  have lk29 := hts _ (hB _ m_168)
  obtain ⟨Z, hZ⟩ : ∃ Z : State → Prop, Z = MQ below (va_Qi (fun (r : Int32) (u : Unit) => Q r) (fun (u : Unit) t => PW D A (wdC cI cL cZ ad ga_sightings ga_bestShifts ga_commonLength ga_allTimes gr_width gr_height gr_size gr_kinds gr_before gr_columns gr_rows gr_floorCells gr_clearCells gr_standCells gr_firstColumn gr_lastColumn pi_cells pi_facings pi_sets pi_size po_needs ro_cells ro_lengths ro_shifts si_sightLaw si_sightRange th_unseen th_goals th_commonLength tr_marks tr_visited tr_size wh_places) t.heap) A) args s 0 0 A := ⟨_, rfl⟩
  rw [← hZ]
  have hw : SW D A s.heap (wdC cI cL cZ ad ga_sightings ga_bestShifts ga_commonLength ga_allTimes gr_width gr_height gr_size gr_kinds gr_before gr_columns gr_rows gr_floorCells gr_clearCells gr_standCells gr_firstColumn gr_lastColumn pi_cells pi_facings pi_sets pi_size po_needs ro_cells ro_lengths ro_shifts si_sightLaw si_sightRange th_unseen th_goals th_commonLength tr_marks tr_visited tr_size wh_places) s.heap [] := ⟨hP0, hD0, va_S.rf⟩
  clear hP0 hD0 B
  unfold P_pi_isPicture at h
  have he : entryFrame m args 2 = entryFrame m ([.ref (ad 2), .int x1] : List Value).toArray 2 := by rw [hav]
  refine W.eq he ?_
  have hl := lv_entry ([.ref (ad 2), .int x1]) (n := 2) (Nat.le_of_ble_eq_true rfl)
  rw [lg_entry_eq]
  generalize (lg_sl ([.ref (ad 2), .int x1]) ++ List.replicate (2 - (lg_sl ([.ref (ad 2), .int x1])).length) Slot.unset).toArray = ls at hl ⊢
  have hl : lv_has ls 2 [(0, .ref (ad 2)), (1, .int x1)] := hl
  refine lv_iload_n hx hb dX2_isPicture_0 rfl (lv_at hl 1 rfl) ?_
  refine lv_if_lt (tgt := 16) hx hb dX2_isPicture_1 (by decide) (fun hc => ?_) (fun hc => ?_)
  · replace h := h.1 hc
    refine lv_iconst (v := 0) hx hb dX2_isPicture_16 (by decide) ?_
    rw [hZ]
    exact rt_z () hx hb hr hlocks hw (by decide) h dX2_isPicture_17
  · replace h := h.2 hc
    refine lv_iload_n hx hb dX2_isPicture_4 rfl (lv_at hl 1 rfl) ?_
    refine lv_aload_n hx hb dX2_isPicture_5 rfl (lv_at hl 0 rfl) ?_
    refine gC_pi_size hx hb hts hin hown hK hw lk29 dX2_isPicture_6 ?_
    refine lv_icmp_ge (tgt := 16) hx hb dX2_isPicture_9 (by decide) (fun hc => ?_) (fun hc => ?_)
    · replace h := h.1 hc
      refine lv_iconst (v := 0) hx hb dX2_isPicture_16 (by decide) ?_
      rw [hZ]
      exact rt_z () hx hb hr hlocks hw (by decide) h dX2_isPicture_17
    · replace h := h.2 hc
      refine lv_iconst (v := 1) hx hb dX2_isPicture_12 (by decide) ?_
      refine lv_goto (tgt := 17) hx hb dX2_isPicture_13 (by decide) ?_
      rw [hZ]
      exact rt_z () hx hb hr hlocks hw (by decide) h dX2_isPicture_17
def rm_pi_cellOf : Room := { frames := 0, cells := 0, slots := 0, locals := 0 }
set_option maxHeartbeats 4000000 in
set_option maxRecDepth 100000 in
theorem c_pi_cellOf {l : Launch} {D : va_G} {cI cL cZ : ClassId} {mx my : Nat} {A : Nat → Prop} {ad : Nat → Nat} {ga_sightings th_unseen th_goals tr_visited : Nat → Int64} {ga_bestShifts gr_kinds gr_before gr_columns gr_rows pi_cells pi_facings pi_sets po_needs ro_cells ro_lengths ro_shifts tr_marks wh_places : Nat → Int32} {ga_commonLength gr_width gr_height gr_size pi_size si_sightLaw si_sightRange th_commonLength tr_size : Int32} {ga_allTimes gr_floorCells gr_clearCells gr_standCells gr_firstColumn gr_lastColumn : Int64} (x1 : Int32) {Q : Int32 → Prop} (h : P_pi_cellOf pi_cells x1 Q) : Met l yX2_cellOf wsX2_cellOf rm_pi_cellOf (va_Pc [.ref (ad 2), .int x1] (WC D cI cL cZ mx my A (wdC cI cL cZ ad ga_sightings ga_bestShifts ga_commonLength ga_allTimes gr_width gr_height gr_size gr_kinds gr_before gr_columns gr_rows gr_floorCells gr_clearCells gr_standCells gr_firstColumn gr_lastColumn pi_cells pi_facings pi_sets pi_size po_needs ro_cells ro_lengths ro_shifts si_sightLaw si_sightRange th_unseen th_goals th_commonLength tr_marks tr_visited tr_size wh_places))) (va_Qi (fun (r : Int32) (u : Unit) => Q r) (fun (u : Unit) t => PW D A (wdC cI cL cZ ad ga_sightings ga_bestShifts ga_commonLength ga_allTimes gr_width gr_height gr_size gr_kinds gr_before gr_columns gr_rows gr_floorCells gr_clearCells gr_standCells gr_firstColumn gr_lastColumn pi_cells pi_facings pi_sets pi_size po_needs ro_cells ro_lengths ro_shifts si_sightLaw si_sightRange th_unseen th_goals th_commonLength tr_marks tr_visited tr_size wh_places) t.heap) A) 0 0 A := by
  refine Met.ofW (cc := cX2_cellOf) (maxL := 2) (ret := (some .int)) (by decide) rfl ?_
  intro p e s m args below meth c s₁ B hml hv
  obtain ⟨hav, hP0, hD0, hK⟩ := hv
  have hx := B.exec
  have hb := B.bytes
  have hr := B.returns
  have hts := atoms_spec (ws := wsX2_cellOf) B.pre
  have hown : s.vm.findClass RX2 = some m.cls := findClass_of_methodNamed B.named
  have hlocks := B.notSynchronized
  have hB : ∀ w ∈ BIG, w ∈ wsX2_cellOf := fun _ h => List.mem_cons_of_mem _ h
  have hin : ∀ w ∈ wsX20, w ∈ wsX2_cellOf := fun w h => hB w (inB_X2 w h)
  have lk9 := hts _ (hB _ m_165)
  obtain ⟨Z, hZ⟩ : ∃ Z : State → Prop, Z = MQ below (va_Qi (fun (r : Int32) (u : Unit) => Q r) (fun (u : Unit) t => PW D A (wdC cI cL cZ ad ga_sightings ga_bestShifts ga_commonLength ga_allTimes gr_width gr_height gr_size gr_kinds gr_before gr_columns gr_rows gr_floorCells gr_clearCells gr_standCells gr_firstColumn gr_lastColumn pi_cells pi_facings pi_sets pi_size po_needs ro_cells ro_lengths ro_shifts si_sightLaw si_sightRange th_unseen th_goals th_commonLength tr_marks tr_visited tr_size wh_places) t.heap) A) args s 0 0 A := ⟨_, rfl⟩
  rw [← hZ]
  have hw : SW D A s.heap (wdC cI cL cZ ad ga_sightings ga_bestShifts ga_commonLength ga_allTimes gr_width gr_height gr_size gr_kinds gr_before gr_columns gr_rows gr_floorCells gr_clearCells gr_standCells gr_firstColumn gr_lastColumn pi_cells pi_facings pi_sets pi_size po_needs ro_cells ro_lengths ro_shifts si_sightLaw si_sightRange th_unseen th_goals th_commonLength tr_marks tr_visited tr_size wh_places) s.heap [] := ⟨hP0, hD0, va_S.rf⟩
  clear hP0 hD0 B
  unfold P_pi_cellOf at h
  have he : entryFrame m args 2 = entryFrame m ([.ref (ad 2), .int x1] : List Value).toArray 2 := by rw [hav]
  refine W.eq he ?_
  have hl := lv_entry ([.ref (ad 2), .int x1]) (n := 2) (Nat.le_of_ble_eq_true rfl)
  rw [lg_entry_eq]
  generalize (lg_sl ([.ref (ad 2), .int x1]) ++ List.replicate (2 - (lg_sl ([.ref (ad 2), .int x1])).length) Slot.unset).toArray = ls at hl ⊢
  have hl : lv_has ls 2 [(0, .ref (ad 2)), (1, .int x1)] := hl
  refine lv_aload_n hx hb dX2_cellOf_0 rfl (lv_at hl 0 rfl) ?_
  refine gC_pi_cells hx hb hts hin hown hK hw lk9 dX2_cellOf_1 ?_
  refine lv_iload_n hx hb dX2_cellOf_4 rfl (lv_at hl 1 rfl) ?_
  refine aC_pi_cells hx hb hK hw h.1 dX2_cellOf_5 ?_
  replace h := h.2
  rw [hZ]
  exact rt_i () hx hb hr hlocks hw h dX2_cellOf_6
def rm_pi_facingOf : Room := { frames := 0, cells := 0, slots := 0, locals := 0 }
set_option maxHeartbeats 4000000 in
set_option maxRecDepth 100000 in
theorem c_pi_facingOf {l : Launch} {D : va_G} {cI cL cZ : ClassId} {mx my : Nat} {A : Nat → Prop} {ad : Nat → Nat} {ga_sightings th_unseen th_goals tr_visited : Nat → Int64} {ga_bestShifts gr_kinds gr_before gr_columns gr_rows pi_cells pi_facings pi_sets po_needs ro_cells ro_lengths ro_shifts tr_marks wh_places : Nat → Int32} {ga_commonLength gr_width gr_height gr_size pi_size si_sightLaw si_sightRange th_commonLength tr_size : Int32} {ga_allTimes gr_floorCells gr_clearCells gr_standCells gr_firstColumn gr_lastColumn : Int64} (x1 : Int32) {Q : Int32 → Prop} (h : P_pi_facingOf pi_facings x1 Q) : Met l yX2_facingOf wsX2_facingOf rm_pi_facingOf (va_Pc [.ref (ad 2), .int x1] (WC D cI cL cZ mx my A (wdC cI cL cZ ad ga_sightings ga_bestShifts ga_commonLength ga_allTimes gr_width gr_height gr_size gr_kinds gr_before gr_columns gr_rows gr_floorCells gr_clearCells gr_standCells gr_firstColumn gr_lastColumn pi_cells pi_facings pi_sets pi_size po_needs ro_cells ro_lengths ro_shifts si_sightLaw si_sightRange th_unseen th_goals th_commonLength tr_marks tr_visited tr_size wh_places))) (va_Qi (fun (r : Int32) (u : Unit) => Q r) (fun (u : Unit) t => PW D A (wdC cI cL cZ ad ga_sightings ga_bestShifts ga_commonLength ga_allTimes gr_width gr_height gr_size gr_kinds gr_before gr_columns gr_rows gr_floorCells gr_clearCells gr_standCells gr_firstColumn gr_lastColumn pi_cells pi_facings pi_sets pi_size po_needs ro_cells ro_lengths ro_shifts si_sightLaw si_sightRange th_unseen th_goals th_commonLength tr_marks tr_visited tr_size wh_places) t.heap) A) 0 0 A := by
  refine Met.ofW (cc := cX2_facingOf) (maxL := 2) (ret := (some .int)) (by decide) rfl ?_
  intro p e s m args below meth c s₁ B hml hv
  obtain ⟨hav, hP0, hD0, hK⟩ := hv
  have hx := B.exec
  have hb := B.bytes
  have hr := B.returns
  have hts := atoms_spec (ws := wsX2_facingOf) B.pre
  have hown : s.vm.findClass RX2 = some m.cls := findClass_of_methodNamed B.named
  have hlocks := B.notSynchronized
  have hB : ∀ w ∈ BIG, w ∈ wsX2_facingOf := fun _ h => List.mem_cons_of_mem _ h
  have hin : ∀ w ∈ wsX20, w ∈ wsX2_facingOf := fun w h => hB w (inB_X2 w h)
  have lk15 := hts _ (hB _ m_166)
  obtain ⟨Z, hZ⟩ : ∃ Z : State → Prop, Z = MQ below (va_Qi (fun (r : Int32) (u : Unit) => Q r) (fun (u : Unit) t => PW D A (wdC cI cL cZ ad ga_sightings ga_bestShifts ga_commonLength ga_allTimes gr_width gr_height gr_size gr_kinds gr_before gr_columns gr_rows gr_floorCells gr_clearCells gr_standCells gr_firstColumn gr_lastColumn pi_cells pi_facings pi_sets pi_size po_needs ro_cells ro_lengths ro_shifts si_sightLaw si_sightRange th_unseen th_goals th_commonLength tr_marks tr_visited tr_size wh_places) t.heap) A) args s 0 0 A := ⟨_, rfl⟩
  rw [← hZ]
  have hw : SW D A s.heap (wdC cI cL cZ ad ga_sightings ga_bestShifts ga_commonLength ga_allTimes gr_width gr_height gr_size gr_kinds gr_before gr_columns gr_rows gr_floorCells gr_clearCells gr_standCells gr_firstColumn gr_lastColumn pi_cells pi_facings pi_sets pi_size po_needs ro_cells ro_lengths ro_shifts si_sightLaw si_sightRange th_unseen th_goals th_commonLength tr_marks tr_visited tr_size wh_places) s.heap [] := ⟨hP0, hD0, va_S.rf⟩
  clear hP0 hD0 B
  unfold P_pi_facingOf at h
  have he : entryFrame m args 2 = entryFrame m ([.ref (ad 2), .int x1] : List Value).toArray 2 := by rw [hav]
  refine W.eq he ?_
  have hl := lv_entry ([.ref (ad 2), .int x1]) (n := 2) (Nat.le_of_ble_eq_true rfl)
  rw [lg_entry_eq]
  generalize (lg_sl ([.ref (ad 2), .int x1]) ++ List.replicate (2 - (lg_sl ([.ref (ad 2), .int x1])).length) Slot.unset).toArray = ls at hl ⊢
  have hl : lv_has ls 2 [(0, .ref (ad 2)), (1, .int x1)] := hl
  refine lv_aload_n hx hb dX2_facingOf_0 rfl (lv_at hl 0 rfl) ?_
  refine gC_pi_facings hx hb hts hin hown hK hw lk15 dX2_facingOf_1 ?_
  refine lv_iload_n hx hb dX2_facingOf_4 rfl (lv_at hl 1 rfl) ?_
  refine aC_pi_facings hx hb hK hw h.1 dX2_facingOf_5 ?_
  replace h := h.2
  rw [hZ]
  exact rt_i () hx hb hr hlocks hw h dX2_facingOf_6
def rm_pi_hang : Room := { frames := 0, cells := 0, slots := 0, locals := 0 }
set_option maxHeartbeats 4000000 in
set_option maxRecDepth 100000 in
theorem c_pi_hang {l : Launch} {D : va_G} {cI cL cZ : ClassId} {mx my : Nat} {A : Nat → Prop} {ad : Nat → Nat} {ga_sightings th_unseen th_goals tr_visited : Nat → Int64} {ga_bestShifts gr_kinds gr_before gr_columns gr_rows pi_cells pi_facings pi_sets po_needs ro_cells ro_lengths ro_shifts tr_marks wh_places : Nat → Int32} {ga_commonLength gr_width gr_height gr_size pi_size si_sightLaw si_sightRange th_commonLength tr_size : Int32} {ga_allTimes gr_floorCells gr_clearCells gr_standCells gr_firstColumn gr_lastColumn : Int64} (x1 : Int32) (x2 : Int32) {Q : Int32 → (Nat → Int32) → (Nat → Int32) → Int32 → Prop} (h : P_pi_hang pi_cells pi_facings pi_size x1 x2 Q) : Met l yX2_hang wsX2_hang rm_pi_hang (va_Pc [.ref (ad 2), .int x1, .int x2] (WC D cI cL cZ mx my A (wdC cI cL cZ ad ga_sightings ga_bestShifts ga_commonLength ga_allTimes gr_width gr_height gr_size gr_kinds gr_before gr_columns gr_rows gr_floorCells gr_clearCells gr_standCells gr_firstColumn gr_lastColumn pi_cells pi_facings pi_sets pi_size po_needs ro_cells ro_lengths ro_shifts si_sightLaw si_sightRange th_unseen th_goals th_commonLength tr_marks tr_visited tr_size wh_places))) (va_Qi (fun (r : Int32) (u : (Nat → Int32) × (Nat → Int32) × Int32) => Q r u.1 u.2.1 u.2.2) (fun (u : (Nat → Int32) × (Nat → Int32) × Int32) t => PW D A (wdC cI cL cZ ad ga_sightings ga_bestShifts ga_commonLength ga_allTimes gr_width gr_height gr_size gr_kinds gr_before gr_columns gr_rows gr_floorCells gr_clearCells gr_standCells gr_firstColumn gr_lastColumn u.1 u.2.1 pi_sets u.2.2 po_needs ro_cells ro_lengths ro_shifts si_sightLaw si_sightRange th_unseen th_goals th_commonLength tr_marks tr_visited tr_size wh_places) t.heap) A) 0 0 A := by
  refine Met.ofW (cc := cX2_hang) (maxL := 3) (ret := (some .int)) (by decide) rfl ?_
  intro p e s m args below meth c s₁ B hml hv
  obtain ⟨hav, hP0, hD0, hK⟩ := hv
  have hx := B.exec
  have hb := B.bytes
  have hr := B.returns
  have hts := atoms_spec (ws := wsX2_hang) B.pre
  have hown : s.vm.findClass RX2 = some m.cls := findClass_of_methodNamed B.named
  have hlocks := B.notSynchronized
  have hB : ∀ w ∈ BIG, w ∈ wsX2_hang := fun _ h => List.mem_cons_of_mem _ h
  have hin : ∀ w ∈ wsX20, w ∈ wsX2_hang := fun w h => hB w (inB_X2 w h)
  have lk9 := hts _ (hB _ m_165)
  have lk15 := hts _ (hB _ m_166)
  have lk29 := hts _ (hB _ m_168)
  obtain ⟨Z, hZ⟩ : ∃ Z : State → Prop, Z = MQ below (va_Qi (fun (r : Int32) (u : (Nat → Int32) × (Nat → Int32) × Int32) => Q r u.1 u.2.1 u.2.2) (fun (u : (Nat → Int32) × (Nat → Int32) × Int32) t => PW D A (wdC cI cL cZ ad ga_sightings ga_bestShifts ga_commonLength ga_allTimes gr_width gr_height gr_size gr_kinds gr_before gr_columns gr_rows gr_floorCells gr_clearCells gr_standCells gr_firstColumn gr_lastColumn u.1 u.2.1 pi_sets u.2.2 po_needs ro_cells ro_lengths ro_shifts si_sightLaw si_sightRange th_unseen th_goals th_commonLength tr_marks tr_visited tr_size wh_places) t.heap) A) args s 0 0 A := ⟨_, rfl⟩
  rw [← hZ]
  have hw : SW D A s.heap (wdC cI cL cZ ad ga_sightings ga_bestShifts ga_commonLength ga_allTimes gr_width gr_height gr_size gr_kinds gr_before gr_columns gr_rows gr_floorCells gr_clearCells gr_standCells gr_firstColumn gr_lastColumn pi_cells pi_facings pi_sets pi_size po_needs ro_cells ro_lengths ro_shifts si_sightLaw si_sightRange th_unseen th_goals th_commonLength tr_marks tr_visited tr_size wh_places) s.heap [] := ⟨hP0, hD0, va_S.rf⟩
  clear hP0 hD0 B
  unfold P_pi_hang at h
  have he : entryFrame m args 3 = entryFrame m ([.ref (ad 2), .int x1, .int x2] : List Value).toArray 3 := by rw [hav]
  refine W.eq he ?_
  have hl := lv_entry ([.ref (ad 2), .int x1, .int x2]) (n := 3) (Nat.le_of_ble_eq_true rfl)
  rw [lg_entry_eq]
  generalize (lg_sl ([.ref (ad 2), .int x1, .int x2]) ++ List.replicate (3 - (lg_sl ([.ref (ad 2), .int x1, .int x2])).length) Slot.unset).toArray = ls at hl ⊢
  have hl : lv_has ls 3 [(0, .ref (ad 2)), (1, .int x1), (2, .int x2)] := hl
  refine lv_aload_n hx hb dX2_hang_0 rfl (lv_at hl 0 rfl) ?_
  refine gC_pi_size hx hb hts hin hown hK hw lk29 dX2_hang_1 ?_
  refine lv_bipush (v := 8) hx hb dX2_hang_4 (by decide) ?_
  refine lv_icmp_lt (tgt := 12) hx hb dX2_hang_6 (by decide) (fun hc => ?_) (fun hc => ?_)
  · replace h := h.1 hc
    refine lv_aload_n hx hb dX2_hang_12 rfl (lv_at hl 0 rfl) ?_
    refine gC_pi_cells hx hb hts hin hown hK hw lk9 dX2_hang_13 ?_
    refine lv_aload_n hx hb dX2_hang_16 rfl (lv_at hl 0 rfl) ?_
    refine gC_pi_size hx hb hts hin hown hK hw lk29 dX2_hang_17 ?_
    refine lv_iload_n hx hb dX2_hang_20 rfl (lv_at hl 1 rfl) ?_
    refine tC_pi_cells hx hb hK hw h.1 dX2_hang_21 (fun H locs hw => ?_)
    replace h := h.2
    refine lv_aload_n hx hb dX2_hang_22 rfl (lv_at hl 0 rfl) ?_
    refine gC_pi_facings hx hb hts hin hown hK hw lk15 dX2_hang_23 ?_
    refine lv_aload_n hx hb dX2_hang_26 rfl (lv_at hl 0 rfl) ?_
    refine gC_pi_size hx hb hts hin hown hK hw lk29 dX2_hang_27 ?_
    refine lv_iload_n hx hb dX2_hang_30 rfl (lv_at hl 2 rfl) ?_
    refine tC_pi_facings hx hb hK hw h.1 dX2_hang_31 (fun H locs hw => ?_)
    replace h := h.2
    refine lv_aload_n hx hb dX2_hang_32 rfl (lv_at hl 0 rfl) ?_
    refine lv_dup hx hb dX2_hang_33 rfl ?_
    refine gC_pi_size hx hb hts hin hown hK hw lk29 dX2_hang_34 ?_
    refine lv_iconst (v := 1) hx hb dX2_hang_37 (by decide) ?_
    refine lv_iadd hx hb dX2_hang_38 ?_
    refine sC_pi_size hx hb hts hin hown hK hw lk29 dX2_hang_39 (fun H locs hw => ?_)
    refine lv_aload_n hx hb dX2_hang_42 rfl (lv_at hl 0 rfl) ?_
    refine gC_pi_size hx hb hts hin hown hK hw lk29 dX2_hang_43 ?_
    refine lv_iconst (v := 1) hx hb dX2_hang_46 (by decide) ?_
    refine lv_isub hx hb dX2_hang_47 ?_
    rw [hZ]
    exact rt_i ((upd pi_cells pi_size.toNatClampNeg x1), (upd pi_facings pi_size.toNatClampNeg x2), (pi_size + (1 : Int32))) hx hb hr hlocks hw h dX2_hang_48
  · replace h := h.2 hc
    refine lv_bipush (v := (-4)) hx hb dX2_hang_9 (by decide) ?_
    rw [hZ]
    exact rt_i (pi_cells, pi_facings, pi_size) hx hb hr hlocks hw h dX2_hang_11
def rm_pi_lookFrom : Room := { frames := 4, cells := 0, slots := 0, locals := 99 }
set_option maxHeartbeats 4000000 in
set_option maxRecDepth 100000 in
theorem c_pi_lookFrom {l : Launch} {D : va_G} {cI cL cZ : ClassId} {mx my : Nat} {A : Nat → Prop} {ad : Nat → Nat} {ga_sightings th_unseen th_goals tr_visited : Nat → Int64} {ga_bestShifts gr_kinds gr_before gr_columns gr_rows pi_cells pi_facings pi_sets po_needs ro_cells ro_lengths ro_shifts tr_marks wh_places : Nat → Int32} {ga_commonLength gr_width gr_height gr_size pi_size si_sightLaw si_sightRange th_commonLength tr_size : Int32} {ga_allTimes gr_floorCells gr_clearCells gr_standCells gr_firstColumn gr_lastColumn : Int64} (x1 : Int32) {Q : Int32 → Prop} (h : P_pi_lookFrom gr_width gr_columns gr_rows gr_floorCells gr_clearCells gr_standCells pi_cells pi_facings pi_size si_sightLaw si_sightRange x1 Q) : Met l yX2_lookFrom wsX2_lookFrom rm_pi_lookFrom (va_Pc [.ref (ad 2), .int x1] (WC D cI cL cZ mx my A (wdC cI cL cZ ad ga_sightings ga_bestShifts ga_commonLength ga_allTimes gr_width gr_height gr_size gr_kinds gr_before gr_columns gr_rows gr_floorCells gr_clearCells gr_standCells gr_firstColumn gr_lastColumn pi_cells pi_facings pi_sets pi_size po_needs ro_cells ro_lengths ro_shifts si_sightLaw si_sightRange th_unseen th_goals th_commonLength tr_marks tr_visited tr_size wh_places))) (va_Qi (fun (r : Int32) (u : Unit) => Q r) (fun (u : Unit) t => PW D A (wdC cI cL cZ ad ga_sightings ga_bestShifts ga_commonLength ga_allTimes gr_width gr_height gr_size gr_kinds gr_before gr_columns gr_rows gr_floorCells gr_clearCells gr_standCells gr_firstColumn gr_lastColumn pi_cells pi_facings pi_sets pi_size po_needs ro_cells ro_lengths ro_shifts si_sightLaw si_sightRange th_unseen th_goals th_commonLength tr_marks tr_visited tr_size wh_places) t.heap) A) 0 0 A := by
  refine Met.ofW (cc := cX2_lookFrom) (maxL := 4) (ret := (some .int)) (by decide) rfl ?_
  intro p e s m args below meth c s₁ B hml hv
  obtain ⟨hav, hP0, hD0, hK⟩ := hv
  have hx := B.exec
  have hb := B.bytes
  have hr := B.returns
  have hts := atoms_spec (ws := wsX2_lookFrom) B.pre
  have hown : s.vm.findClass RX2 = some m.cls := findClass_of_methodNamed B.named
  have hlocks := B.notSynchronized
  have hB : ∀ w ∈ BIG, w ∈ wsX2_lookFrom := fun _ h => List.mem_cons_of_mem _ h
  have hin : ∀ w ∈ wsX20, w ∈ wsX2_lookFrom := fun w h => hB w (inB_X2 w h)
  have lk29 := hts _ (hB _ m_168)
  obtain ⟨Z, hZ⟩ : ∃ Z : State → Prop, Z = MQ below (va_Qi (fun (r : Int32) (u : Unit) => Q r) (fun (u : Unit) t => PW D A (wdC cI cL cZ ad ga_sightings ga_bestShifts ga_commonLength ga_allTimes gr_width gr_height gr_size gr_kinds gr_before gr_columns gr_rows gr_floorCells gr_clearCells gr_standCells gr_firstColumn gr_lastColumn pi_cells pi_facings pi_sets pi_size po_needs ro_cells ro_lengths ro_shifts si_sightLaw si_sightRange th_unseen th_goals th_commonLength tr_marks tr_visited tr_size wh_places) t.heap) A) args s 0 0 A := ⟨_, rfl⟩
  rw [← hZ]
  have hw : SW D A s.heap (wdC cI cL cZ ad ga_sightings ga_bestShifts ga_commonLength ga_allTimes gr_width gr_height gr_size gr_kinds gr_before gr_columns gr_rows gr_floorCells gr_clearCells gr_standCells gr_firstColumn gr_lastColumn pi_cells pi_facings pi_sets pi_size po_needs ro_cells ro_lengths ro_shifts si_sightLaw si_sightRange th_unseen th_goals th_commonLength tr_marks tr_visited tr_size wh_places) s.heap [] := ⟨hP0, hD0, va_S.rf⟩
  clear hP0 hD0 B
  have J4 : ∀ (n : Nat) (x1 : Int32) (x2 : Int32) (x3 : Int32) , L_pi_lookFrom_4 gr_width gr_columns gr_rows gr_floorCells gr_clearCells gr_standCells pi_cells pi_facings pi_size si_sightLaw si_sightRange Q n x1 x2 x3 → ∀ (H : Heap) (locs : List Loc) (ls : Array Slot), SW D A s.heap (wdC cI cL cZ ad ga_sightings ga_bestShifts ga_commonLength ga_allTimes gr_width gr_height gr_size gr_kinds gr_before gr_columns gr_rows gr_floorCells gr_clearCells gr_standCells gr_firstColumn gr_lastColumn pi_cells pi_facings pi_sets pi_size po_needs ro_cells ro_lengths ro_shifts si_sightLaw si_sightRange th_unseen th_goals th_commonLength tr_marks tr_visited tr_size wh_places) H locs → lv_has ls 4 [(0, .ref (ad 2)), (1, .int x1), (2, .int x2), (3, .int x3)] → W p l e (headSpec wsX2_lookFrom rm_pi_lookFrom).room s m args below meth c H locs 0 0 Z (F0 m 4 ls []) := by
    intro  n
    induction n with
    | zero => intro x1 x2 x3 h; exact h.elim
    | succ n ih =>
    intro x1 x2 x3 h H locs ls hw hl
    unfold L_pi_lookFrom_4 at h
    refine lv_iload_n hx hb dX2_lookFrom_4 rfl (lv_at hl 3 rfl) ?_
    refine lv_aload_n hx hb dX2_lookFrom_5 rfl (lv_at hl 0 rfl) ?_
    refine gC_pi_size hx hb hts hin hown hK hw lk29 dX2_lookFrom_6 ?_
    refine lv_icmp_ge (tgt := 37) hx hb dX2_lookFrom_9 (by decide) (fun hc => ?_) (fun hc => ?_)
    · replace h := h.1 hc
      refine lv_iload_n hx hb dX2_lookFrom_37 rfl (lv_at hl 2 rfl) ?_
      rw [hZ]
      exact rt_i () hx hb hr hlocks hw h dX2_lookFrom_38
    · replace h := h.2 hc
      refine lv_iload_n hx hb dX2_lookFrom_12 rfl (lv_at hl 2 rfl) ?_
      refine lv_aload_n hx hb dX2_lookFrom_13 rfl (lv_at hl 0 rfl) ?_
      refine lv_iload_n hx hb dX2_lookFrom_14 rfl (lv_at hl 3 rfl) ?_
      refine lv_iload_n hx hb dX2_lookFrom_15 rfl (lv_at hl 1 rfl) ?_
      refine cV_i (b := (ad 2)) (As := [.int x3, .int x1]) (rest := [.int x2]) ⟨hx, hb, hml, hown, hts⟩ hK hw (c_pi_isSeenFrom x3 x1 h) (cwV 2 hts (gd_RX2_57 hB) rfl rfl rfl (by decide +kernel) ⟨Nat.le_of_ble_eq_true rfl, Nat.le_of_ble_eq_true rfl⟩) (rC_pi hK hw) hl.1 ⟨Nat.zero_le _, Nat.zero_le _⟩ rfl rfl (Nat.le_of_ble_eq_true rfl) dX2_lookFrom_16 (fun r16 _ H locs h hw => ?_)
      refine lv_if_eq (tgt := 28) hx hb dX2_lookFrom_19 (by decide) (fun hc => ?_) (fun hc => ?_)
      · replace h := h.1 hc
        refine lv_iconst (v := 0) hx hb dX2_lookFrom_28 (by decide) ?_
        refine lv_ior hx hb dX2_lookFrom_29 ?_
        refine lv_topi (fun x2_30 ex2_30 => ?_)
        replace h := h x2_30 ex2_30
        refine lv_istore_n (lv' := [(2, .int x2_30), (0, .ref (ad 2)), (1, .int x1), (3, .int x3)]) hx hb dX2_lookFrom_30 rfl hl (by decide) rfl (fun ls hl => ?_)
        refine lv_iinc (v := (x3 + (1 : Int32))) (lv' := [(3, .int (x3 + (1 : Int32))), (2, .int x2_30), (0, .ref (ad 2)), (1, .int x1)]) hx hb dX2_lookFrom_31 hl (k := 3) rfl rfl (by decide) rfl (fun ls hl => ?_)
        refine lv_goto (tgt := 4) hx hb dX2_lookFrom_34 (by decide) ?_
        exact ih _ _ _ h _ _ _ hw (lv_sub hl [2, 3, 1, 0] rfl)
      · replace h := h.2 hc
        refine lv_iconst (v := 1) hx hb dX2_lookFrom_22 (by decide) ?_
        refine lv_iload_n hx hb dX2_lookFrom_23 rfl (lv_at hl 3 rfl) ?_
        refine lv_ishl hx hb dX2_lookFrom_24 ?_
        refine lv_goto (tgt := 29) hx hb dX2_lookFrom_25 (by decide) ?_
        refine lv_ior hx hb dX2_lookFrom_29 ?_
        refine lv_topi (fun x2_30 ex2_30 => ?_)
        replace h := h x2_30 ex2_30
        refine lv_istore_n (lv' := [(2, .int x2_30), (0, .ref (ad 2)), (1, .int x1), (3, .int x3)]) hx hb dX2_lookFrom_30 rfl hl (by decide) rfl (fun ls hl => ?_)
        refine lv_iinc (v := (x3 + (1 : Int32))) (lv' := [(3, .int (x3 + (1 : Int32))), (2, .int x2_30), (0, .ref (ad 2)), (1, .int x1)]) hx hb dX2_lookFrom_31 hl (k := 3) rfl rfl (by decide) rfl (fun ls hl => ?_)
        refine lv_goto (tgt := 4) hx hb dX2_lookFrom_34 (by decide) ?_
        exact ih _ _ _ h _ _ _ hw (lv_sub hl [2, 3, 1, 0] rfl)
  unfold P_pi_lookFrom at h
  have he : entryFrame m args 4 = entryFrame m ([.ref (ad 2), .int x1] : List Value).toArray 4 := by rw [hav]
  refine W.eq he ?_
  have hl := lv_entry ([.ref (ad 2), .int x1]) (n := 4) (Nat.le_of_ble_eq_true rfl)
  rw [lg_entry_eq]
  generalize (lg_sl ([.ref (ad 2), .int x1]) ++ List.replicate (4 - (lg_sl ([.ref (ad 2), .int x1])).length) Slot.unset).toArray = ls at hl ⊢
  have hl : lv_has ls 4 [(0, .ref (ad 2)), (1, .int x1)] := hl
  refine lv_iconst (v := 0) hx hb dX2_lookFrom_0 (by decide) ?_
  refine lv_istore_n (lv' := [(2, .int (0 : Int32)), (0, .ref (ad 2)), (1, .int x1)]) hx hb dX2_lookFrom_1 rfl hl (by decide) rfl (fun ls hl => ?_)
  refine lv_iconst (v := 0) hx hb dX2_lookFrom_2 (by decide) ?_
  refine lv_istore_n (lv' := [(3, .int (0 : Int32)), (2, .int (0 : Int32)), (0, .ref (ad 2)), (1, .int x1)]) hx hb dX2_lookFrom_3 rfl hl (by decide) rfl (fun ls hl => ?_)
  obtain ⟨n4, h⟩ := h
  exact J4  n4 _ _ _ h _ _ _ hw (lv_sub hl [2, 3, 1, 0] rfl)
def rm_pi_survey : Room := { frames := 5, cells := 0, slots := 0, locals := 122 }
set_option maxHeartbeats 4000000 in
set_option maxRecDepth 100000 in
theorem c_pi_survey {l : Launch} {D : va_G} {cI cL cZ : ClassId} {mx my : Nat} {A : Nat → Prop} {ad : Nat → Nat} {ga_sightings th_unseen th_goals tr_visited : Nat → Int64} {ga_bestShifts gr_kinds gr_before gr_columns gr_rows pi_cells pi_facings pi_sets po_needs ro_cells ro_lengths ro_shifts tr_marks wh_places : Nat → Int32} {ga_commonLength gr_width gr_height gr_size pi_size si_sightLaw si_sightRange th_commonLength tr_size : Int32} {ga_allTimes gr_floorCells gr_clearCells gr_standCells gr_firstColumn gr_lastColumn : Int64}  {Q : (Nat → Int32) → Prop} (h : P_pi_survey gr_width gr_size gr_columns gr_rows gr_floorCells gr_clearCells gr_standCells pi_cells pi_facings pi_sets pi_size si_sightLaw si_sightRange Q) : Met l yX2_survey wsX2_survey rm_pi_survey (va_Pc [.ref (ad 2)] (WC D cI cL cZ mx my A (wdC cI cL cZ ad ga_sightings ga_bestShifts ga_commonLength ga_allTimes gr_width gr_height gr_size gr_kinds gr_before gr_columns gr_rows gr_floorCells gr_clearCells gr_standCells gr_firstColumn gr_lastColumn pi_cells pi_facings pi_sets pi_size po_needs ro_cells ro_lengths ro_shifts si_sightLaw si_sightRange th_unseen th_goals th_commonLength tr_marks tr_visited tr_size wh_places))) (va_Qv (fun (u : (Nat → Int32)) => Q u) (fun (u : (Nat → Int32)) t => PW D A (wdC cI cL cZ ad ga_sightings ga_bestShifts ga_commonLength ga_allTimes gr_width gr_height gr_size gr_kinds gr_before gr_columns gr_rows gr_floorCells gr_clearCells gr_standCells gr_firstColumn gr_lastColumn pi_cells pi_facings u pi_size po_needs ro_cells ro_lengths ro_shifts si_sightLaw si_sightRange th_unseen th_goals th_commonLength tr_marks tr_visited tr_size wh_places) t.heap) A) 0 0 A := by
  refine Met.ofW (cc := cX2_survey) (maxL := 2) (ret := none) (by decide) rfl ?_
  intro p e s m args below meth c s₁ B hml hv
  obtain ⟨hav, hP0, hD0, hK⟩ := hv
  have hx := B.exec
  have hb := B.bytes
  have hr := B.returns
  have hts := atoms_spec (ws := wsX2_survey) B.pre
  have hown : s.vm.findClass RX2 = some m.cls := findClass_of_methodNamed B.named
  have hlocks := B.notSynchronized
  have hB : ∀ w ∈ BIG, w ∈ wsX2_survey := fun _ h => List.mem_cons_of_mem _ h
  have hin : ∀ w ∈ wsX20, w ∈ wsX2_survey := fun w h => hB w (inB_X2 w h)
  have lk18 := hts _ (hB _ m_167)
  have lk21 := hts _ (hB _ m_163)
  obtain ⟨Z, hZ⟩ : ∃ Z : State → Prop, Z = MQ below (va_Qv (fun (u : (Nat → Int32)) => Q u) (fun (u : (Nat → Int32)) t => PW D A (wdC cI cL cZ ad ga_sightings ga_bestShifts ga_commonLength ga_allTimes gr_width gr_height gr_size gr_kinds gr_before gr_columns gr_rows gr_floorCells gr_clearCells gr_standCells gr_firstColumn gr_lastColumn pi_cells pi_facings u pi_size po_needs ro_cells ro_lengths ro_shifts si_sightLaw si_sightRange th_unseen th_goals th_commonLength tr_marks tr_visited tr_size wh_places) t.heap) A) args s 0 0 A := ⟨_, rfl⟩
  rw [← hZ]
  have hw : SW D A s.heap (wdC cI cL cZ ad ga_sightings ga_bestShifts ga_commonLength ga_allTimes gr_width gr_height gr_size gr_kinds gr_before gr_columns gr_rows gr_floorCells gr_clearCells gr_standCells gr_firstColumn gr_lastColumn pi_cells pi_facings pi_sets pi_size po_needs ro_cells ro_lengths ro_shifts si_sightLaw si_sightRange th_unseen th_goals th_commonLength tr_marks tr_visited tr_size wh_places) s.heap [] := ⟨hP0, hD0, va_S.rf⟩
  clear hP0 hD0 B
  have J2 : ∀ (n : Nat) (pi_sets : (Nat → Int32)) (x1 : Int32) , L_pi_survey_2 gr_width gr_size gr_columns gr_rows gr_floorCells gr_clearCells gr_standCells pi_cells pi_facings pi_size si_sightLaw si_sightRange Q n pi_sets x1 → ∀ (H : Heap) (locs : List Loc) (ls : Array Slot), SW D A s.heap (wdC cI cL cZ ad ga_sightings ga_bestShifts ga_commonLength ga_allTimes gr_width gr_height gr_size gr_kinds gr_before gr_columns gr_rows gr_floorCells gr_clearCells gr_standCells gr_firstColumn gr_lastColumn pi_cells pi_facings pi_sets pi_size po_needs ro_cells ro_lengths ro_shifts si_sightLaw si_sightRange th_unseen th_goals th_commonLength tr_marks tr_visited tr_size wh_places) H locs → lv_has ls 2 [(0, .ref (ad 2)), (1, .int x1)] → W p l e (headSpec wsX2_survey rm_pi_survey).room s m args below meth c H locs 0 0 Z (F0 m 2 ls []) := by
    intro  n
    induction n with
    | zero => intro pi_sets x1 h; exact h.elim
    | succ n ih =>
    intro pi_sets x1 h H locs ls hw hl
    unfold L_pi_survey_2 at h
    refine lv_iload_n hx hb dX2_survey_2 rfl (lv_at hl 1 rfl) ?_
    refine lv_aload_n hx hb dX2_survey_3 rfl (lv_at hl 0 rfl) ?_
    refine gC_pi_grid hx hb hts hin hown hK hw lk21 dX2_survey_4 ?_
    refine cV_i (b := (ad 1)) (As := []) (rest := [.int x1]) ⟨hx, hb, hml, hown, hts⟩ hK hw (c_gr_size h) (cwV 0 hts (gd_RX2_60 hB) rfl rfl rfl (by decide +kernel) ⟨Nat.le_of_ble_eq_true rfl, Nat.le_of_ble_eq_true rfl⟩) (rC_gr hK hw) hl.1 ⟨Nat.zero_le _, Nat.zero_le _⟩ rfl rfl (Nat.le_of_ble_eq_true rfl) dX2_survey_7 (fun r7 _ H locs h hw => ?_)
    refine lv_icmp_ge (tgt := 30) hx hb dX2_survey_10 (by decide) (fun hc => ?_) (fun hc => ?_)
    · replace h := h.1 hc
      rw [hZ]
      exact rt_v pi_sets hx hb hr hlocks hw h dX2_survey_30
    · replace h := h.2 hc
      refine lv_aload_n hx hb dX2_survey_13 rfl (lv_at hl 0 rfl) ?_
      refine gC_pi_sets hx hb hts hin hown hK hw lk18 dX2_survey_14 ?_
      refine lv_iload_n hx hb dX2_survey_17 rfl (lv_at hl 1 rfl) ?_
      refine lv_aload_n hx hb dX2_survey_18 rfl (lv_at hl 0 rfl) ?_
      refine lv_iload_n hx hb dX2_survey_19 rfl (lv_at hl 1 rfl) ?_
      refine cV_i (b := (ad 2)) (As := [.int x1]) (rest := [.int x1, .ref (ad 18)]) ⟨hx, hb, hml, hown, hts⟩ hK hw (c_pi_lookFrom x1 h) (cwV 1 hts (gd_RX2_63 hB) rfl rfl rfl (by decide +kernel) ⟨Nat.le_of_ble_eq_true rfl, Nat.le_of_ble_eq_true rfl⟩) (rC_pi hK hw) hl.1 ⟨Nat.zero_le _, Nat.zero_le _⟩ rfl rfl (Nat.le_of_ble_eq_true rfl) dX2_survey_20 (fun r20 _ H locs h hw => ?_)
      refine tC_pi_sets hx hb hK hw h.1 dX2_survey_23 (fun H locs hw => ?_)
      replace h := h.2
      refine lv_iinc (v := (x1 + (1 : Int32))) (lv' := [(1, .int (x1 + (1 : Int32))), (0, .ref (ad 2))]) hx hb dX2_survey_24 hl (k := 1) rfl rfl (by decide) rfl (fun ls hl => ?_)
      refine lv_goto (tgt := 2) hx hb dX2_survey_27 (by decide) ?_
      exact ih _ _ h _ _ _ hw (lv_sub hl [1, 0] rfl)
  unfold P_pi_survey at h
  have he : entryFrame m args 2 = entryFrame m ([.ref (ad 2)] : List Value).toArray 2 := by rw [hav]
  refine W.eq he ?_
  have hl := lv_entry ([.ref (ad 2)]) (n := 2) (Nat.le_of_ble_eq_true rfl)
  rw [lg_entry_eq]
  generalize (lg_sl ([.ref (ad 2)]) ++ List.replicate (2 - (lg_sl ([.ref (ad 2)])).length) Slot.unset).toArray = ls at hl ⊢
  have hl : lv_has ls 2 [(0, .ref (ad 2))] := hl
  refine lv_iconst (v := 0) hx hb dX2_survey_0 (by decide) ?_
  refine lv_istore_n (lv' := [(1, .int (0 : Int32)), (0, .ref (ad 2))]) hx hb dX2_survey_1 rfl hl (by decide) rfl (fun ls hl => ?_)
  obtain ⟨n2, h⟩ := h
  exact J2  n2 _ _ h _ _ _ hw (lv_sub hl [1, 0] rfl)
def rm_pi_setAt : Room := { frames := 0, cells := 0, slots := 0, locals := 0 }
set_option maxHeartbeats 4000000 in
set_option maxRecDepth 100000 in
theorem c_pi_setAt {l : Launch} {D : va_G} {cI cL cZ : ClassId} {mx my : Nat} {A : Nat → Prop} {ad : Nat → Nat} {ga_sightings th_unseen th_goals tr_visited : Nat → Int64} {ga_bestShifts gr_kinds gr_before gr_columns gr_rows pi_cells pi_facings pi_sets po_needs ro_cells ro_lengths ro_shifts tr_marks wh_places : Nat → Int32} {ga_commonLength gr_width gr_height gr_size pi_size si_sightLaw si_sightRange th_commonLength tr_size : Int32} {ga_allTimes gr_floorCells gr_clearCells gr_standCells gr_firstColumn gr_lastColumn : Int64} (x1 : Int32) {Q : Int32 → Prop} (h : P_pi_setAt pi_sets x1 Q) : Met l yX2_setAt wsX2_setAt rm_pi_setAt (va_Pc [.ref (ad 2), .int x1] (WC D cI cL cZ mx my A (wdC cI cL cZ ad ga_sightings ga_bestShifts ga_commonLength ga_allTimes gr_width gr_height gr_size gr_kinds gr_before gr_columns gr_rows gr_floorCells gr_clearCells gr_standCells gr_firstColumn gr_lastColumn pi_cells pi_facings pi_sets pi_size po_needs ro_cells ro_lengths ro_shifts si_sightLaw si_sightRange th_unseen th_goals th_commonLength tr_marks tr_visited tr_size wh_places))) (va_Qi (fun (r : Int32) (u : Unit) => Q r) (fun (u : Unit) t => PW D A (wdC cI cL cZ ad ga_sightings ga_bestShifts ga_commonLength ga_allTimes gr_width gr_height gr_size gr_kinds gr_before gr_columns gr_rows gr_floorCells gr_clearCells gr_standCells gr_firstColumn gr_lastColumn pi_cells pi_facings pi_sets pi_size po_needs ro_cells ro_lengths ro_shifts si_sightLaw si_sightRange th_unseen th_goals th_commonLength tr_marks tr_visited tr_size wh_places) t.heap) A) 0 0 A := by
  refine Met.ofW (cc := cX2_setAt) (maxL := 2) (ret := (some .int)) (by decide) rfl ?_
  intro p e s m args below meth c s₁ B hml hv
  obtain ⟨hav, hP0, hD0, hK⟩ := hv
  have hx := B.exec
  have hb := B.bytes
  have hr := B.returns
  have hts := atoms_spec (ws := wsX2_setAt) B.pre
  have hown : s.vm.findClass RX2 = some m.cls := findClass_of_methodNamed B.named
  have hlocks := B.notSynchronized
  have hB : ∀ w ∈ BIG, w ∈ wsX2_setAt := fun _ h => List.mem_cons_of_mem _ h
  have hin : ∀ w ∈ wsX20, w ∈ wsX2_setAt := fun w h => hB w (inB_X2 w h)
  have lk18 := hts _ (hB _ m_167)
  obtain ⟨Z, hZ⟩ : ∃ Z : State → Prop, Z = MQ below (va_Qi (fun (r : Int32) (u : Unit) => Q r) (fun (u : Unit) t => PW D A (wdC cI cL cZ ad ga_sightings ga_bestShifts ga_commonLength ga_allTimes gr_width gr_height gr_size gr_kinds gr_before gr_columns gr_rows gr_floorCells gr_clearCells gr_standCells gr_firstColumn gr_lastColumn pi_cells pi_facings pi_sets pi_size po_needs ro_cells ro_lengths ro_shifts si_sightLaw si_sightRange th_unseen th_goals th_commonLength tr_marks tr_visited tr_size wh_places) t.heap) A) args s 0 0 A := ⟨_, rfl⟩
  rw [← hZ]
  have hw : SW D A s.heap (wdC cI cL cZ ad ga_sightings ga_bestShifts ga_commonLength ga_allTimes gr_width gr_height gr_size gr_kinds gr_before gr_columns gr_rows gr_floorCells gr_clearCells gr_standCells gr_firstColumn gr_lastColumn pi_cells pi_facings pi_sets pi_size po_needs ro_cells ro_lengths ro_shifts si_sightLaw si_sightRange th_unseen th_goals th_commonLength tr_marks tr_visited tr_size wh_places) s.heap [] := ⟨hP0, hD0, va_S.rf⟩
  clear hP0 hD0 B
  unfold P_pi_setAt at h
  have he : entryFrame m args 2 = entryFrame m ([.ref (ad 2), .int x1] : List Value).toArray 2 := by rw [hav]
  refine W.eq he ?_
  have hl := lv_entry ([.ref (ad 2), .int x1]) (n := 2) (Nat.le_of_ble_eq_true rfl)
  rw [lg_entry_eq]
  generalize (lg_sl ([.ref (ad 2), .int x1]) ++ List.replicate (2 - (lg_sl ([.ref (ad 2), .int x1])).length) Slot.unset).toArray = ls at hl ⊢
  have hl : lv_has ls 2 [(0, .ref (ad 2)), (1, .int x1)] := hl
  refine lv_aload_n hx hb dX2_setAt_0 rfl (lv_at hl 0 rfl) ?_
  refine gC_pi_sets hx hb hts hin hown hK hw lk18 dX2_setAt_1 ?_
  refine lv_iload_n hx hb dX2_setAt_4 rfl (lv_at hl 1 rfl) ?_
  refine aC_pi_sets hx hb hK hw h.1 dX2_setAt_5 ?_
  replace h := h.2
  rw [hZ]
  exact rt_i () hx hb hr hlocks hw h dX2_setAt_6
def rm_pi_all : Room := { frames := 0, cells := 0, slots := 0, locals := 0 }
set_option maxHeartbeats 4000000 in
set_option maxRecDepth 100000 in
theorem c_pi_all {l : Launch} {D : va_G} {cI cL cZ : ClassId} {mx my : Nat} {A : Nat → Prop} {ad : Nat → Nat} {ga_sightings th_unseen th_goals tr_visited : Nat → Int64} {ga_bestShifts gr_kinds gr_before gr_columns gr_rows pi_cells pi_facings pi_sets po_needs ro_cells ro_lengths ro_shifts tr_marks wh_places : Nat → Int32} {ga_commonLength gr_width gr_height gr_size pi_size si_sightLaw si_sightRange th_commonLength tr_size : Int32} {ga_allTimes gr_floorCells gr_clearCells gr_standCells gr_firstColumn gr_lastColumn : Int64}  {Q : Int32 → Prop} (h : P_pi_all pi_size Q) : Met l yX2_all wsX2_all rm_pi_all (va_Pc [.ref (ad 2)] (WC D cI cL cZ mx my A (wdC cI cL cZ ad ga_sightings ga_bestShifts ga_commonLength ga_allTimes gr_width gr_height gr_size gr_kinds gr_before gr_columns gr_rows gr_floorCells gr_clearCells gr_standCells gr_firstColumn gr_lastColumn pi_cells pi_facings pi_sets pi_size po_needs ro_cells ro_lengths ro_shifts si_sightLaw si_sightRange th_unseen th_goals th_commonLength tr_marks tr_visited tr_size wh_places))) (va_Qi (fun (r : Int32) (u : Unit) => Q r) (fun (u : Unit) t => PW D A (wdC cI cL cZ ad ga_sightings ga_bestShifts ga_commonLength ga_allTimes gr_width gr_height gr_size gr_kinds gr_before gr_columns gr_rows gr_floorCells gr_clearCells gr_standCells gr_firstColumn gr_lastColumn pi_cells pi_facings pi_sets pi_size po_needs ro_cells ro_lengths ro_shifts si_sightLaw si_sightRange th_unseen th_goals th_commonLength tr_marks tr_visited tr_size wh_places) t.heap) A) 0 0 A := by
  refine Met.ofW (cc := cX2_all) (maxL := 1) (ret := (some .int)) (by decide) rfl ?_
  intro p e s m args below meth c s₁ B hml hv
  obtain ⟨hav, hP0, hD0, hK⟩ := hv
  have hx := B.exec
  have hb := B.bytes
  have hr := B.returns
  have hts := atoms_spec (ws := wsX2_all) B.pre
  have hown : s.vm.findClass RX2 = some m.cls := findClass_of_methodNamed B.named
  have hlocks := B.notSynchronized
  have hB : ∀ w ∈ BIG, w ∈ wsX2_all := fun _ h => List.mem_cons_of_mem _ h
  have hin : ∀ w ∈ wsX20, w ∈ wsX2_all := fun w h => hB w (inB_X2 w h)
  have lk29 := hts _ (hB _ m_168)
  obtain ⟨Z, hZ⟩ : ∃ Z : State → Prop, Z = MQ below (va_Qi (fun (r : Int32) (u : Unit) => Q r) (fun (u : Unit) t => PW D A (wdC cI cL cZ ad ga_sightings ga_bestShifts ga_commonLength ga_allTimes gr_width gr_height gr_size gr_kinds gr_before gr_columns gr_rows gr_floorCells gr_clearCells gr_standCells gr_firstColumn gr_lastColumn pi_cells pi_facings pi_sets pi_size po_needs ro_cells ro_lengths ro_shifts si_sightLaw si_sightRange th_unseen th_goals th_commonLength tr_marks tr_visited tr_size wh_places) t.heap) A) args s 0 0 A := ⟨_, rfl⟩
  rw [← hZ]
  have hw : SW D A s.heap (wdC cI cL cZ ad ga_sightings ga_bestShifts ga_commonLength ga_allTimes gr_width gr_height gr_size gr_kinds gr_before gr_columns gr_rows gr_floorCells gr_clearCells gr_standCells gr_firstColumn gr_lastColumn pi_cells pi_facings pi_sets pi_size po_needs ro_cells ro_lengths ro_shifts si_sightLaw si_sightRange th_unseen th_goals th_commonLength tr_marks tr_visited tr_size wh_places) s.heap [] := ⟨hP0, hD0, va_S.rf⟩
  clear hP0 hD0 B
  unfold P_pi_all at h
  have he : entryFrame m args 1 = entryFrame m ([.ref (ad 2)] : List Value).toArray 1 := by rw [hav]
  refine W.eq he ?_
  have hl := lv_entry ([.ref (ad 2)]) (n := 1) (Nat.le_of_ble_eq_true rfl)
  rw [lg_entry_eq]
  generalize (lg_sl ([.ref (ad 2)]) ++ List.replicate (1 - (lg_sl ([.ref (ad 2)])).length) Slot.unset).toArray = ls at hl ⊢
  have hl : lv_has ls 1 [(0, .ref (ad 2))] := hl
  refine lv_iconst (v := 1) hx hb dX2_all_0 (by decide) ?_
  refine lv_aload_n hx hb dX2_all_1 rfl (lv_at hl 0 rfl) ?_
  refine gC_pi_size hx hb hts hin hown hK hw lk29 dX2_all_2 ?_
  refine lv_ishl hx hb dX2_all_5 ?_
  refine lv_iconst (v := 1) hx hb dX2_all_6 (by decide) ?_
  refine lv_isub hx hb dX2_all_7 ?_
  rw [hZ]
  exact rt_i () hx hb hr hlocks hw h dX2_all_8
def rm_pi_relocate : Room := { frames := 0, cells := 0, slots := 0, locals := 0 }
set_option maxHeartbeats 4000000 in
set_option maxRecDepth 100000 in
theorem c_pi_relocate {l : Launch} {D : va_G} {cI cL cZ : ClassId} {mx my : Nat} {A : Nat → Prop} {ad : Nat → Nat} {ga_sightings th_unseen th_goals tr_visited : Nat → Int64} {ga_bestShifts gr_kinds gr_before gr_columns gr_rows pi_cells pi_facings pi_sets po_needs ro_cells ro_lengths ro_shifts tr_marks wh_places : Nat → Int32} {ga_commonLength gr_width gr_height gr_size pi_size si_sightLaw si_sightRange th_commonLength tr_size : Int32} {ga_allTimes gr_floorCells gr_clearCells gr_standCells gr_firstColumn gr_lastColumn : Int64}  {Q : (Nat → Int32) → Prop} (h : P_pi_relocate pi_cells pi_size wh_places Q) : Met l yX2_relocate wsX2_relocate rm_pi_relocate (va_Pc [.ref (ad 2), .ref (ad 27)] (WC D cI cL cZ mx my A (wdC cI cL cZ ad ga_sightings ga_bestShifts ga_commonLength ga_allTimes gr_width gr_height gr_size gr_kinds gr_before gr_columns gr_rows gr_floorCells gr_clearCells gr_standCells gr_firstColumn gr_lastColumn pi_cells pi_facings pi_sets pi_size po_needs ro_cells ro_lengths ro_shifts si_sightLaw si_sightRange th_unseen th_goals th_commonLength tr_marks tr_visited tr_size wh_places))) (va_Qv (fun (u : (Nat → Int32)) => Q u) (fun (u : (Nat → Int32)) t => PW D A (wdC cI cL cZ ad ga_sightings ga_bestShifts ga_commonLength ga_allTimes gr_width gr_height gr_size gr_kinds gr_before gr_columns gr_rows gr_floorCells gr_clearCells gr_standCells gr_firstColumn gr_lastColumn u pi_facings pi_sets pi_size po_needs ro_cells ro_lengths ro_shifts si_sightLaw si_sightRange th_unseen th_goals th_commonLength tr_marks tr_visited tr_size wh_places) t.heap) A) 0 0 A := by
  refine Met.ofW (cc := cX2_relocate) (maxL := 3) (ret := none) (by decide) rfl ?_
  intro p e s m args below meth c s₁ B hml hv
  obtain ⟨hav, hP0, hD0, hK⟩ := hv
  have hx := B.exec
  have hb := B.bytes
  have hr := B.returns
  have hts := atoms_spec (ws := wsX2_relocate) B.pre
  have hown : s.vm.findClass RX2 = some m.cls := findClass_of_methodNamed B.named
  have hlocks := B.notSynchronized
  have hB : ∀ w ∈ BIG, w ∈ wsX2_relocate := fun _ h => List.mem_cons_of_mem _ h
  have hin : ∀ w ∈ wsX20, w ∈ wsX2_relocate := fun w h => hB w (inB_X2 w h)
  have lk9 := hts _ (hB _ m_165)
  have lk29 := hts _ (hB _ m_168)
  obtain ⟨Z, hZ⟩ : ∃ Z : State → Prop, Z = MQ below (va_Qv (fun (u : (Nat → Int32)) => Q u) (fun (u : (Nat → Int32)) t => PW D A (wdC cI cL cZ ad ga_sightings ga_bestShifts ga_commonLength ga_allTimes gr_width gr_height gr_size gr_kinds gr_before gr_columns gr_rows gr_floorCells gr_clearCells gr_standCells gr_firstColumn gr_lastColumn u pi_facings pi_sets pi_size po_needs ro_cells ro_lengths ro_shifts si_sightLaw si_sightRange th_unseen th_goals th_commonLength tr_marks tr_visited tr_size wh_places) t.heap) A) args s 0 0 A := ⟨_, rfl⟩
  rw [← hZ]
  have hw : SW D A s.heap (wdC cI cL cZ ad ga_sightings ga_bestShifts ga_commonLength ga_allTimes gr_width gr_height gr_size gr_kinds gr_before gr_columns gr_rows gr_floorCells gr_clearCells gr_standCells gr_firstColumn gr_lastColumn pi_cells pi_facings pi_sets pi_size po_needs ro_cells ro_lengths ro_shifts si_sightLaw si_sightRange th_unseen th_goals th_commonLength tr_marks tr_visited tr_size wh_places) s.heap [] := ⟨hP0, hD0, va_S.rf⟩
  clear hP0 hD0 B
  have J2 : ∀ (n : Nat) (pi_cells : (Nat → Int32)) (x2 : Int32) , L_pi_relocate_2 pi_size wh_places Q n pi_cells x2 → ∀ (H : Heap) (locs : List Loc) (ls : Array Slot), SW D A s.heap (wdC cI cL cZ ad ga_sightings ga_bestShifts ga_commonLength ga_allTimes gr_width gr_height gr_size gr_kinds gr_before gr_columns gr_rows gr_floorCells gr_clearCells gr_standCells gr_firstColumn gr_lastColumn pi_cells pi_facings pi_sets pi_size po_needs ro_cells ro_lengths ro_shifts si_sightLaw si_sightRange th_unseen th_goals th_commonLength tr_marks tr_visited tr_size wh_places) H locs → lv_has ls 3 [(0, .ref (ad 2)), (1, .ref (ad 27)), (2, .int x2)] → W p l e (headSpec wsX2_relocate rm_pi_relocate).room s m args below meth c H locs 0 0 Z (F0 m 2 ls []) := by
    intro  n
    induction n with
    | zero => intro pi_cells x2 h; exact h.elim
    | succ n ih =>
    intro pi_cells x2 h H locs ls hw hl
    unfold L_pi_relocate_2 at h
    refine lv_iload_n hx hb dX2_relocate_2 rfl (lv_at hl 2 rfl) ?_
    refine lv_aload_n hx hb dX2_relocate_3 rfl (lv_at hl 0 rfl) ?_
    refine gC_pi_size hx hb hts hin hown hK hw lk29 dX2_relocate_4 ?_
    refine lv_icmp_ge (tgt := 30) hx hb dX2_relocate_7 (by decide) (fun hc => ?_) (fun hc => ?_)
    · replace h := h.1 hc
      rw [hZ]
      exact rt_v pi_cells hx hb hr hlocks hw h dX2_relocate_30
    · replace h := h.2 hc
      refine lv_aload_n hx hb dX2_relocate_10 rfl (lv_at hl 0 rfl) ?_
      refine gC_pi_cells hx hb hts hin hown hK hw lk9 dX2_relocate_11 ?_
      refine lv_iload_n hx hb dX2_relocate_14 rfl (lv_at hl 2 rfl) ?_
      refine lv_aload_n hx hb dX2_relocate_15 rfl (lv_at hl 1 rfl) ?_
      refine lv_aload_n hx hb dX2_relocate_16 rfl (lv_at hl 0 rfl) ?_
      refine gC_pi_cells hx hb hts hin hown hK hw lk9 dX2_relocate_17 ?_
      refine lv_iload_n hx hb dX2_relocate_20 rfl (lv_at hl 2 rfl) ?_
      refine aC_pi_cells hx hb hK hw h.1 dX2_relocate_21 ?_
      replace h := h.2
      refine aC_wh_places hx hb hK hw h.1 dX2_relocate_22 ?_
      replace h := h.2
      refine tC_pi_cells hx hb hK hw h.1 dX2_relocate_23 (fun H locs hw => ?_)
      replace h := h.2
      refine lv_iinc (v := (x2 + (1 : Int32))) (lv' := [(2, .int (x2 + (1 : Int32))), (0, .ref (ad 2)), (1, .ref (ad 27))]) hx hb dX2_relocate_24 hl (k := 2) rfl rfl (by decide) rfl (fun ls hl => ?_)
      refine lv_goto (tgt := 2) hx hb dX2_relocate_27 (by decide) ?_
      exact ih _ _ h _ _ _ hw (lv_sub hl [1, 2, 0] rfl)
  unfold P_pi_relocate at h
  have he : entryFrame m args 3 = entryFrame m ([.ref (ad 2), .ref (ad 27)] : List Value).toArray 3 := by rw [hav]
  refine W.eq he ?_
  have hl := lv_entry ([.ref (ad 2), .ref (ad 27)]) (n := 3) (Nat.le_of_ble_eq_true rfl)
  rw [lg_entry_eq]
  generalize (lg_sl ([.ref (ad 2), .ref (ad 27)]) ++ List.replicate (3 - (lg_sl ([.ref (ad 2), .ref (ad 27)])).length) Slot.unset).toArray = ls at hl ⊢
  have hl : lv_has ls 3 [(0, .ref (ad 2)), (1, .ref (ad 27))] := hl
  refine lv_iconst (v := 0) hx hb dX2_relocate_0 (by decide) ?_
  refine lv_istore_n (lv' := [(2, .int (0 : Int32)), (0, .ref (ad 2)), (1, .ref (ad 27))]) hx hb dX2_relocate_1 rfl hl (by decide) rfl (fun ls hl => ?_)
  obtain ⟨n2, h⟩ := h
  exact J2  n2 _ _ h _ _ _ hw (lv_sub hl [1, 2, 0] rfl)
def rm_pi_turnFacings : Room := { frames := 0, cells := 0, slots := 0, locals := 0 }
set_option maxHeartbeats 4000000 in
set_option maxRecDepth 100000 in
theorem c_pi_turnFacings {l : Launch} {D : va_G} {cI cL cZ : ClassId} {mx my : Nat} {A : Nat → Prop} {ad : Nat → Nat} {ga_sightings th_unseen th_goals tr_visited : Nat → Int64} {ga_bestShifts gr_kinds gr_before gr_columns gr_rows pi_cells pi_facings pi_sets po_needs ro_cells ro_lengths ro_shifts tr_marks wh_places : Nat → Int32} {ga_commonLength gr_width gr_height gr_size pi_size si_sightLaw si_sightRange th_commonLength tr_size : Int32} {ga_allTimes gr_floorCells gr_clearCells gr_standCells gr_firstColumn gr_lastColumn : Int64}  {Q : (Nat → Int32) → Prop} (h : P_pi_turnFacings pi_facings pi_size Q) : Met l yX2_turnFacings wsX2_turnFacings rm_pi_turnFacings (va_Pc [.ref (ad 2)] (WC D cI cL cZ mx my A (wdC cI cL cZ ad ga_sightings ga_bestShifts ga_commonLength ga_allTimes gr_width gr_height gr_size gr_kinds gr_before gr_columns gr_rows gr_floorCells gr_clearCells gr_standCells gr_firstColumn gr_lastColumn pi_cells pi_facings pi_sets pi_size po_needs ro_cells ro_lengths ro_shifts si_sightLaw si_sightRange th_unseen th_goals th_commonLength tr_marks tr_visited tr_size wh_places))) (va_Qv (fun (u : (Nat → Int32)) => Q u) (fun (u : (Nat → Int32)) t => PW D A (wdC cI cL cZ ad ga_sightings ga_bestShifts ga_commonLength ga_allTimes gr_width gr_height gr_size gr_kinds gr_before gr_columns gr_rows gr_floorCells gr_clearCells gr_standCells gr_firstColumn gr_lastColumn pi_cells u pi_sets pi_size po_needs ro_cells ro_lengths ro_shifts si_sightLaw si_sightRange th_unseen th_goals th_commonLength tr_marks tr_visited tr_size wh_places) t.heap) A) 0 0 A := by
  refine Met.ofW (cc := cX2_turnFacings) (maxL := 2) (ret := none) (by decide) rfl ?_
  intro p e s m args below meth c s₁ B hml hv
  obtain ⟨hav, hP0, hD0, hK⟩ := hv
  have hx := B.exec
  have hb := B.bytes
  have hr := B.returns
  have hts := atoms_spec (ws := wsX2_turnFacings) B.pre
  have hown : s.vm.findClass RX2 = some m.cls := findClass_of_methodNamed B.named
  have hlocks := B.notSynchronized
  have hB : ∀ w ∈ BIG, w ∈ wsX2_turnFacings := fun _ h => List.mem_cons_of_mem _ h
  have hin : ∀ w ∈ wsX20, w ∈ wsX2_turnFacings := fun w h => hB w (inB_X2 w h)
  have lk15 := hts _ (hB _ m_166)
  have lk29 := hts _ (hB _ m_168)
  obtain ⟨Z, hZ⟩ : ∃ Z : State → Prop, Z = MQ below (va_Qv (fun (u : (Nat → Int32)) => Q u) (fun (u : (Nat → Int32)) t => PW D A (wdC cI cL cZ ad ga_sightings ga_bestShifts ga_commonLength ga_allTimes gr_width gr_height gr_size gr_kinds gr_before gr_columns gr_rows gr_floorCells gr_clearCells gr_standCells gr_firstColumn gr_lastColumn pi_cells u pi_sets pi_size po_needs ro_cells ro_lengths ro_shifts si_sightLaw si_sightRange th_unseen th_goals th_commonLength tr_marks tr_visited tr_size wh_places) t.heap) A) args s 0 0 A := ⟨_, rfl⟩
  rw [← hZ]
  have hw : SW D A s.heap (wdC cI cL cZ ad ga_sightings ga_bestShifts ga_commonLength ga_allTimes gr_width gr_height gr_size gr_kinds gr_before gr_columns gr_rows gr_floorCells gr_clearCells gr_standCells gr_firstColumn gr_lastColumn pi_cells pi_facings pi_sets pi_size po_needs ro_cells ro_lengths ro_shifts si_sightLaw si_sightRange th_unseen th_goals th_commonLength tr_marks tr_visited tr_size wh_places) s.heap [] := ⟨hP0, hD0, va_S.rf⟩
  clear hP0 hD0 B
  have J2 : ∀ (n : Nat) (pi_facings : (Nat → Int32)) (x1 : Int32) , L_pi_turnFacings_2 pi_size Q n pi_facings x1 → ∀ (H : Heap) (locs : List Loc) (ls : Array Slot), SW D A s.heap (wdC cI cL cZ ad ga_sightings ga_bestShifts ga_commonLength ga_allTimes gr_width gr_height gr_size gr_kinds gr_before gr_columns gr_rows gr_floorCells gr_clearCells gr_standCells gr_firstColumn gr_lastColumn pi_cells pi_facings pi_sets pi_size po_needs ro_cells ro_lengths ro_shifts si_sightLaw si_sightRange th_unseen th_goals th_commonLength tr_marks tr_visited tr_size wh_places) H locs → lv_has ls 2 [(0, .ref (ad 2)), (1, .int x1)] → W p l e (headSpec wsX2_turnFacings rm_pi_turnFacings).room s m args below meth c H locs 0 0 Z (F0 m 2 ls []) := by
    intro  n
    induction n with
    | zero => intro pi_facings x1 h; exact h.elim
    | succ n ih =>
    intro pi_facings x1 h H locs ls hw hl
    unfold L_pi_turnFacings_2 at h
    refine lv_iload_n hx hb dX2_turnFacings_2 rfl (lv_at hl 1 rfl) ?_
    refine lv_aload_n hx hb dX2_turnFacings_3 rfl (lv_at hl 0 rfl) ?_
    refine gC_pi_size hx hb hts hin hown hK hw lk29 dX2_turnFacings_4 ?_
    refine lv_icmp_ge (tgt := 44) hx hb dX2_turnFacings_7 (by decide) (fun hc => ?_) (fun hc => ?_)
    · replace h := h.1 hc
      rw [hZ]
      exact rt_v pi_facings hx hb hr hlocks hw h dX2_turnFacings_44
    · replace h := h.2 hc
      refine lv_aload_n hx hb dX2_turnFacings_10 rfl (lv_at hl 0 rfl) ?_
      refine gC_pi_facings hx hb hts hin hown hK hw lk15 dX2_turnFacings_11 ?_
      refine lv_iload_n hx hb dX2_turnFacings_14 rfl (lv_at hl 1 rfl) ?_
      refine lv_aload_n hx hb dX2_turnFacings_15 rfl (lv_at hl 0 rfl) ?_
      refine gC_pi_facings hx hb hts hin hown hK hw lk15 dX2_turnFacings_16 ?_
      refine lv_iload_n hx hb dX2_turnFacings_19 rfl (lv_at hl 1 rfl) ?_
      refine aC_pi_facings hx hb hK hw h.1 dX2_turnFacings_20 ?_
      replace h := h.2
      refine lv_iconst (v := 3) hx hb dX2_turnFacings_21 (by decide) ?_
      refine lv_icmp_ne (tgt := 29) hx hb dX2_turnFacings_22 (by decide) (fun hc => ?_) (fun hc => ?_)
      · replace h := h.2 hc
        refine lv_aload_n hx hb dX2_turnFacings_29 rfl (lv_at hl 0 rfl) ?_
        refine gC_pi_facings hx hb hts hin hown hK hw lk15 dX2_turnFacings_30 ?_
        refine lv_iload_n hx hb dX2_turnFacings_33 rfl (lv_at hl 1 rfl) ?_
        refine aC_pi_facings hx hb hK hw h.1 dX2_turnFacings_34 ?_
        replace h := h.2
        refine lv_iconst (v := 1) hx hb dX2_turnFacings_35 (by decide) ?_
        refine lv_iadd hx hb dX2_turnFacings_36 ?_
        refine tC_pi_facings hx hb hK hw h.1 dX2_turnFacings_37 (fun H locs hw => ?_)
        replace h := h.2
        refine lv_iinc (v := (x1 + (1 : Int32))) (lv' := [(1, .int (x1 + (1 : Int32))), (0, .ref (ad 2))]) hx hb dX2_turnFacings_38 hl (k := 1) rfl rfl (by decide) rfl (fun ls hl => ?_)
        refine lv_goto (tgt := 2) hx hb dX2_turnFacings_41 (by decide) ?_
        exact ih _ _ h _ _ _ hw (lv_sub hl [1, 0] rfl)
      · replace h := h.1 hc
        refine lv_iconst (v := 0) hx hb dX2_turnFacings_25 (by decide) ?_
        refine lv_goto (tgt := 37) hx hb dX2_turnFacings_26 (by decide) ?_
        refine tC_pi_facings hx hb hK hw h.1 dX2_turnFacings_37 (fun H locs hw => ?_)
        replace h := h.2
        refine lv_iinc (v := (x1 + (1 : Int32))) (lv' := [(1, .int (x1 + (1 : Int32))), (0, .ref (ad 2))]) hx hb dX2_turnFacings_38 hl (k := 1) rfl rfl (by decide) rfl (fun ls hl => ?_)
        refine lv_goto (tgt := 2) hx hb dX2_turnFacings_41 (by decide) ?_
        exact ih _ _ h _ _ _ hw (lv_sub hl [1, 0] rfl)
  unfold P_pi_turnFacings at h
  have he : entryFrame m args 2 = entryFrame m ([.ref (ad 2)] : List Value).toArray 2 := by rw [hav]
  refine W.eq he ?_
  have hl := lv_entry ([.ref (ad 2)]) (n := 2) (Nat.le_of_ble_eq_true rfl)
  rw [lg_entry_eq]
  generalize (lg_sl ([.ref (ad 2)]) ++ List.replicate (2 - (lg_sl ([.ref (ad 2)])).length) Slot.unset).toArray = ls at hl ⊢
  have hl : lv_has ls 2 [(0, .ref (ad 2))] := hl
  refine lv_iconst (v := 0) hx hb dX2_turnFacings_0 (by decide) ?_
  refine lv_istore_n (lv' := [(1, .int (0 : Int32)), (0, .ref (ad 2))]) hx hb dX2_turnFacings_1 rfl hl (by decide) rfl (fun ls hl => ?_)
  obtain ⟨n2, h⟩ := h
  exact J2  n2 _ _ h _ _ _ hw (lv_sub hl [1, 0] rfl)
def rm_pi_mirrorFacings : Room := { frames := 0, cells := 0, slots := 0, locals := 0 }
set_option maxHeartbeats 4000000 in
set_option maxRecDepth 100000 in
theorem c_pi_mirrorFacings {l : Launch} {D : va_G} {cI cL cZ : ClassId} {mx my : Nat} {A : Nat → Prop} {ad : Nat → Nat} {ga_sightings th_unseen th_goals tr_visited : Nat → Int64} {ga_bestShifts gr_kinds gr_before gr_columns gr_rows pi_cells pi_facings pi_sets po_needs ro_cells ro_lengths ro_shifts tr_marks wh_places : Nat → Int32} {ga_commonLength gr_width gr_height gr_size pi_size si_sightLaw si_sightRange th_commonLength tr_size : Int32} {ga_allTimes gr_floorCells gr_clearCells gr_standCells gr_firstColumn gr_lastColumn : Int64}  {Q : (Nat → Int32) → Prop} (h : P_pi_mirrorFacings pi_facings pi_size Q) : Met l yX2_mirrorFacings wsX2_mirrorFacings rm_pi_mirrorFacings (va_Pc [.ref (ad 2)] (WC D cI cL cZ mx my A (wdC cI cL cZ ad ga_sightings ga_bestShifts ga_commonLength ga_allTimes gr_width gr_height gr_size gr_kinds gr_before gr_columns gr_rows gr_floorCells gr_clearCells gr_standCells gr_firstColumn gr_lastColumn pi_cells pi_facings pi_sets pi_size po_needs ro_cells ro_lengths ro_shifts si_sightLaw si_sightRange th_unseen th_goals th_commonLength tr_marks tr_visited tr_size wh_places))) (va_Qv (fun (u : (Nat → Int32)) => Q u) (fun (u : (Nat → Int32)) t => PW D A (wdC cI cL cZ ad ga_sightings ga_bestShifts ga_commonLength ga_allTimes gr_width gr_height gr_size gr_kinds gr_before gr_columns gr_rows gr_floorCells gr_clearCells gr_standCells gr_firstColumn gr_lastColumn pi_cells u pi_sets pi_size po_needs ro_cells ro_lengths ro_shifts si_sightLaw si_sightRange th_unseen th_goals th_commonLength tr_marks tr_visited tr_size wh_places) t.heap) A) 0 0 A := by
  refine Met.ofW (cc := cX2_mirrorFacings) (maxL := 2) (ret := none) (by decide) rfl ?_
  intro p e s m args below meth c s₁ B hml hv
  obtain ⟨hav, hP0, hD0, hK⟩ := hv
  have hx := B.exec
  have hb := B.bytes
  have hr := B.returns
  have hts := atoms_spec (ws := wsX2_mirrorFacings) B.pre
  have hown : s.vm.findClass RX2 = some m.cls := findClass_of_methodNamed B.named
  have hlocks := B.notSynchronized
  have hB : ∀ w ∈ BIG, w ∈ wsX2_mirrorFacings := fun _ h => List.mem_cons_of_mem _ h
  have hin : ∀ w ∈ wsX20, w ∈ wsX2_mirrorFacings := fun w h => hB w (inB_X2 w h)
  have lk15 := hts _ (hB _ m_166)
  have lk29 := hts _ (hB _ m_168)
  obtain ⟨Z, hZ⟩ : ∃ Z : State → Prop, Z = MQ below (va_Qv (fun (u : (Nat → Int32)) => Q u) (fun (u : (Nat → Int32)) t => PW D A (wdC cI cL cZ ad ga_sightings ga_bestShifts ga_commonLength ga_allTimes gr_width gr_height gr_size gr_kinds gr_before gr_columns gr_rows gr_floorCells gr_clearCells gr_standCells gr_firstColumn gr_lastColumn pi_cells u pi_sets pi_size po_needs ro_cells ro_lengths ro_shifts si_sightLaw si_sightRange th_unseen th_goals th_commonLength tr_marks tr_visited tr_size wh_places) t.heap) A) args s 0 0 A := ⟨_, rfl⟩
  rw [← hZ]
  have hw : SW D A s.heap (wdC cI cL cZ ad ga_sightings ga_bestShifts ga_commonLength ga_allTimes gr_width gr_height gr_size gr_kinds gr_before gr_columns gr_rows gr_floorCells gr_clearCells gr_standCells gr_firstColumn gr_lastColumn pi_cells pi_facings pi_sets pi_size po_needs ro_cells ro_lengths ro_shifts si_sightLaw si_sightRange th_unseen th_goals th_commonLength tr_marks tr_visited tr_size wh_places) s.heap [] := ⟨hP0, hD0, va_S.rf⟩
  clear hP0 hD0 B
  have J2 : ∀ (n : Nat) (pi_facings : (Nat → Int32)) (x1 : Int32) , L_pi_mirrorFacings_2 pi_size Q n pi_facings x1 → ∀ (H : Heap) (locs : List Loc) (ls : Array Slot), SW D A s.heap (wdC cI cL cZ ad ga_sightings ga_bestShifts ga_commonLength ga_allTimes gr_width gr_height gr_size gr_kinds gr_before gr_columns gr_rows gr_floorCells gr_clearCells gr_standCells gr_firstColumn gr_lastColumn pi_cells pi_facings pi_sets pi_size po_needs ro_cells ro_lengths ro_shifts si_sightLaw si_sightRange th_unseen th_goals th_commonLength tr_marks tr_visited tr_size wh_places) H locs → lv_has ls 2 [(0, .ref (ad 2)), (1, .int x1)] → W p l e (headSpec wsX2_mirrorFacings rm_pi_mirrorFacings).room s m args below meth c H locs 0 0 Z (F0 m 2 ls []) := by
    intro  n
    induction n with
    | zero => intro pi_facings x1 h; exact h.elim
    | succ n ih =>
    intro pi_facings x1 h H locs ls hw hl
    unfold L_pi_mirrorFacings_2 at h
    refine lv_iload_n hx hb dX2_mirrorFacings_2 rfl (lv_at hl 1 rfl) ?_
    refine lv_aload_n hx hb dX2_mirrorFacings_3 rfl (lv_at hl 0 rfl) ?_
    refine gC_pi_size hx hb hts hin hown hK hw lk29 dX2_mirrorFacings_4 ?_
    refine lv_icmp_ge (tgt := 43) hx hb dX2_mirrorFacings_7 (by decide) (fun hc => ?_) (fun hc => ?_)
    · replace h := h.1 hc
      rw [hZ]
      exact rt_v pi_facings hx hb hr hlocks hw h dX2_mirrorFacings_43
    · replace h := h.2 hc
      refine va_getsN hx hb hK.2.2.1 hw.2.2 hown (va_Nw.use rfl hK.2.1.2.2.2.1) (fun _ h9 => h9) dX2_mirrorFacings_10 ?_
      refine lv_aload_n hx hb dX2_mirrorFacings_13 rfl (lv_at hl 0 rfl) ?_
      refine gC_pi_facings hx hb hts hin hown hK hw lk15 dX2_mirrorFacings_14 ?_
      refine lv_iload_n hx hb dX2_mirrorFacings_17 rfl (lv_at hl 1 rfl) ?_
      refine aC_pi_facings hx hb hK hw h.1 dX2_mirrorFacings_18 ?_
      replace h := h.2
      refine va_ti hx hb hK.2.2.2.1 hw.2.2 h.1 rfl dX2_mirrorFacings_19 ?_
      replace h := h.2
      refine lv_if_eq (tgt := 37) hx hb dX2_mirrorFacings_20 (by decide) (fun hc => ?_) (fun hc => ?_)
      · replace h := h.1 hc
        refine lv_iinc (v := (x1 + (1 : Int32))) (lv' := [(1, .int (x1 + (1 : Int32))), (0, .ref (ad 2))]) hx hb dX2_mirrorFacings_37 hl (k := 1) rfl rfl (by decide) rfl (fun ls hl => ?_)
        refine lv_goto (tgt := 2) hx hb dX2_mirrorFacings_40 (by decide) ?_
        exact ih _ _ h _ _ _ hw (lv_sub hl [1, 0] rfl)
      · replace h := h.2 hc
        refine lv_aload_n hx hb dX2_mirrorFacings_23 rfl (lv_at hl 0 rfl) ?_
        refine gC_pi_facings hx hb hts hin hown hK hw lk15 dX2_mirrorFacings_24 ?_
        refine lv_iload_n hx hb dX2_mirrorFacings_27 rfl (lv_at hl 1 rfl) ?_
        refine lv_iconst (v := 2) hx hb dX2_mirrorFacings_28 (by decide) ?_
        refine lv_aload_n hx hb dX2_mirrorFacings_29 rfl (lv_at hl 0 rfl) ?_
        refine gC_pi_facings hx hb hts hin hown hK hw lk15 dX2_mirrorFacings_30 ?_
        refine lv_iload_n hx hb dX2_mirrorFacings_33 rfl (lv_at hl 1 rfl) ?_
        refine aC_pi_facings hx hb hK hw h.1 dX2_mirrorFacings_34 ?_
        replace h := h.2
        refine lv_isub hx hb dX2_mirrorFacings_35 ?_
        refine tC_pi_facings hx hb hK hw h.1 dX2_mirrorFacings_36 (fun H locs hw => ?_)
        replace h := h.2
        refine lv_iinc (v := (x1 + (1 : Int32))) (lv' := [(1, .int (x1 + (1 : Int32))), (0, .ref (ad 2))]) hx hb dX2_mirrorFacings_37 hl (k := 1) rfl rfl (by decide) rfl (fun ls hl => ?_)
        refine lv_goto (tgt := 2) hx hb dX2_mirrorFacings_40 (by decide) ?_
        exact ih _ _ h _ _ _ hw (lv_sub hl [1, 0] rfl)
  unfold P_pi_mirrorFacings at h
  have he : entryFrame m args 2 = entryFrame m ([.ref (ad 2)] : List Value).toArray 2 := by rw [hav]
  refine W.eq he ?_
  have hl := lv_entry ([.ref (ad 2)]) (n := 2) (Nat.le_of_ble_eq_true rfl)
  rw [lg_entry_eq]
  generalize (lg_sl ([.ref (ad 2)]) ++ List.replicate (2 - (lg_sl ([.ref (ad 2)])).length) Slot.unset).toArray = ls at hl ⊢
  have hl : lv_has ls 2 [(0, .ref (ad 2))] := hl
  refine lv_iconst (v := 0) hx hb dX2_mirrorFacings_0 (by decide) ?_
  refine lv_istore_n (lv' := [(1, .int (0 : Int32)), (0, .ref (ad 2))]) hx hb dX2_mirrorFacings_1 rfl hl (by decide) rfl (fun ls hl => ?_)
  obtain ⟨n2, h⟩ := h
  exact J2  n2 _ _ h _ _ _ hw (lv_sub hl [1, 0] rfl)
def rm_po_needOf : Room := { frames := 1, cells := 0, slots := 0, locals := 21 }
set_option maxHeartbeats 4000000 in
set_option maxRecDepth 100000 in
theorem c_po_needOf {l : Launch} {D : va_G} {cI cL cZ : ClassId} {mx my : Nat} {A : Nat → Prop} {ad : Nat → Nat} {ga_sightings th_unseen th_goals tr_visited : Nat → Int64} {ga_bestShifts gr_kinds gr_before gr_columns gr_rows pi_cells pi_facings pi_sets po_needs ro_cells ro_lengths ro_shifts tr_marks wh_places : Nat → Int32} {ga_commonLength gr_width gr_height gr_size pi_size si_sightLaw si_sightRange th_commonLength tr_size : Int32} {ga_allTimes gr_floorCells gr_clearCells gr_standCells gr_firstColumn gr_lastColumn : Int64} (x1 : Int32) {Q : Int32 → Prop} (h : P_po_needOf gr_size pi_sets po_needs x1 Q) : Met l yX3_needOf wsX3_needOf rm_po_needOf (va_Pc [.ref (ad 3), .int x1] (WC D cI cL cZ mx my A (wdC cI cL cZ ad ga_sightings ga_bestShifts ga_commonLength ga_allTimes gr_width gr_height gr_size gr_kinds gr_before gr_columns gr_rows gr_floorCells gr_clearCells gr_standCells gr_firstColumn gr_lastColumn pi_cells pi_facings pi_sets pi_size po_needs ro_cells ro_lengths ro_shifts si_sightLaw si_sightRange th_unseen th_goals th_commonLength tr_marks tr_visited tr_size wh_places))) (va_Qi (fun (r : Int32) (u : Unit) => Q r) (fun (u : Unit) t => PW D A (wdC cI cL cZ ad ga_sightings ga_bestShifts ga_commonLength ga_allTimes gr_width gr_height gr_size gr_kinds gr_before gr_columns gr_rows gr_floorCells gr_clearCells gr_standCells gr_firstColumn gr_lastColumn pi_cells pi_facings pi_sets pi_size po_needs ro_cells ro_lengths ro_shifts si_sightLaw si_sightRange th_unseen th_goals th_commonLength tr_marks tr_visited tr_size wh_places) t.heap) A) 0 0 A := by
  refine Met.ofW (cc := cX3_needOf) (maxL := 6) (ret := (some .int)) (by decide) rfl ?_
  intro p e s m args below meth c s₁ B hml hv
  obtain ⟨hav, hP0, hD0, hK⟩ := hv
  have hx := B.exec
  have hb := B.bytes
  have hr := B.returns
  have hts := atoms_spec (ws := wsX3_needOf) B.pre
  have hown : s.vm.findClass RX3 = some m.cls := findClass_of_methodNamed B.named
  have hlocks := B.notSynchronized
  have hB : ∀ w ∈ BIG, w ∈ wsX3_needOf := fun _ h => List.mem_cons_of_mem _ h
  have hin : ∀ w ∈ wsX30, w ∈ wsX3_needOf := fun w h => hB w (inB_X3 w h)
  have lk9 := hts _ (hB _ m_206)
  have lk15 := hts _ (hB _ m_204)
  have lk19 := hts _ (hB _ m_205)
  obtain ⟨Z, hZ⟩ : ∃ Z : State → Prop, Z = MQ below (va_Qi (fun (r : Int32) (u : Unit) => Q r) (fun (u : Unit) t => PW D A (wdC cI cL cZ ad ga_sightings ga_bestShifts ga_commonLength ga_allTimes gr_width gr_height gr_size gr_kinds gr_before gr_columns gr_rows gr_floorCells gr_clearCells gr_standCells gr_firstColumn gr_lastColumn pi_cells pi_facings pi_sets pi_size po_needs ro_cells ro_lengths ro_shifts si_sightLaw si_sightRange th_unseen th_goals th_commonLength tr_marks tr_visited tr_size wh_places) t.heap) A) args s 0 0 A := ⟨_, rfl⟩
  rw [← hZ]
  have hw : SW D A s.heap (wdC cI cL cZ ad ga_sightings ga_bestShifts ga_commonLength ga_allTimes gr_width gr_height gr_size gr_kinds gr_before gr_columns gr_rows gr_floorCells gr_clearCells gr_standCells gr_firstColumn gr_lastColumn pi_cells pi_facings pi_sets pi_size po_needs ro_cells ro_lengths ro_shifts si_sightLaw si_sightRange th_unseen th_goals th_commonLength tr_marks tr_visited tr_size wh_places) s.heap [] := ⟨hP0, hD0, va_S.rf⟩
  clear hP0 hD0 B
  have J11 : ∀ (n : Nat) (x1 : Int32) (x2 : Int32) (x3 : Int32) (x4 : Int32) , L_po_needOf_11 gr_size pi_sets po_needs Q n x1 x2 x3 x4 → ∀ (H : Heap) (locs : List Loc) (ls : Array Slot), SW D A s.heap (wdC cI cL cZ ad ga_sightings ga_bestShifts ga_commonLength ga_allTimes gr_width gr_height gr_size gr_kinds gr_before gr_columns gr_rows gr_floorCells gr_clearCells gr_standCells gr_firstColumn gr_lastColumn pi_cells pi_facings pi_sets pi_size po_needs ro_cells ro_lengths ro_shifts si_sightLaw si_sightRange th_unseen th_goals th_commonLength tr_marks tr_visited tr_size wh_places) H locs → lv_has ls 6 [(0, .ref (ad 3)), (1, .int x1), (2, .int x2), (3, .int x3), (4, .int x4)] → W p l e (headSpec wsX3_needOf rm_po_needOf).room s m args below meth c H locs 0 0 Z (F0 m 11 ls []) := by
    intro  n
    induction n with
    | zero => intro x1 x2 x3 x4 h; exact h.elim
    | succ n ih =>
    intro x1 x2 x3 x4 h H locs ls hw hl
    unfold L_po_needOf_11 at h
    refine lv_iload hx hb dX3_needOf_11 (lv_at hl 4 rfl) ?_
    refine lv_aload_n hx hb dX3_needOf_13 rfl (lv_at hl 0 rfl) ?_
    refine gC_po_grid hx hb hts hin hown hK hw lk15 dX3_needOf_14 ?_
    refine cV_i (b := (ad 1)) (As := []) (rest := [.int x4]) ⟨hx, hb, hml, hown, hts⟩ hK hw (c_gr_size h) (cwV 0 hts (gd_RX3_33 hB) rfl rfl rfl (by decide +kernel) ⟨Nat.le_of_ble_eq_true rfl, Nat.le_of_ble_eq_true rfl⟩) (rC_gr hK hw) hl.1 ⟨Nat.zero_le _, Nat.zero_le _⟩ rfl rfl (Nat.le_of_ble_eq_true rfl) dX3_needOf_17 (fun r17 _ H locs h hw => ?_)
    refine lv_icmp_ge (tgt := 65) hx hb dX3_needOf_20 (by decide) (fun hc => ?_) (fun hc => ?_)
    · replace h := h.1 hc
      refine lv_iload_n hx hb dX3_needOf_65 rfl (lv_at hl 3 rfl) ?_
      rw [hZ]
      exact rt_i () hx hb hr hlocks hw h dX3_needOf_66
    · replace h := h.2 hc
      refine lv_aload_n hx hb dX3_needOf_23 rfl (lv_at hl 0 rfl) ?_
      refine gC_po_pictures hx hb hts hin hown hK hw lk19 dX3_needOf_24 ?_
      refine lv_iload hx hb dX3_needOf_27 (lv_at hl 4 rfl) ?_
      refine cV_i (b := (ad 2)) (As := [.int x4]) (rest := []) ⟨hx, hb, hml, hown, hts⟩ hK hw (c_pi_setAt x4 h) (cwV 1 hts (gd_RX3_38 hB) rfl rfl rfl (by decide +kernel) ⟨Nat.le_of_ble_eq_true rfl, Nat.le_of_ble_eq_true rfl⟩) (rC_pi hK hw) hl.1 ⟨Nat.zero_le _, Nat.zero_le _⟩ rfl rfl (Nat.le_of_ble_eq_true rfl) dX3_needOf_29 (fun r29 _ H locs h hw => ?_)
      refine lv_istore (lv' := [(5, .int r29), (0, .ref (ad 3)), (1, .int x1), (2, .int x2), (3, .int x3), (4, .int x4)]) hx hb dX3_needOf_32 hl (by decide) rfl (fun ls hl => ?_)
      refine lv_iload hx hb dX3_needOf_34 (lv_at hl 0 rfl) ?_
      refine lv_iload_n hx hb dX3_needOf_36 rfl (lv_at hl 3 rfl) ?_
      refine lv_iand hx hb dX3_needOf_37 ?_
      refine lv_if_eq (tgt := 59) hx hb dX3_needOf_38 (by decide) (fun hc => ?_) (fun hc => ?_)
      · replace h := h.1 hc
        refine lv_iinc (v := (x4 + (1 : Int32))) (lv' := [(4, .int (x4 + (1 : Int32))), (5, .int r29), (0, .ref (ad 3)), (1, .int x1), (2, .int x2), (3, .int x3)]) hx hb dX3_needOf_59 hl (k := 5) rfl rfl (by decide) rfl (fun ls hl => ?_)
        refine lv_goto (tgt := 11) hx hb dX3_needOf_62 (by decide) ?_
        exact ih _ _ _ _ h _ _ _ hw (lv_sub hl [2, 3, 4, 5, 0] rfl)
      · replace h := h.2 hc
        refine lv_iload_n hx hb dX3_needOf_41 rfl (lv_at hl 4 rfl) ?_
        refine lv_aload_n hx hb dX3_needOf_42 rfl (lv_at hl 1 rfl) ?_
        refine gC_po_needs hx hb hts hin hown hK hw lk9 dX3_needOf_43 ?_
        refine lv_iload_n hx hb dX3_needOf_46 rfl (lv_at hl 2 rfl) ?_
        refine lv_iload hx hb dX3_needOf_47 (lv_at hl 0 rfl) ?_
        refine lv_iconst (v := (-1)) hx hb dX3_needOf_49 (by decide) ?_
        refine lv_ixor hx hb dX3_needOf_50 ?_
        refine lv_iand hx hb dX3_needOf_51 ?_
        refine aC_po_needs hx hb hK hw h.1 dX3_needOf_52 ?_
        replace h := h.2
        refine lv_iconst (v := 1) hx hb dX3_needOf_53 (by decide) ?_
        refine lv_iadd hx hb dX3_needOf_54 ?_
        refine va_mmin hx hb (by rw [hml]; exact hl.1.symm) hown (hts _ (hB _ m_549)) (hts _ (hB _ m_444)) (hts _ (hB _ m_71)) (hts _ (hB _ m_445)) (Nat.le_of_ble_eq_true rfl) (Nat.le_of_ble_eq_true rfl) (Nat.zero_le _) (Nat.zero_le _) dX3_needOf_55 ?_
        refine lv_topi (fun x3_58 ex3_58 => ?_)
        replace h := h x3_58 ex3_58
        refine lv_istore_n (lv' := [(3, .int x3_58), (5, .int r29), (0, .ref (ad 3)), (1, .int x1), (2, .int x2), (4, .int x4)]) hx hb dX3_needOf_58 rfl hl (by decide) rfl (fun ls hl => ?_)
        refine lv_iinc (v := (x4 + (1 : Int32))) (lv' := [(4, .int (x4 + (1 : Int32))), (3, .int x3_58), (5, .int r29), (0, .ref (ad 3)), (1, .int x1), (2, .int x2)]) hx hb dX3_needOf_59 hl (k := 5) rfl rfl (by decide) rfl (fun ls hl => ?_)
        refine lv_goto (tgt := 11) hx hb dX3_needOf_62 (by decide) ?_
        exact ih _ _ _ _ h _ _ _ hw (lv_sub hl [3, 4, 5, 1, 0] rfl)
  unfold P_po_needOf at h
  have he : entryFrame m args 6 = entryFrame m ([.ref (ad 3), .int x1] : List Value).toArray 6 := by rw [hav]
  refine W.eq he ?_
  have hl := lv_entry ([.ref (ad 3), .int x1]) (n := 6) (Nat.le_of_ble_eq_true rfl)
  rw [lg_entry_eq]
  generalize (lg_sl ([.ref (ad 3), .int x1]) ++ List.replicate (6 - (lg_sl ([.ref (ad 3), .int x1])).length) Slot.unset).toArray = ls at hl ⊢
  have hl : lv_has ls 6 [(0, .ref (ad 3)), (1, .int x1)] := hl
  refine lv_iload_n hx hb dX3_needOf_0 rfl (lv_at hl 1 rfl) ?_
  refine lv_iload_n hx hb dX3_needOf_1 rfl (lv_at hl 1 rfl) ?_
  refine lv_ineg hx hb dX3_needOf_2 ?_
  refine lv_iand hx hb dX3_needOf_3 ?_
  refine lv_topi (fun x2_4 ex2_4 => ?_)
  replace h := h x2_4 ex2_4
  refine lv_istore_n (lv' := [(2, .int x2_4), (0, .ref (ad 3)), (1, .int x1)]) hx hb dX3_needOf_4 rfl hl (by decide) rfl (fun ls hl => ?_)
  refine lv_bipush (v := 99) hx hb dX3_needOf_5 (by decide) ?_
  refine lv_istore_n (lv' := [(3, .int (99 : Int32)), (2, .int x2_4), (0, .ref (ad 3)), (1, .int x1)]) hx hb dX3_needOf_7 rfl hl (by decide) rfl (fun ls hl => ?_)
  refine lv_iconst (v := 0) hx hb dX3_needOf_8 (by decide) ?_
  refine lv_istore (lv' := [(4, .int (0 : Int32)), (3, .int (99 : Int32)), (2, .int x2_4), (0, .ref (ad 3)), (1, .int x1)]) hx hb dX3_needOf_9 hl (by decide) rfl (fun ls hl => ?_)
  obtain ⟨n11, h⟩ := h
  exact J11  n11 _ _ _ _ h _ _ _ hw (lv_sub hl [3, 4, 2, 1, 0] rfl)
def rm_po_weigh : Room := { frames := 2, cells := 0, slots := 0, locals := 46 }
set_option maxHeartbeats 4000000 in
set_option maxRecDepth 100000 in
theorem c_po_weigh {l : Launch} {D : va_G} {cI cL cZ : ClassId} {mx my : Nat} {A : Nat → Prop} {ad : Nat → Nat} {ga_sightings th_unseen th_goals tr_visited : Nat → Int64} {ga_bestShifts gr_kinds gr_before gr_columns gr_rows pi_cells pi_facings pi_sets po_needs ro_cells ro_lengths ro_shifts tr_marks wh_places : Nat → Int32} {ga_commonLength gr_width gr_height gr_size pi_size si_sightLaw si_sightRange th_commonLength tr_size : Int32} {ga_allTimes gr_floorCells gr_clearCells gr_standCells gr_firstColumn gr_lastColumn : Int64}  {Q : (Nat → Int32) → Prop} (h : P_po_weigh gr_size pi_sets pi_size po_needs Q) : Met l yX3_weigh wsX3_weigh rm_po_weigh (va_Pc [.ref (ad 3)] (WC D cI cL cZ mx my A (wdC cI cL cZ ad ga_sightings ga_bestShifts ga_commonLength ga_allTimes gr_width gr_height gr_size gr_kinds gr_before gr_columns gr_rows gr_floorCells gr_clearCells gr_standCells gr_firstColumn gr_lastColumn pi_cells pi_facings pi_sets pi_size po_needs ro_cells ro_lengths ro_shifts si_sightLaw si_sightRange th_unseen th_goals th_commonLength tr_marks tr_visited tr_size wh_places))) (va_Qv (fun (u : (Nat → Int32)) => Q u) (fun (u : (Nat → Int32)) t => PW D A (wdC cI cL cZ ad ga_sightings ga_bestShifts ga_commonLength ga_allTimes gr_width gr_height gr_size gr_kinds gr_before gr_columns gr_rows gr_floorCells gr_clearCells gr_standCells gr_firstColumn gr_lastColumn pi_cells pi_facings pi_sets pi_size u ro_cells ro_lengths ro_shifts si_sightLaw si_sightRange th_unseen th_goals th_commonLength tr_marks tr_visited tr_size wh_places) t.heap) A) 0 0 A := by
  refine Met.ofW (cc := cX3_weigh) (maxL := 2) (ret := none) (by decide) rfl ?_
  intro p e s m args below meth c s₁ B hml hv
  obtain ⟨hav, hP0, hD0, hK⟩ := hv
  have hx := B.exec
  have hb := B.bytes
  have hr := B.returns
  have hts := atoms_spec (ws := wsX3_weigh) B.pre
  have hown : s.vm.findClass RX3 = some m.cls := findClass_of_methodNamed B.named
  have hlocks := B.notSynchronized
  have hB : ∀ w ∈ BIG, w ∈ wsX3_weigh := fun _ h => List.mem_cons_of_mem _ h
  have hin : ∀ w ∈ wsX30, w ∈ wsX3_weigh := fun w h => hB w (inB_X3 w h)
  have lk9 := hts _ (hB _ m_206)
  have lk19 := hts _ (hB _ m_205)
  obtain ⟨Z, hZ⟩ : ∃ Z : State → Prop, Z = MQ below (va_Qv (fun (u : (Nat → Int32)) => Q u) (fun (u : (Nat → Int32)) t => PW D A (wdC cI cL cZ ad ga_sightings ga_bestShifts ga_commonLength ga_allTimes gr_width gr_height gr_size gr_kinds gr_before gr_columns gr_rows gr_floorCells gr_clearCells gr_standCells gr_firstColumn gr_lastColumn pi_cells pi_facings pi_sets pi_size u ro_cells ro_lengths ro_shifts si_sightLaw si_sightRange th_unseen th_goals th_commonLength tr_marks tr_visited tr_size wh_places) t.heap) A) args s 0 0 A := ⟨_, rfl⟩
  rw [← hZ]
  have hw : SW D A s.heap (wdC cI cL cZ ad ga_sightings ga_bestShifts ga_commonLength ga_allTimes gr_width gr_height gr_size gr_kinds gr_before gr_columns gr_rows gr_floorCells gr_clearCells gr_standCells gr_firstColumn gr_lastColumn pi_cells pi_facings pi_sets pi_size po_needs ro_cells ro_lengths ro_shifts si_sightLaw si_sightRange th_unseen th_goals th_commonLength tr_marks tr_visited tr_size wh_places) s.heap [] := ⟨hP0, hD0, va_S.rf⟩
  clear hP0 hD0 B
  have J9 : ∀ (n : Nat) (po_needs : (Nat → Int32)) (x1 : Int32) , L_po_weigh_9 gr_size pi_sets pi_size Q n po_needs x1 → ∀ (H : Heap) (locs : List Loc) (ls : Array Slot), SW D A s.heap (wdC cI cL cZ ad ga_sightings ga_bestShifts ga_commonLength ga_allTimes gr_width gr_height gr_size gr_kinds gr_before gr_columns gr_rows gr_floorCells gr_clearCells gr_standCells gr_firstColumn gr_lastColumn pi_cells pi_facings pi_sets pi_size po_needs ro_cells ro_lengths ro_shifts si_sightLaw si_sightRange th_unseen th_goals th_commonLength tr_marks tr_visited tr_size wh_places) H locs → lv_has ls 2 [(0, .ref (ad 3)), (1, .int x1)] → W p l e (headSpec wsX3_weigh rm_po_weigh).room s m args below meth c H locs 0 0 Z (F0 m 9 ls []) := by
    intro  n
    induction n with
    | zero => intro po_needs x1 h; exact h.elim
    | succ n ih =>
    intro po_needs x1 h H locs ls hw hl
    unfold L_po_weigh_9 at h
    refine lv_iload_n hx hb dX3_weigh_9 rfl (lv_at hl 1 rfl) ?_
    refine lv_aload_n hx hb dX3_weigh_10 rfl (lv_at hl 0 rfl) ?_
    refine gC_po_pictures hx hb hts hin hown hK hw lk19 dX3_weigh_11 ?_
    refine cV_i (b := (ad 2)) (As := []) (rest := [.int x1]) ⟨hx, hb, hml, hown, hts⟩ hK hw (c_pi_all h) (cwV 0 hts (gd_RX3_23 hB) rfl rfl rfl (by decide +kernel) ⟨Nat.le_of_ble_eq_true rfl, Nat.le_of_ble_eq_true rfl⟩) (rC_pi hK hw) hl.1 ⟨Nat.zero_le _, Nat.zero_le _⟩ rfl rfl (Nat.le_of_ble_eq_true rfl) dX3_weigh_14 (fun r14 _ H locs h hw => ?_)
    refine lv_icmp_gt (tgt := 37) hx hb dX3_weigh_17 (by decide) (fun hc => ?_) (fun hc => ?_)
    · replace h := h.1 hc
      rw [hZ]
      exact rt_v po_needs hx hb hr hlocks hw h dX3_weigh_37
    · replace h := h.2 hc
      refine lv_aload_n hx hb dX3_weigh_20 rfl (lv_at hl 0 rfl) ?_
      refine gC_po_needs hx hb hts hin hown hK hw lk9 dX3_weigh_21 ?_
      refine lv_iload_n hx hb dX3_weigh_24 rfl (lv_at hl 1 rfl) ?_
      refine lv_aload_n hx hb dX3_weigh_25 rfl (lv_at hl 0 rfl) ?_
      refine lv_iload_n hx hb dX3_weigh_26 rfl (lv_at hl 1 rfl) ?_
      refine cV_i (b := (ad 3)) (As := [.int x1]) (rest := [.int x1, .ref (ad 19)]) ⟨hx, hb, hml, hown, hts⟩ hK hw (c_po_needOf x1 h) (cwV 1 hts (gd_RX3_29 hB) rfl rfl rfl (by decide +kernel) ⟨Nat.le_of_ble_eq_true rfl, Nat.le_of_ble_eq_true rfl⟩) (rC_po hK hw) hl.1 ⟨Nat.zero_le _, Nat.zero_le _⟩ rfl rfl (Nat.le_of_ble_eq_true rfl) dX3_weigh_27 (fun r27 _ H locs h hw => ?_)
      refine tC_po_needs hx hb hK hw h.1 dX3_weigh_30 (fun H locs hw => ?_)
      replace h := h.2
      refine lv_iinc (v := (x1 + (1 : Int32))) (lv' := [(1, .int (x1 + (1 : Int32))), (0, .ref (ad 3))]) hx hb dX3_weigh_31 hl (k := 1) rfl rfl (by decide) rfl (fun ls hl => ?_)
      refine lv_goto (tgt := 9) hx hb dX3_weigh_34 (by decide) ?_
      exact ih _ _ h _ _ _ hw (lv_sub hl [1, 0] rfl)
  unfold P_po_weigh at h
  have he : entryFrame m args 2 = entryFrame m ([.ref (ad 3)] : List Value).toArray 2 := by rw [hav]
  refine W.eq he ?_
  have hl := lv_entry ([.ref (ad 3)]) (n := 2) (Nat.le_of_ble_eq_true rfl)
  rw [lg_entry_eq]
  generalize (lg_sl ([.ref (ad 3)]) ++ List.replicate (2 - (lg_sl ([.ref (ad 3)])).length) Slot.unset).toArray = ls at hl ⊢
  have hl : lv_has ls 2 [(0, .ref (ad 3))] := hl
  refine lv_aload_n hx hb dX3_weigh_0 rfl (lv_at hl 0 rfl) ?_
  refine gC_po_needs hx hb hts hin hown hK hw lk9 dX3_weigh_1 ?_
  refine lv_iconst (v := 0) hx hb dX3_weigh_4 (by decide) ?_
  refine lv_iconst (v := 0) hx hb dX3_weigh_5 (by decide) ?_
  refine tC_po_needs hx hb hK hw h.1 dX3_weigh_6 (fun H locs hw => ?_)
  replace h := h.2
  refine lv_iconst (v := 1) hx hb dX3_weigh_7 (by decide) ?_
  refine lv_istore_n (lv' := [(1, .int (1 : Int32)), (0, .ref (ad 3))]) hx hb dX3_weigh_8 rfl hl (by decide) rfl (fun ls hl => ?_)
  obtain ⟨n9, h⟩ := h
  exact J9  n9 _ _ h _ _ _ hw (lv_sub hl [1, 0] rfl)
def rm_po_size : Room := { frames := 1, cells := 0, slots := 0, locals := 20 }
set_option maxHeartbeats 4000000 in
set_option maxRecDepth 100000 in
theorem c_po_size {l : Launch} {D : va_G} {cI cL cZ : ClassId} {mx my : Nat} {A : Nat → Prop} {ad : Nat → Nat} {ga_sightings th_unseen th_goals tr_visited : Nat → Int64} {ga_bestShifts gr_kinds gr_before gr_columns gr_rows pi_cells pi_facings pi_sets po_needs ro_cells ro_lengths ro_shifts tr_marks wh_places : Nat → Int32} {ga_commonLength gr_width gr_height gr_size pi_size si_sightLaw si_sightRange th_commonLength tr_size : Int32} {ga_allTimes gr_floorCells gr_clearCells gr_standCells gr_firstColumn gr_lastColumn : Int64}  {Q : Int32 → Prop} (h : P_po_size pi_size po_needs Q) : Met l yX3_size wsX3_size rm_po_size (va_Pc [.ref (ad 3)] (WC D cI cL cZ mx my A (wdC cI cL cZ ad ga_sightings ga_bestShifts ga_commonLength ga_allTimes gr_width gr_height gr_size gr_kinds gr_before gr_columns gr_rows gr_floorCells gr_clearCells gr_standCells gr_firstColumn gr_lastColumn pi_cells pi_facings pi_sets pi_size po_needs ro_cells ro_lengths ro_shifts si_sightLaw si_sightRange th_unseen th_goals th_commonLength tr_marks tr_visited tr_size wh_places))) (va_Qi (fun (r : Int32) (u : Unit) => Q r) (fun (u : Unit) t => PW D A (wdC cI cL cZ ad ga_sightings ga_bestShifts ga_commonLength ga_allTimes gr_width gr_height gr_size gr_kinds gr_before gr_columns gr_rows gr_floorCells gr_clearCells gr_standCells gr_firstColumn gr_lastColumn pi_cells pi_facings pi_sets pi_size po_needs ro_cells ro_lengths ro_shifts si_sightLaw si_sightRange th_unseen th_goals th_commonLength tr_marks tr_visited tr_size wh_places) t.heap) A) 0 0 A := by
  refine Met.ofW (cc := cX3_size) (maxL := 2) (ret := (some .int)) (by decide) rfl ?_
  intro p e s m args below meth c s₁ B hml hv
  obtain ⟨hav, hP0, hD0, hK⟩ := hv
  have hx := B.exec
  have hb := B.bytes
  have hr := B.returns
  have hts := atoms_spec (ws := wsX3_size) B.pre
  have hown : s.vm.findClass RX3 = some m.cls := findClass_of_methodNamed B.named
  have hlocks := B.notSynchronized
  have hB : ∀ w ∈ BIG, w ∈ wsX3_size := fun _ h => List.mem_cons_of_mem _ h
  have hin : ∀ w ∈ wsX30, w ∈ wsX3_size := fun w h => hB w (inB_X3 w h)
  have lk9 := hts _ (hB _ m_206)
  have lk19 := hts _ (hB _ m_205)
  obtain ⟨Z, hZ⟩ : ∃ Z : State → Prop, Z = MQ below (va_Qi (fun (r : Int32) (u : Unit) => Q r) (fun (u : Unit) t => PW D A (wdC cI cL cZ ad ga_sightings ga_bestShifts ga_commonLength ga_allTimes gr_width gr_height gr_size gr_kinds gr_before gr_columns gr_rows gr_floorCells gr_clearCells gr_standCells gr_firstColumn gr_lastColumn pi_cells pi_facings pi_sets pi_size po_needs ro_cells ro_lengths ro_shifts si_sightLaw si_sightRange th_unseen th_goals th_commonLength tr_marks tr_visited tr_size wh_places) t.heap) A) args s 0 0 A := ⟨_, rfl⟩
  rw [← hZ]
  have hw : SW D A s.heap (wdC cI cL cZ ad ga_sightings ga_bestShifts ga_commonLength ga_allTimes gr_width gr_height gr_size gr_kinds gr_before gr_columns gr_rows gr_floorCells gr_clearCells gr_standCells gr_firstColumn gr_lastColumn pi_cells pi_facings pi_sets pi_size po_needs ro_cells ro_lengths ro_shifts si_sightLaw si_sightRange th_unseen th_goals th_commonLength tr_marks tr_visited tr_size wh_places) s.heap [] := ⟨hP0, hD0, va_S.rf⟩
  clear hP0 hD0 B
  unfold P_po_size at h
  have he : entryFrame m args 2 = entryFrame m ([.ref (ad 3)] : List Value).toArray 2 := by rw [hav]
  refine W.eq he ?_
  have hl := lv_entry ([.ref (ad 3)]) (n := 2) (Nat.le_of_ble_eq_true rfl)
  rw [lg_entry_eq]
  generalize (lg_sl ([.ref (ad 3)]) ++ List.replicate (2 - (lg_sl ([.ref (ad 3)])).length) Slot.unset).toArray = ls at hl ⊢
  have hl : lv_has ls 2 [(0, .ref (ad 3))] := hl
  refine lv_aload_n hx hb dX3_size_0 rfl (lv_at hl 0 rfl) ?_
  refine gC_po_needs hx hb hts hin hown hK hw lk9 dX3_size_1 ?_
  refine lv_aload_n hx hb dX3_size_4 rfl (lv_at hl 0 rfl) ?_
  refine gC_po_pictures hx hb hts hin hown hK hw lk19 dX3_size_5 ?_
  refine cV_i (b := (ad 2)) (As := []) (rest := [.ref (ad 19)]) ⟨hx, hb, hml, hown, hts⟩ hK hw (c_pi_all h) (cwV 0 hts (gd_RX3_23 hB) rfl rfl rfl (by decide +kernel) ⟨Nat.le_of_ble_eq_true rfl, Nat.le_of_ble_eq_true rfl⟩) (rC_pi hK hw) hl.1 ⟨Nat.zero_le _, Nat.zero_le _⟩ rfl rfl (Nat.le_of_ble_eq_true rfl) dX3_size_8 (fun r8 _ H locs h hw => ?_)
  refine aC_po_needs hx hb hK hw h.1 dX3_size_11 ?_
  replace h := h.2
  refine lv_topi (fun x1_12 ex1_12 => ?_)
  replace h := h x1_12 ex1_12
  refine lv_istore_n (lv' := [(1, .int x1_12), (0, .ref (ad 3))]) hx hb dX3_size_12 rfl hl (by decide) rfl (fun ls hl => ?_)
  refine lv_iload_n hx hb dX3_size_13 rfl (lv_at hl 0 rfl) ?_
  refine lv_bipush (v := 8) hx hb dX3_size_14 (by decide) ?_
  refine lv_icmp_le (tgt := 24) hx hb dX3_size_16 (by decide) (fun hc => ?_) (fun hc => ?_)
  · replace h := h.1 hc
    refine lv_iload_n hx hb dX3_size_24 rfl (lv_at hl 0 rfl) ?_
    rw [hZ]
    exact rt_i () hx hb hr hlocks hw h dX3_size_25
  · replace h := h.2 hc
    refine lv_bipush (v := (-9)) hx hb dX3_size_19 (by decide) ?_
    refine lv_goto (tgt := 25) hx hb dX3_size_21 (by decide) ?_
    rw [hZ]
    exact rt_i () hx hb hr hlocks hw h dX3_size_25
