def rm_gr_columnOf : Room := { frames := 0, cells := 0, slots := 0, locals := 0 }
set_option maxHeartbeats 4000000 in
set_option maxRecDepth 100000 in
theorem c_gr_columnOf {l : Launch} {D : va_G} {cI cL cZ : ClassId} {mx my : Nat} {A : Nat → Prop} {ad : Nat → Nat} {ga_sightings th_unseen th_goals tr_visited : Nat → Int64} {ga_bestShifts gr_kinds gr_before gr_columns gr_rows pi_cells pi_facings pi_sets po_needs ro_cells ro_lengths ro_shifts tr_marks wh_places : Nat → Int32} {ga_commonLength gr_width gr_height gr_size pi_size si_sightLaw si_sightRange th_commonLength tr_size : Int32} {ga_allTimes gr_floorCells gr_clearCells gr_standCells gr_firstColumn gr_lastColumn : Int64} (x1 : Int32) {Q : Int32 → Prop} (h : P_gr_columnOf gr_columns x1 Q) : Met l yX1_columnOf wsX1_columnOf rm_gr_columnOf (va_Pc [.ref (ad 1), .int x1] (WC D cI cL cZ mx my A (wdC cI cL cZ ad ga_sightings ga_bestShifts ga_commonLength ga_allTimes gr_width gr_height gr_size gr_kinds gr_before gr_columns gr_rows gr_floorCells gr_clearCells gr_standCells gr_firstColumn gr_lastColumn pi_cells pi_facings pi_sets pi_size po_needs ro_cells ro_lengths ro_shifts si_sightLaw si_sightRange th_unseen th_goals th_commonLength tr_marks tr_visited tr_size wh_places))) (va_Qi (fun (r : Int32) (u : Unit) => Q r) (fun (u : Unit) t => PW D A (wdC cI cL cZ ad ga_sightings ga_bestShifts ga_commonLength ga_allTimes gr_width gr_height gr_size gr_kinds gr_before gr_columns gr_rows gr_floorCells gr_clearCells gr_standCells gr_firstColumn gr_lastColumn pi_cells pi_facings pi_sets pi_size po_needs ro_cells ro_lengths ro_shifts si_sightLaw si_sightRange th_unseen th_goals th_commonLength tr_marks tr_visited tr_size wh_places) t.heap) A) 0 0 A := by
  refine Met.ofW (cc := cX1_columnOf) (maxL := 2) (ret := (some .int)) (by decide) rfl ?_
  intro p e s m args below meth c s₁ B hml hv
  obtain ⟨hav, hP0, hD0, hK⟩ := hv
  have hx := B.exec
  have hb := B.bytes
  have hr := B.returns
  have hts := atoms_spec (ws := wsX1_columnOf) B.pre
  have hown : s.vm.findClass RX1 = some m.cls := findClass_of_methodNamed B.named
  have hlocks := B.notSynchronized
  have hB : ∀ w ∈ BIG, w ∈ wsX1_columnOf := fun _ h => List.mem_cons_of_mem _ h
  have hin : ∀ w ∈ wsX10, w ∈ wsX1_columnOf := fun w h => hB w (inB_X1 w h)
  have lk18 := hts _ (hB _ m_108)
  obtain ⟨Z, hZ⟩ : ∃ Z : State → Prop, Z = MQ below (va_Qi (fun (r : Int32) (u : Unit) => Q r) (fun (u : Unit) t => PW D A (wdC cI cL cZ ad ga_sightings ga_bestShifts ga_commonLength ga_allTimes gr_width gr_height gr_size gr_kinds gr_before gr_columns gr_rows gr_floorCells gr_clearCells gr_standCells gr_firstColumn gr_lastColumn pi_cells pi_facings pi_sets pi_size po_needs ro_cells ro_lengths ro_shifts si_sightLaw si_sightRange th_unseen th_goals th_commonLength tr_marks tr_visited tr_size wh_places) t.heap) A) args s 0 0 A := ⟨_, rfl⟩
  rw [← hZ]
  have hw : SW D A s.heap (wdC cI cL cZ ad ga_sightings ga_bestShifts ga_commonLength ga_allTimes gr_width gr_height gr_size gr_kinds gr_before gr_columns gr_rows gr_floorCells gr_clearCells gr_standCells gr_firstColumn gr_lastColumn pi_cells pi_facings pi_sets pi_size po_needs ro_cells ro_lengths ro_shifts si_sightLaw si_sightRange th_unseen th_goals th_commonLength tr_marks tr_visited tr_size wh_places) s.heap [] := ⟨hP0, hD0, va_S.rf⟩
  clear hP0 hD0 B
  unfold P_gr_columnOf at h
  have he : entryFrame m args 2 = entryFrame m ([.ref (ad 1), .int x1] : List Value).toArray 2 := by rw [hav]
  refine W.eq he ?_
  have hl := lv_entry ([.ref (ad 1), .int x1]) (n := 2) (Nat.le_of_ble_eq_true rfl)
  rw [lg_entry_eq]
  generalize (lg_sl ([.ref (ad 1), .int x1]) ++ List.replicate (2 - (lg_sl ([.ref (ad 1), .int x1])).length) Slot.unset).toArray = ls at hl ⊢
  have hl : lv_has ls 2 [(0, .ref (ad 1)), (1, .int x1)] := hl
  refine lv_aload_n hx hb dX1_columnOf_0 rfl (lv_at hl 0 rfl) ?_
  refine gC_gr_columns hx hb hts hin hown hK hw lk18 dX1_columnOf_1 ?_
  refine lv_iload_n hx hb dX1_columnOf_4 rfl (lv_at hl 1 rfl) ?_
  refine aC_gr_columns hx hb hK hw h.1 dX1_columnOf_5 ?_
  replace h := h.2
  rw [hZ]
  exact rt_i () hx hb hr hlocks hw h dX1_columnOf_6
def rm_gr_rowOf : Room := { frames := 0, cells := 0, slots := 0, locals := 0 }
set_option maxHeartbeats 4000000 in
set_option maxRecDepth 100000 in
theorem c_gr_rowOf {l : Launch} {D : va_G} {cI cL cZ : ClassId} {mx my : Nat} {A : Nat → Prop} {ad : Nat → Nat} {ga_sightings th_unseen th_goals tr_visited : Nat → Int64} {ga_bestShifts gr_kinds gr_before gr_columns gr_rows pi_cells pi_facings pi_sets po_needs ro_cells ro_lengths ro_shifts tr_marks wh_places : Nat → Int32} {ga_commonLength gr_width gr_height gr_size pi_size si_sightLaw si_sightRange th_commonLength tr_size : Int32} {ga_allTimes gr_floorCells gr_clearCells gr_standCells gr_firstColumn gr_lastColumn : Int64} (x1 : Int32) {Q : Int32 → Prop} (h : P_gr_rowOf gr_rows x1 Q) : Met l yX1_rowOf wsX1_rowOf rm_gr_rowOf (va_Pc [.ref (ad 1), .int x1] (WC D cI cL cZ mx my A (wdC cI cL cZ ad ga_sightings ga_bestShifts ga_commonLength ga_allTimes gr_width gr_height gr_size gr_kinds gr_before gr_columns gr_rows gr_floorCells gr_clearCells gr_standCells gr_firstColumn gr_lastColumn pi_cells pi_facings pi_sets pi_size po_needs ro_cells ro_lengths ro_shifts si_sightLaw si_sightRange th_unseen th_goals th_commonLength tr_marks tr_visited tr_size wh_places))) (va_Qi (fun (r : Int32) (u : Unit) => Q r) (fun (u : Unit) t => PW D A (wdC cI cL cZ ad ga_sightings ga_bestShifts ga_commonLength ga_allTimes gr_width gr_height gr_size gr_kinds gr_before gr_columns gr_rows gr_floorCells gr_clearCells gr_standCells gr_firstColumn gr_lastColumn pi_cells pi_facings pi_sets pi_size po_needs ro_cells ro_lengths ro_shifts si_sightLaw si_sightRange th_unseen th_goals th_commonLength tr_marks tr_visited tr_size wh_places) t.heap) A) 0 0 A := by
  refine Met.ofW (cc := cX1_rowOf) (maxL := 2) (ret := (some .int)) (by decide) rfl ?_
  intro p e s m args below meth c s₁ B hml hv
  obtain ⟨hav, hP0, hD0, hK⟩ := hv
  have hx := B.exec
  have hb := B.bytes
  have hr := B.returns
  have hts := atoms_spec (ws := wsX1_rowOf) B.pre
  have hown : s.vm.findClass RX1 = some m.cls := findClass_of_methodNamed B.named
  have hlocks := B.notSynchronized
  have hB : ∀ w ∈ BIG, w ∈ wsX1_rowOf := fun _ h => List.mem_cons_of_mem _ h
  have hin : ∀ w ∈ wsX10, w ∈ wsX1_rowOf := fun w h => hB w (inB_X1 w h)
  have lk21 := hts _ (hB _ m_109)
  obtain ⟨Z, hZ⟩ : ∃ Z : State → Prop, Z = MQ below (va_Qi (fun (r : Int32) (u : Unit) => Q r) (fun (u : Unit) t => PW D A (wdC cI cL cZ ad ga_sightings ga_bestShifts ga_commonLength ga_allTimes gr_width gr_height gr_size gr_kinds gr_before gr_columns gr_rows gr_floorCells gr_clearCells gr_standCells gr_firstColumn gr_lastColumn pi_cells pi_facings pi_sets pi_size po_needs ro_cells ro_lengths ro_shifts si_sightLaw si_sightRange th_unseen th_goals th_commonLength tr_marks tr_visited tr_size wh_places) t.heap) A) args s 0 0 A := ⟨_, rfl⟩
  rw [← hZ]
  have hw : SW D A s.heap (wdC cI cL cZ ad ga_sightings ga_bestShifts ga_commonLength ga_allTimes gr_width gr_height gr_size gr_kinds gr_before gr_columns gr_rows gr_floorCells gr_clearCells gr_standCells gr_firstColumn gr_lastColumn pi_cells pi_facings pi_sets pi_size po_needs ro_cells ro_lengths ro_shifts si_sightLaw si_sightRange th_unseen th_goals th_commonLength tr_marks tr_visited tr_size wh_places) s.heap [] := ⟨hP0, hD0, va_S.rf⟩
  clear hP0 hD0 B
  unfold P_gr_rowOf at h
  have he : entryFrame m args 2 = entryFrame m ([.ref (ad 1), .int x1] : List Value).toArray 2 := by rw [hav]
  refine W.eq he ?_
  have hl := lv_entry ([.ref (ad 1), .int x1]) (n := 2) (Nat.le_of_ble_eq_true rfl)
  rw [lg_entry_eq]
  generalize (lg_sl ([.ref (ad 1), .int x1]) ++ List.replicate (2 - (lg_sl ([.ref (ad 1), .int x1])).length) Slot.unset).toArray = ls at hl ⊢
  have hl : lv_has ls 2 [(0, .ref (ad 1)), (1, .int x1)] := hl
  refine lv_aload_n hx hb dX1_rowOf_0 rfl (lv_at hl 0 rfl) ?_
  refine gC_gr_rows hx hb hts hin hown hK hw lk21 dX1_rowOf_1 ?_
  refine lv_iload_n hx hb dX1_rowOf_4 rfl (lv_at hl 1 rfl) ?_
  refine aC_gr_rows hx hb hK hw h.1 dX1_rowOf_5 ?_
  replace h := h.2
  rw [hZ]
  exact rt_i () hx hb hr hlocks hw h dX1_rowOf_6
def rm_pi_isBehind : Room := { frames := 1, cells := 0, slots := 0, locals := 21 }
set_option maxHeartbeats 4000000 in
set_option maxRecDepth 100000 in
theorem c_pi_isBehind {l : Launch} {D : va_G} {cI cL cZ : ClassId} {mx my : Nat} {A : Nat → Prop} {ad : Nat → Nat} {ga_sightings th_unseen th_goals tr_visited : Nat → Int64} {ga_bestShifts gr_kinds gr_before gr_columns gr_rows pi_cells pi_facings pi_sets po_needs ro_cells ro_lengths ro_shifts tr_marks wh_places : Nat → Int32} {ga_commonLength gr_width gr_height gr_size pi_size si_sightLaw si_sightRange th_commonLength tr_size : Int32} {ga_allTimes gr_floorCells gr_clearCells gr_standCells gr_firstColumn gr_lastColumn : Int64} (x1 : Int32) (x2 : Int32) {Q : Int32 → Prop} (h : P_pi_isBehind gr_columns gr_rows pi_cells pi_facings x1 x2 Q) : Met l yX2_isBehind wsX2_isBehind rm_pi_isBehind (va_Pc [.ref (ad 2), .int x1, .int x2] (WC D cI cL cZ mx my A (wdC cI cL cZ ad ga_sightings ga_bestShifts ga_commonLength ga_allTimes gr_width gr_height gr_size gr_kinds gr_before gr_columns gr_rows gr_floorCells gr_clearCells gr_standCells gr_firstColumn gr_lastColumn pi_cells pi_facings pi_sets pi_size po_needs ro_cells ro_lengths ro_shifts si_sightLaw si_sightRange th_unseen th_goals th_commonLength tr_marks tr_visited tr_size wh_places))) (va_Qi (fun (r : Int32) (u : Unit) => Q r) (fun (u : Unit) t => PW D A (wdC cI cL cZ ad ga_sightings ga_bestShifts ga_commonLength ga_allTimes gr_width gr_height gr_size gr_kinds gr_before gr_columns gr_rows gr_floorCells gr_clearCells gr_standCells gr_firstColumn gr_lastColumn pi_cells pi_facings pi_sets pi_size po_needs ro_cells ro_lengths ro_shifts si_sightLaw si_sightRange th_unseen th_goals th_commonLength tr_marks tr_visited tr_size wh_places) t.heap) A) 0 0 A := by
  refine Met.ofW (cc := cX2_isBehind) (maxL := 6) (ret := (some .boolean)) (by decide) rfl ?_
  intro p e s m args below meth c s₁ B hml hv
  obtain ⟨hav, hP0, hD0, hK⟩ := hv
  have hx := B.exec
  have hb := B.bytes
  have hr := B.returns
  have hts := atoms_spec (ws := wsX2_isBehind) B.pre
  have hown : s.vm.findClass RX2 = some m.cls := findClass_of_methodNamed B.named
  have hlocks := B.notSynchronized
  have hB : ∀ w ∈ BIG, w ∈ wsX2_isBehind := fun _ h => List.mem_cons_of_mem _ h
  have hin : ∀ w ∈ wsX20, w ∈ wsX2_isBehind := fun w h => hB w (inB_X2 w h)
  have lk9 := hts _ (hB _ m_165)
  have lk15 := hts _ (hB _ m_166)
  have lk21 := hts _ (hB _ m_163)
  obtain ⟨Z, hZ⟩ : ∃ Z : State → Prop, Z = MQ below (va_Qi (fun (r : Int32) (u : Unit) => Q r) (fun (u : Unit) t => PW D A (wdC cI cL cZ ad ga_sightings ga_bestShifts ga_commonLength ga_allTimes gr_width gr_height gr_size gr_kinds gr_before gr_columns gr_rows gr_floorCells gr_clearCells gr_standCells gr_firstColumn gr_lastColumn pi_cells pi_facings pi_sets pi_size po_needs ro_cells ro_lengths ro_shifts si_sightLaw si_sightRange th_unseen th_goals th_commonLength tr_marks tr_visited tr_size wh_places) t.heap) A) args s 0 0 A := ⟨_, rfl⟩
  rw [← hZ]
  have hw : SW D A s.heap (wdC cI cL cZ ad ga_sightings ga_bestShifts ga_commonLength ga_allTimes gr_width gr_height gr_size gr_kinds gr_before gr_columns gr_rows gr_floorCells gr_clearCells gr_standCells gr_firstColumn gr_lastColumn pi_cells pi_facings pi_sets pi_size po_needs ro_cells ro_lengths ro_shifts si_sightLaw si_sightRange th_unseen th_goals th_commonLength tr_marks tr_visited tr_size wh_places) s.heap [] := ⟨hP0, hD0, va_S.rf⟩
  clear hP0 hD0 B
  unfold P_pi_isBehind at h
  have he : entryFrame m args 6 = entryFrame m ([.ref (ad 2), .int x1, .int x2] : List Value).toArray 6 := by rw [hav]
  refine W.eq he ?_
  have hl := lv_entry ([.ref (ad 2), .int x1, .int x2]) (n := 6) (Nat.le_of_ble_eq_true rfl)
  rw [lg_entry_eq]
  generalize (lg_sl ([.ref (ad 2), .int x1, .int x2]) ++ List.replicate (6 - (lg_sl ([.ref (ad 2), .int x1, .int x2])).length) Slot.unset).toArray = ls at hl ⊢
  have hl : lv_has ls 6 [(0, .ref (ad 2)), (1, .int x1), (2, .int x2)] := hl
  refine lv_aload_n hx hb dX2_isBehind_0 rfl (lv_at hl 0 rfl) ?_
  refine gC_pi_grid hx hb hts hin hown hK hw lk21 dX2_isBehind_1 ?_
  refine lv_iload_n hx hb dX2_isBehind_4 rfl (lv_at hl 2 rfl) ?_
  refine cV_i (b := (ad 1)) (As := [.int x2]) (rest := []) ⟨hx, hb, hml, hown, hts⟩ hK hw (c_gr_columnOf x2 h) (cwV 1 hts (gd_RX2_42 hB) rfl rfl rfl (by decide +kernel) ⟨Nat.le_of_ble_eq_true rfl, Nat.le_of_ble_eq_true rfl⟩) (rC_gr hK hw) hl.1 ⟨Nat.zero_le _, Nat.zero_le _⟩ rfl rfl (Nat.le_of_ble_eq_true rfl) dX2_isBehind_5 (fun r5 _ H locs h hw => ?_)
  refine lv_aload_n hx hb dX2_isBehind_8 rfl (lv_at hl 0 rfl) ?_
  refine gC_pi_grid hx hb hts hin hown hK hw lk21 dX2_isBehind_9 ?_
  refine lv_aload_n hx hb dX2_isBehind_12 rfl (lv_at hl 0 rfl) ?_
  refine gC_pi_cells hx hb hts hin hown hK hw lk9 dX2_isBehind_13 ?_
  refine lv_iload_n hx hb dX2_isBehind_16 rfl (lv_at hl 1 rfl) ?_
  refine aC_pi_cells hx hb hK hw h.1 dX2_isBehind_17 ?_
  replace h := h.2
  refine cV_i (b := (ad 1)) (As := [.int (pi_cells x1.toNatClampNeg)]) (rest := [.int r5]) ⟨hx, hb, hml, hown, hts⟩ hK hw (c_gr_columnOf (pi_cells x1.toNatClampNeg) h) (cwV 1 hts (gd_RX2_42 hB) rfl rfl rfl (by decide +kernel) ⟨Nat.le_of_ble_eq_true rfl, Nat.le_of_ble_eq_true rfl⟩) (rC_gr hK hw) hl.1 ⟨Nat.zero_le _, Nat.zero_le _⟩ rfl rfl (Nat.le_of_ble_eq_true rfl) dX2_isBehind_18 (fun r18 _ H locs h hw => ?_)
  refine lv_isub hx hb dX2_isBehind_21 ?_
  refine lv_topi (fun x3_22 ex3_22 => ?_)
  replace h := h x3_22 ex3_22
  refine lv_istore_n (lv' := [(3, .int x3_22), (0, .ref (ad 2)), (1, .int x1), (2, .int x2)]) hx hb dX2_isBehind_22 rfl hl (by decide) rfl (fun ls hl => ?_)
  refine lv_aload_n hx hb dX2_isBehind_23 rfl (lv_at hl 1 rfl) ?_
  refine gC_pi_grid hx hb hts hin hown hK hw lk21 dX2_isBehind_24 ?_
  refine lv_iload_n hx hb dX2_isBehind_27 rfl (lv_at hl 3 rfl) ?_
  refine cV_i (b := (ad 1)) (As := [.int x2]) (rest := []) ⟨hx, hb, hml, hown, hts⟩ hK hw (c_gr_rowOf x2 h) (cwV 1 hts (gd_RX2_48 hB) rfl rfl rfl (by decide +kernel) ⟨Nat.le_of_ble_eq_true rfl, Nat.le_of_ble_eq_true rfl⟩) (rC_gr hK hw) hl.1 ⟨Nat.zero_le _, Nat.zero_le _⟩ rfl rfl (Nat.le_of_ble_eq_true rfl) dX2_isBehind_28 (fun r28 _ H locs h hw => ?_)
  refine lv_aload_n hx hb dX2_isBehind_31 rfl (lv_at hl 1 rfl) ?_
  refine gC_pi_grid hx hb hts hin hown hK hw lk21 dX2_isBehind_32 ?_
  refine lv_aload_n hx hb dX2_isBehind_35 rfl (lv_at hl 1 rfl) ?_
  refine gC_pi_cells hx hb hts hin hown hK hw lk9 dX2_isBehind_36 ?_
  refine lv_iload_n hx hb dX2_isBehind_39 rfl (lv_at hl 2 rfl) ?_
  refine aC_pi_cells hx hb hK hw h.1 dX2_isBehind_40 ?_
  replace h := h.2
  refine cV_i (b := (ad 1)) (As := [.int (pi_cells x1.toNatClampNeg)]) (rest := [.int r28]) ⟨hx, hb, hml, hown, hts⟩ hK hw (c_gr_rowOf (pi_cells x1.toNatClampNeg) h) (cwV 1 hts (gd_RX2_48 hB) rfl rfl rfl (by decide +kernel) ⟨Nat.le_of_ble_eq_true rfl, Nat.le_of_ble_eq_true rfl⟩) (rC_gr hK hw) hl.1 ⟨Nat.zero_le _, Nat.zero_le _⟩ rfl rfl (Nat.le_of_ble_eq_true rfl) dX2_isBehind_41 (fun r41 _ H locs h hw => ?_)
  refine lv_isub hx hb dX2_isBehind_44 ?_
  refine lv_topi (fun x4_45 ex4_45 => ?_)
  replace h := h x4_45 ex4_45
  refine lv_istore (lv' := [(4, .int x4_45), (3, .int x3_22), (0, .ref (ad 2)), (1, .int x1), (2, .int x2)]) hx hb dX2_isBehind_45 hl (by decide) rfl (fun ls hl => ?_)
  refine lv_aload_n hx hb dX2_isBehind_47 rfl (lv_at hl 2 rfl) ?_
  refine gC_pi_facings hx hb hts hin hown hK hw lk15 dX2_isBehind_48 ?_
  refine lv_iload_n hx hb dX2_isBehind_51 rfl (lv_at hl 3 rfl) ?_
  refine aC_pi_facings hx hb hK hw h.1 dX2_isBehind_52 ?_
  replace h := h.2
  refine lv_topi (fun x5_53 ex5_53 => ?_)
  replace h := h x5_53 ex5_53
  refine lv_istore (lv' := [(5, .int x5_53), (4, .int x4_45), (3, .int x3_22), (0, .ref (ad 2)), (1, .int x1), (2, .int x2)]) hx hb dX2_isBehind_53 hl (by decide) rfl (fun ls hl => ?_)
  refine va_getsN hx hb hK.2.2.1 hw.2.2 hown (va_Nw.use rfl hK.2.1.2.2.2.1) (fun _ h9 => h9) dX2_isBehind_55 ?_
  refine lv_iload hx hb dX2_isBehind_58 (lv_at hl 0 rfl) ?_
  refine va_ti hx hb hK.2.2.2.1 hw.2.2 h.1 rfl dX2_isBehind_60 ?_
  replace h := h.2
  refine lv_iload_n hx hb dX2_isBehind_61 rfl (lv_at hl 2 rfl) ?_
  refine lv_imul hx hb dX2_isBehind_62 ?_
  refine va_getsN hx hb hK.2.2.2.2.1 hw.2.2 hown (va_Nw.use rfl hK.2.1.2.2.2.2.1) (fun _ h9 => h9) dX2_isBehind_63 ?_
  refine lv_iload hx hb dX2_isBehind_66 (lv_at hl 0 rfl) ?_
  refine va_ti hx hb hK.2.2.2.2.2 hw.2.2 h.1 rfl dX2_isBehind_68 ?_
  replace h := h.2
  refine lv_iload hx hb dX2_isBehind_69 (lv_at hl 1 rfl) ?_
  refine lv_imul hx hb dX2_isBehind_71 ?_
  refine lv_iadd hx hb dX2_isBehind_72 ?_
  refine lv_if_ge (tgt := 80) hx hb dX2_isBehind_73 (by decide) (fun hc => ?_) (fun hc => ?_)
  · replace h := h.1 hc
    refine lv_iconst (v := 0) hx hb dX2_isBehind_80 (by decide) ?_
    rw [hZ]
    exact rt_z () hx hb hr hlocks hw (by decide) h dX2_isBehind_81
  · replace h := h.2 hc
    refine lv_iconst (v := 1) hx hb dX2_isBehind_76 (by decide) ?_
    refine lv_goto (tgt := 81) hx hb dX2_isBehind_77 (by decide) ?_
    rw [hZ]
    exact rt_z () hx hb hr hlocks hw (by decide) h dX2_isBehind_81
def rm_wh_holds : Room := { frames := 0, cells := 0, slots := 0, locals := 0 }
set_option maxHeartbeats 4000000 in
set_option maxRecDepth 100000 in
theorem c_wh_holds {l : Launch} {D : va_G} {cI cL cZ : ClassId} {mx my : Nat} {A : Nat → Prop}  {w : va_W} (x0 : Int64) (x2 : Int32) {Q : Int32 → Prop} (h : P_wh_holds x0 x2 Q) : Met l yX9_holds wsX9_holds rm_wh_holds (va_Pc [.long x0, .int x2] (WC D cI cL cZ mx my A w)) (va_Qi (fun (r : Int32) (u : Unit) => Q r) (fun (u : Unit) t => PW D A w t.heap) A) 0 0 A := by
  refine Met.ofW (cc := cX9_holds) (maxL := 3) (ret := (some .boolean)) (by decide) rfl ?_
  intro p e s m args below meth c s₁ B hml hv
  obtain ⟨hav, hP0, hD0, hK⟩ := hv
  have hx := B.exec
  have hb := B.bytes
  have hr := B.returns
  have hts := atoms_spec (ws := wsX9_holds) B.pre
  have hown : s.vm.findClass RX9 = some m.cls := findClass_of_methodNamed B.named
  have hlocks := B.notSynchronized
  have hB : ∀ w ∈ BIG, w ∈ wsX9_holds := fun _ h => List.mem_cons_of_mem _ h
  obtain ⟨Z, hZ⟩ : ∃ Z : State → Prop, Z = MQ below (va_Qi (fun (r : Int32) (u : Unit) => Q r) (fun (u : Unit) t => PW D A w t.heap) A) args s 0 0 A := ⟨_, rfl⟩
  rw [← hZ]
  have hw : SW D A s.heap w s.heap [] := ⟨hP0, hD0, va_S.rf⟩
  clear hP0 hD0 B
  unfold P_wh_holds at h
  have he : entryFrame m args 3 = entryFrame m ([.long x0, .int x2] : List Value).toArray 3 := by rw [hav]
  refine W.eq he ?_
  have hl := lv_entry ([.long x0, .int x2]) (n := 3) (Nat.le_of_ble_eq_true rfl)
  rw [lg_entry_eq]
  generalize (lg_sl ([.long x0, .int x2]) ++ List.replicate (3 - (lg_sl ([.long x0, .int x2])).length) Slot.unset).toArray = ls at hl ⊢
  have hl : lv_has ls 3 [(0, .long x0), (2, .int x2)] := hl
  refine lv_lload_n hx hb dX9_holds_0 rfl (lv_at hl 0 rfl) ?_
  refine lv_iload_n hx hb dX9_holds_1 rfl (lv_at hl 1 rfl) ?_
  refine lv_lushr hx hb dX9_holds_2 rfl ?_
  refine lv_lconst (v := 1) hx hb dX9_holds_3 (by decide) ?_
  refine lv_land hx hb dX9_holds_4 ?_
  refine lv_lconst (v := 0) hx hb dX9_holds_5 (by decide) ?_
  refine W.lcmp hx hb dX9_holds_6 ?_
  refine lv_if_eq (tgt := 14) hx hb dX9_holds_7 (by decide) (fun hc => ?_) (fun hc => ?_)
  · replace h := h.1 hc
    refine lv_iconst (v := 0) hx hb dX9_holds_14 (by decide) ?_
    rw [hZ]
    exact rt_z () hx hb hr hlocks hw (by decide) h dX9_holds_15
  · replace h := h.2 hc
    refine lv_iconst (v := 1) hx hb dX9_holds_10 (by decide) ?_
    refine lv_goto (tgt := 15) hx hb dX9_holds_11 (by decide) ?_
    rw [hZ]
    exact rt_z () hx hb hr hlocks hw (by decide) h dX9_holds_15
def rm_gr_isFloor : Room := { frames := 1, cells := 0, slots := 0, locals := 22 }
set_option maxHeartbeats 4000000 in
set_option maxRecDepth 100000 in
theorem c_gr_isFloor {l : Launch} {D : va_G} {cI cL cZ : ClassId} {mx my : Nat} {A : Nat → Prop} {ad : Nat → Nat} {ga_sightings th_unseen th_goals tr_visited : Nat → Int64} {ga_bestShifts gr_kinds gr_before gr_columns gr_rows pi_cells pi_facings pi_sets po_needs ro_cells ro_lengths ro_shifts tr_marks wh_places : Nat → Int32} {ga_commonLength gr_width gr_height gr_size pi_size si_sightLaw si_sightRange th_commonLength tr_size : Int32} {ga_allTimes gr_floorCells gr_clearCells gr_standCells gr_firstColumn gr_lastColumn : Int64} (x1 : Int32) {Q : Int32 → Prop} (h : P_gr_isFloor gr_floorCells x1 Q) : Met l yX1_isFloor wsX1_isFloor rm_gr_isFloor (va_Pc [.ref (ad 1), .int x1] (WC D cI cL cZ mx my A (wdC cI cL cZ ad ga_sightings ga_bestShifts ga_commonLength ga_allTimes gr_width gr_height gr_size gr_kinds gr_before gr_columns gr_rows gr_floorCells gr_clearCells gr_standCells gr_firstColumn gr_lastColumn pi_cells pi_facings pi_sets pi_size po_needs ro_cells ro_lengths ro_shifts si_sightLaw si_sightRange th_unseen th_goals th_commonLength tr_marks tr_visited tr_size wh_places))) (va_Qi (fun (r : Int32) (u : Unit) => Q r) (fun (u : Unit) t => PW D A (wdC cI cL cZ ad ga_sightings ga_bestShifts ga_commonLength ga_allTimes gr_width gr_height gr_size gr_kinds gr_before gr_columns gr_rows gr_floorCells gr_clearCells gr_standCells gr_firstColumn gr_lastColumn pi_cells pi_facings pi_sets pi_size po_needs ro_cells ro_lengths ro_shifts si_sightLaw si_sightRange th_unseen th_goals th_commonLength tr_marks tr_visited tr_size wh_places) t.heap) A) 0 0 A := by
  refine Met.ofW (cc := cX1_isFloor) (maxL := 2) (ret := (some .boolean)) (by decide) rfl ?_
  intro p e s m args below meth c s₁ B hml hv
  obtain ⟨hav, hP0, hD0, hK⟩ := hv
  have hx := B.exec
  have hb := B.bytes
  have hr := B.returns
  have hts := atoms_spec (ws := wsX1_isFloor) B.pre
  have hown : s.vm.findClass RX1 = some m.cls := findClass_of_methodNamed B.named
  have hlocks := B.notSynchronized
  have hB : ∀ w ∈ BIG, w ∈ wsX1_isFloor := fun _ h => List.mem_cons_of_mem _ h
  have hin : ∀ w ∈ wsX10, w ∈ wsX1_isFloor := fun w h => hB w (inB_X1 w h)
  have lk57 := hts _ (hB _ m_110)
  obtain ⟨Z, hZ⟩ : ∃ Z : State → Prop, Z = MQ below (va_Qi (fun (r : Int32) (u : Unit) => Q r) (fun (u : Unit) t => PW D A (wdC cI cL cZ ad ga_sightings ga_bestShifts ga_commonLength ga_allTimes gr_width gr_height gr_size gr_kinds gr_before gr_columns gr_rows gr_floorCells gr_clearCells gr_standCells gr_firstColumn gr_lastColumn pi_cells pi_facings pi_sets pi_size po_needs ro_cells ro_lengths ro_shifts si_sightLaw si_sightRange th_unseen th_goals th_commonLength tr_marks tr_visited tr_size wh_places) t.heap) A) args s 0 0 A := ⟨_, rfl⟩
  rw [← hZ]
  have hw : SW D A s.heap (wdC cI cL cZ ad ga_sightings ga_bestShifts ga_commonLength ga_allTimes gr_width gr_height gr_size gr_kinds gr_before gr_columns gr_rows gr_floorCells gr_clearCells gr_standCells gr_firstColumn gr_lastColumn pi_cells pi_facings pi_sets pi_size po_needs ro_cells ro_lengths ro_shifts si_sightLaw si_sightRange th_unseen th_goals th_commonLength tr_marks tr_visited tr_size wh_places) s.heap [] := ⟨hP0, hD0, va_S.rf⟩
  clear hP0 hD0 B
  unfold P_gr_isFloor at h
  have he : entryFrame m args 2 = entryFrame m ([.ref (ad 1), .int x1] : List Value).toArray 2 := by rw [hav]
  refine W.eq he ?_
  have hl := lv_entry ([.ref (ad 1), .int x1]) (n := 2) (Nat.le_of_ble_eq_true rfl)
  rw [lg_entry_eq]
  generalize (lg_sl ([.ref (ad 1), .int x1]) ++ List.replicate (2 - (lg_sl ([.ref (ad 1), .int x1])).length) Slot.unset).toArray = ls at hl ⊢
  have hl : lv_has ls 2 [(0, .ref (ad 1)), (1, .int x1)] := hl
  refine lv_aload_n hx hb dX1_isFloor_0 rfl (lv_at hl 0 rfl) ?_
  refine gC_gr_floorCells hx hb hts hin hown hK hw lk57 dX1_isFloor_1 ?_
  refine lv_iload_n hx hb dX1_isFloor_4 rfl (lv_at hl 1 rfl) ?_
  refine cSN_i (host := "WatchedHalls") (As := [.long gr_floorCells, .int x1]) (rest := []) ⟨hx, hb, hml, hown, hts⟩ hK hw (c_wh_holds gr_floorCells x1 h) ⟨va_cnB 2 hts (gw_X9_holds hB) rfl rfl rfl hK.2.1.2.2.1 (hts _ (hB _ m_59)) (by decide +kernel) ⟨Nat.le_of_ble_eq_true rfl, Nat.le_of_ble_eq_true rfl⟩, hts _ (hB _ m_394), trivial⟩ hl.1 ⟨Nat.zero_le _, Nat.zero_le _⟩ rfl rfl (Nat.le_of_ble_eq_true rfl) dX1_isFloor_5 (fun r5 _ H locs h hw => ?_)
  rw [hZ]
  exact rt_z () hx hb hr hlocks hw h.1 h.2 dX1_isFloor_8
def rm_gr_mayStand : Room := { frames := 1, cells := 0, slots := 0, locals := 22 }
set_option maxHeartbeats 4000000 in
set_option maxRecDepth 100000 in
theorem c_gr_mayStand {l : Launch} {D : va_G} {cI cL cZ : ClassId} {mx my : Nat} {A : Nat → Prop} {ad : Nat → Nat} {ga_sightings th_unseen th_goals tr_visited : Nat → Int64} {ga_bestShifts gr_kinds gr_before gr_columns gr_rows pi_cells pi_facings pi_sets po_needs ro_cells ro_lengths ro_shifts tr_marks wh_places : Nat → Int32} {ga_commonLength gr_width gr_height gr_size pi_size si_sightLaw si_sightRange th_commonLength tr_size : Int32} {ga_allTimes gr_floorCells gr_clearCells gr_standCells gr_firstColumn gr_lastColumn : Int64} (x1 : Int32) {Q : Int32 → Prop} (h : P_gr_mayStand gr_standCells x1 Q) : Met l yX1_mayStand wsX1_mayStand rm_gr_mayStand (va_Pc [.ref (ad 1), .int x1] (WC D cI cL cZ mx my A (wdC cI cL cZ ad ga_sightings ga_bestShifts ga_commonLength ga_allTimes gr_width gr_height gr_size gr_kinds gr_before gr_columns gr_rows gr_floorCells gr_clearCells gr_standCells gr_firstColumn gr_lastColumn pi_cells pi_facings pi_sets pi_size po_needs ro_cells ro_lengths ro_shifts si_sightLaw si_sightRange th_unseen th_goals th_commonLength tr_marks tr_visited tr_size wh_places))) (va_Qi (fun (r : Int32) (u : Unit) => Q r) (fun (u : Unit) t => PW D A (wdC cI cL cZ ad ga_sightings ga_bestShifts ga_commonLength ga_allTimes gr_width gr_height gr_size gr_kinds gr_before gr_columns gr_rows gr_floorCells gr_clearCells gr_standCells gr_firstColumn gr_lastColumn pi_cells pi_facings pi_sets pi_size po_needs ro_cells ro_lengths ro_shifts si_sightLaw si_sightRange th_unseen th_goals th_commonLength tr_marks tr_visited tr_size wh_places) t.heap) A) 0 0 A := by
  refine Met.ofW (cc := cX1_mayStand) (maxL := 2) (ret := (some .boolean)) (by decide) rfl ?_
  intro p e s m args below meth c s₁ B hml hv
  obtain ⟨hav, hP0, hD0, hK⟩ := hv
  have hx := B.exec
  have hb := B.bytes
  have hr := B.returns
  have hts := atoms_spec (ws := wsX1_mayStand) B.pre
  have hown : s.vm.findClass RX1 = some m.cls := findClass_of_methodNamed B.named
  have hlocks := B.notSynchronized
  have hB : ∀ w ∈ BIG, w ∈ wsX1_mayStand := fun _ h => List.mem_cons_of_mem _ h
  have hin : ∀ w ∈ wsX10, w ∈ wsX1_mayStand := fun w h => hB w (inB_X1 w h)
  have lk63 := hts _ (hB _ m_112)
  obtain ⟨Z, hZ⟩ : ∃ Z : State → Prop, Z = MQ below (va_Qi (fun (r : Int32) (u : Unit) => Q r) (fun (u : Unit) t => PW D A (wdC cI cL cZ ad ga_sightings ga_bestShifts ga_commonLength ga_allTimes gr_width gr_height gr_size gr_kinds gr_before gr_columns gr_rows gr_floorCells gr_clearCells gr_standCells gr_firstColumn gr_lastColumn pi_cells pi_facings pi_sets pi_size po_needs ro_cells ro_lengths ro_shifts si_sightLaw si_sightRange th_unseen th_goals th_commonLength tr_marks tr_visited tr_size wh_places) t.heap) A) args s 0 0 A := ⟨_, rfl⟩
  rw [← hZ]
  have hw : SW D A s.heap (wdC cI cL cZ ad ga_sightings ga_bestShifts ga_commonLength ga_allTimes gr_width gr_height gr_size gr_kinds gr_before gr_columns gr_rows gr_floorCells gr_clearCells gr_standCells gr_firstColumn gr_lastColumn pi_cells pi_facings pi_sets pi_size po_needs ro_cells ro_lengths ro_shifts si_sightLaw si_sightRange th_unseen th_goals th_commonLength tr_marks tr_visited tr_size wh_places) s.heap [] := ⟨hP0, hD0, va_S.rf⟩
  clear hP0 hD0 B
  unfold P_gr_mayStand at h
  have he : entryFrame m args 2 = entryFrame m ([.ref (ad 1), .int x1] : List Value).toArray 2 := by rw [hav]
  refine W.eq he ?_
  have hl := lv_entry ([.ref (ad 1), .int x1]) (n := 2) (Nat.le_of_ble_eq_true rfl)
  rw [lg_entry_eq]
  generalize (lg_sl ([.ref (ad 1), .int x1]) ++ List.replicate (2 - (lg_sl ([.ref (ad 1), .int x1])).length) Slot.unset).toArray = ls at hl ⊢
  have hl : lv_has ls 2 [(0, .ref (ad 1)), (1, .int x1)] := hl
  refine lv_aload_n hx hb dX1_mayStand_0 rfl (lv_at hl 0 rfl) ?_
  refine gC_gr_standCells hx hb hts hin hown hK hw lk63 dX1_mayStand_1 ?_
  refine lv_iload_n hx hb dX1_mayStand_4 rfl (lv_at hl 1 rfl) ?_
  refine cSN_i (host := "WatchedHalls") (As := [.long gr_standCells, .int x1]) (rest := []) ⟨hx, hb, hml, hown, hts⟩ hK hw (c_wh_holds gr_standCells x1 h) ⟨va_cnB 2 hts (gw_X9_holds hB) rfl rfl rfl hK.2.1.2.2.1 (hts _ (hB _ m_59)) (by decide +kernel) ⟨Nat.le_of_ble_eq_true rfl, Nat.le_of_ble_eq_true rfl⟩, hts _ (hB _ m_394), trivial⟩ hl.1 ⟨Nat.zero_le _, Nat.zero_le _⟩ rfl rfl (Nat.le_of_ble_eq_true rfl) dX1_mayStand_5 (fun r5 _ H locs h hw => ?_)
  rw [hZ]
  exact rt_z () hx hb hr hlocks hw h.1 h.2 dX1_mayStand_8
def rm_gr_isClear : Room := { frames := 0, cells := 0, slots := 0, locals := 0 }
set_option maxHeartbeats 4000000 in
set_option maxRecDepth 100000 in
theorem c_gr_isClear {l : Launch} {D : va_G} {cI cL cZ : ClassId} {mx my : Nat} {A : Nat → Prop} {ad : Nat → Nat} {ga_sightings th_unseen th_goals tr_visited : Nat → Int64} {ga_bestShifts gr_kinds gr_before gr_columns gr_rows pi_cells pi_facings pi_sets po_needs ro_cells ro_lengths ro_shifts tr_marks wh_places : Nat → Int32} {ga_commonLength gr_width gr_height gr_size pi_size si_sightLaw si_sightRange th_commonLength tr_size : Int32} {ga_allTimes gr_floorCells gr_clearCells gr_standCells gr_firstColumn gr_lastColumn : Int64} (x1 : Int32) (x2 : Int32) {Q : Int32 → Prop} (h : P_gr_isClear gr_width gr_clearCells x1 x2 Q) : Met l yX1_isClear wsX1_isClear rm_gr_isClear (va_Pc [.ref (ad 1), .int x1, .int x2] (WC D cI cL cZ mx my A (wdC cI cL cZ ad ga_sightings ga_bestShifts ga_commonLength ga_allTimes gr_width gr_height gr_size gr_kinds gr_before gr_columns gr_rows gr_floorCells gr_clearCells gr_standCells gr_firstColumn gr_lastColumn pi_cells pi_facings pi_sets pi_size po_needs ro_cells ro_lengths ro_shifts si_sightLaw si_sightRange th_unseen th_goals th_commonLength tr_marks tr_visited tr_size wh_places))) (va_Qi (fun (r : Int32) (u : Unit) => Q r) (fun (u : Unit) t => PW D A (wdC cI cL cZ ad ga_sightings ga_bestShifts ga_commonLength ga_allTimes gr_width gr_height gr_size gr_kinds gr_before gr_columns gr_rows gr_floorCells gr_clearCells gr_standCells gr_firstColumn gr_lastColumn pi_cells pi_facings pi_sets pi_size po_needs ro_cells ro_lengths ro_shifts si_sightLaw si_sightRange th_unseen th_goals th_commonLength tr_marks tr_visited tr_size wh_places) t.heap) A) 0 0 A := by
  refine Met.ofW (cc := cX1_isClear) (maxL := 3) (ret := (some .boolean)) (by decide) rfl ?_
  intro p e s m args below meth c s₁ B hml hv
  obtain ⟨hav, hP0, hD0, hK⟩ := hv
  have hx := B.exec
  have hb := B.bytes
  have hr := B.returns
  have hts := atoms_spec (ws := wsX1_isClear) B.pre
  have hown : s.vm.findClass RX1 = some m.cls := findClass_of_methodNamed B.named
  have hlocks := B.notSynchronized
  have hB : ∀ w ∈ BIG, w ∈ wsX1_isClear := fun _ h => List.mem_cons_of_mem _ h
  have hin : ∀ w ∈ wsX10, w ∈ wsX1_isClear := fun w h => hB w (inB_X1 w h)
  have lk40 := hts _ (hB _ m_103)
  have lk60 := hts _ (hB _ m_111)
  obtain ⟨Z, hZ⟩ : ∃ Z : State → Prop, Z = MQ below (va_Qi (fun (r : Int32) (u : Unit) => Q r) (fun (u : Unit) t => PW D A (wdC cI cL cZ ad ga_sightings ga_bestShifts ga_commonLength ga_allTimes gr_width gr_height gr_size gr_kinds gr_before gr_columns gr_rows gr_floorCells gr_clearCells gr_standCells gr_firstColumn gr_lastColumn pi_cells pi_facings pi_sets pi_size po_needs ro_cells ro_lengths ro_shifts si_sightLaw si_sightRange th_unseen th_goals th_commonLength tr_marks tr_visited tr_size wh_places) t.heap) A) args s 0 0 A := ⟨_, rfl⟩
  rw [← hZ]
  have hw : SW D A s.heap (wdC cI cL cZ ad ga_sightings ga_bestShifts ga_commonLength ga_allTimes gr_width gr_height gr_size gr_kinds gr_before gr_columns gr_rows gr_floorCells gr_clearCells gr_standCells gr_firstColumn gr_lastColumn pi_cells pi_facings pi_sets pi_size po_needs ro_cells ro_lengths ro_shifts si_sightLaw si_sightRange th_unseen th_goals th_commonLength tr_marks tr_visited tr_size wh_places) s.heap [] := ⟨hP0, hD0, va_S.rf⟩
  clear hP0 hD0 B
  unfold P_gr_isClear at h
  have he : entryFrame m args 3 = entryFrame m ([.ref (ad 1), .int x1, .int x2] : List Value).toArray 3 := by rw [hav]
  refine W.eq he ?_
  have hl := lv_entry ([.ref (ad 1), .int x1, .int x2]) (n := 3) (Nat.le_of_ble_eq_true rfl)
  rw [lg_entry_eq]
  generalize (lg_sl ([.ref (ad 1), .int x1, .int x2]) ++ List.replicate (3 - (lg_sl ([.ref (ad 1), .int x1, .int x2])).length) Slot.unset).toArray = ls at hl ⊢
  have hl : lv_has ls 3 [(0, .ref (ad 1)), (1, .int x1), (2, .int x2)] := hl
  refine lv_aload_n hx hb dX1_isClear_0 rfl (lv_at hl 0 rfl) ?_
  refine gC_gr_clearCells hx hb hts hin hown hK hw lk60 dX1_isClear_1 ?_
  refine lv_iload_n hx hb dX1_isClear_4 rfl (lv_at hl 2 rfl) ?_
  refine lv_aload_n hx hb dX1_isClear_5 rfl (lv_at hl 0 rfl) ?_
  refine gC_gr_width hx hb hts hin hown hK hw lk40 dX1_isClear_6 ?_
  refine lv_imul hx hb dX1_isClear_9 ?_
  refine lv_iload_n hx hb dX1_isClear_10 rfl (lv_at hl 1 rfl) ?_
  refine lv_iadd hx hb dX1_isClear_11 ?_
  refine lv_lushr hx hb dX1_isClear_12 rfl ?_
  refine lv_lconst (v := 1) hx hb dX1_isClear_13 (by decide) ?_
  refine lv_land hx hb dX1_isClear_14 ?_
  refine lv_lconst (v := 0) hx hb dX1_isClear_15 (by decide) ?_
  refine W.lcmp hx hb dX1_isClear_16 ?_
  refine lv_if_eq (tgt := 24) hx hb dX1_isClear_17 (by decide) (fun hc => ?_) (fun hc => ?_)
  · replace h := h.1 hc
    refine lv_iconst (v := 0) hx hb dX1_isClear_24 (by decide) ?_
    rw [hZ]
    exact rt_z () hx hb hr hlocks hw (by decide) h dX1_isClear_25
  · replace h := h.2 hc
    refine lv_iconst (v := 1) hx hb dX1_isClear_20 (by decide) ?_
    refine lv_goto (tgt := 25) hx hb dX1_isClear_21 (by decide) ?_
    rw [hZ]
    exact rt_z () hx hb hr hlocks hw (by decide) h dX1_isClear_25
def rm_si_isBoxClear : Room := { frames := 1, cells := 0, slots := 0, locals := 22 }
set_option maxHeartbeats 4000000 in
set_option maxRecDepth 100000 in
theorem c_si_isBoxClear {l : Launch} {D : va_G} {cI cL cZ : ClassId} {mx my : Nat} {A : Nat → Prop} {ad : Nat → Nat} {ga_sightings th_unseen th_goals tr_visited : Nat → Int64} {ga_bestShifts gr_kinds gr_before gr_columns gr_rows pi_cells pi_facings pi_sets po_needs ro_cells ro_lengths ro_shifts tr_marks wh_places : Nat → Int32} {ga_commonLength gr_width gr_height gr_size pi_size si_sightLaw si_sightRange th_commonLength tr_size : Int32} {ga_allTimes gr_floorCells gr_clearCells gr_standCells gr_firstColumn gr_lastColumn : Int64} (x1 : Int32) (x2 : Int32) {Q : Int32 → Prop} (h : P_si_isBoxClear gr_width gr_columns gr_rows gr_clearCells x1 x2 Q) : Met l yX5_isBoxClear wsX5_isBoxClear rm_si_isBoxClear (va_Pc [.ref (ad 5), .int x1, .int x2] (WC D cI cL cZ mx my A (wdC cI cL cZ ad ga_sightings ga_bestShifts ga_commonLength ga_allTimes gr_width gr_height gr_size gr_kinds gr_before gr_columns gr_rows gr_floorCells gr_clearCells gr_standCells gr_firstColumn gr_lastColumn pi_cells pi_facings pi_sets pi_size po_needs ro_cells ro_lengths ro_shifts si_sightLaw si_sightRange th_unseen th_goals th_commonLength tr_marks tr_visited tr_size wh_places))) (va_Qi (fun (r : Int32) (u : Unit) => Q r) (fun (u : Unit) t => PW D A (wdC cI cL cZ ad ga_sightings ga_bestShifts ga_commonLength ga_allTimes gr_width gr_height gr_size gr_kinds gr_before gr_columns gr_rows gr_floorCells gr_clearCells gr_standCells gr_firstColumn gr_lastColumn pi_cells pi_facings pi_sets pi_size po_needs ro_cells ro_lengths ro_shifts si_sightLaw si_sightRange th_unseen th_goals th_commonLength tr_marks tr_visited tr_size wh_places) t.heap) A) 0 0 A := by
  refine Met.ofW (cc := cX5_isBoxClear) (maxL := 7) (ret := (some .boolean)) (by decide) rfl ?_
  intro p e s m args below meth c s₁ B hml hv
  obtain ⟨hav, hP0, hD0, hK⟩ := hv
  have hx := B.exec
  have hb := B.bytes
  have hr := B.returns
  have hts := atoms_spec (ws := wsX5_isBoxClear) B.pre
  have hown : s.vm.findClass RX5 = some m.cls := findClass_of_methodNamed B.named
  have hlocks := B.notSynchronized
  have hB : ∀ w ∈ BIG, w ∈ wsX5_isBoxClear := fun _ h => List.mem_cons_of_mem _ h
  have hin : ∀ w ∈ wsX50, w ∈ wsX5_isBoxClear := fun w h => hB w (inB_X5 w h)
  have lk18 := hts _ (hB _ m_147)
  obtain ⟨Z, hZ⟩ : ∃ Z : State → Prop, Z = MQ below (va_Qi (fun (r : Int32) (u : Unit) => Q r) (fun (u : Unit) t => PW D A (wdC cI cL cZ ad ga_sightings ga_bestShifts ga_commonLength ga_allTimes gr_width gr_height gr_size gr_kinds gr_before gr_columns gr_rows gr_floorCells gr_clearCells gr_standCells gr_firstColumn gr_lastColumn pi_cells pi_facings pi_sets pi_size po_needs ro_cells ro_lengths ro_shifts si_sightLaw si_sightRange th_unseen th_goals th_commonLength tr_marks tr_visited tr_size wh_places) t.heap) A) args s 0 0 A := ⟨_, rfl⟩
  rw [← hZ]
  have hw : SW D A s.heap (wdC cI cL cZ ad ga_sightings ga_bestShifts ga_commonLength ga_allTimes gr_width gr_height gr_size gr_kinds gr_before gr_columns gr_rows gr_floorCells gr_clearCells gr_standCells gr_firstColumn gr_lastColumn pi_cells pi_facings pi_sets pi_size po_needs ro_cells ro_lengths ro_shifts si_sightLaw si_sightRange th_unseen th_goals th_commonLength tr_marks tr_visited tr_size wh_places) s.heap [] := ⟨hP0, hD0, va_S.rf⟩
  clear hP0 hD0 B
  have J90 : ∀ (k62 : Int32 → Int32 → Int32 → Int32 → Int32 → Prop) (hk62 : ∀ (x1 : Int32) (x2 : Int32) (x3 : Int32) (x4 : Int32) (x5 : Int32) , k62 x1 x2 x3 x4 x5 → ∀ (H : Heap) (locs : List Loc) (ls : Array Slot), SW D A s.heap (wdC cI cL cZ ad ga_sightings ga_bestShifts ga_commonLength ga_allTimes gr_width gr_height gr_size gr_kinds gr_before gr_columns gr_rows gr_floorCells gr_clearCells gr_standCells gr_firstColumn gr_lastColumn pi_cells pi_facings pi_sets pi_size po_needs ro_cells ro_lengths ro_shifts si_sightLaw si_sightRange th_unseen th_goals th_commonLength tr_marks tr_visited tr_size wh_places) H locs → lv_has ls 7 [(0, .ref (ad 5)), (1, .int x1), (2, .int x2), (3, .int x3), (4, .int x4), (5, .int x5)] → W p l e (headSpec wsX5_isBoxClear rm_si_isBoxClear).room s m args below meth c H locs 0 0 Z (F0 m 62 ls [])) (n : Nat) (x1 : Int32) (x2 : Int32) (x3 : Int32) (x4 : Int32) (x5 : Int32) (x6 : Int32) , L_si_isBoxClear_90 gr_width gr_columns gr_clearCells Q k62 n x1 x2 x3 x4 x5 x6 → ∀ (H : Heap) (locs : List Loc) (ls : Array Slot), SW D A s.heap (wdC cI cL cZ ad ga_sightings ga_bestShifts ga_commonLength ga_allTimes gr_width gr_height gr_size gr_kinds gr_before gr_columns gr_rows gr_floorCells gr_clearCells gr_standCells gr_firstColumn gr_lastColumn pi_cells pi_facings pi_sets pi_size po_needs ro_cells ro_lengths ro_shifts si_sightLaw si_sightRange th_unseen th_goals th_commonLength tr_marks tr_visited tr_size wh_places) H locs → lv_has ls 7 [(0, .ref (ad 5)), (1, .int x1), (2, .int x2), (3, .int x3), (4, .int x4), (5, .int x5), (6, .int x6)] → W p l e (headSpec wsX5_isBoxClear rm_si_isBoxClear).room s m args below meth c H locs 0 0 Z (F0 m 90 ls []) := by
    intro k62 hk62 n
    induction n with
    | zero => intro x1 x2 x3 x4 x5 x6 h; exact h.elim
    | succ n ih =>
    intro x1 x2 x3 x4 x5 x6 h H locs ls hw hl
    unfold L_si_isBoxClear_90 at h
    refine lv_iload hx hb dX5_isBoxClear_90 (lv_at hl 6 rfl) ?_
    refine lv_iload_n hx hb dX5_isBoxClear_92 rfl (lv_at hl 3 rfl) ?_
    refine lv_icmp_gt (tgt := 118) hx hb dX5_isBoxClear_93 (by decide) (fun hc => ?_) (fun hc => ?_)
    · replace h := h.1 hc
      refine lv_iinc (v := (x5 + (1 : Int32))) (lv' := [(5, .int (x5 + (1 : Int32))), (0, .ref (ad 5)), (1, .int x1), (2, .int x2), (3, .int x3), (4, .int x4), (6, .int x6)]) hx hb dX5_isBoxClear_118 hl (k := 5) rfl rfl (by decide) rfl (fun ls hl => ?_)
      refine lv_goto (tgt := 62) hx hb dX5_isBoxClear_121 (by decide) ?_
      exact hk62 _ _ _ _ _ h _ _ _ hw (lv_sub hl [1, 2, 3, 4, 5, 0] rfl)
    · replace h := h.2 hc
      refine lv_aload_n hx hb dX5_isBoxClear_96 rfl (lv_at hl 0 rfl) ?_
      refine gC_si_grid hx hb hts hin hown hK hw lk18 dX5_isBoxClear_97 ?_
      refine lv_iload hx hb dX5_isBoxClear_100 (lv_at hl 6 rfl) ?_
      refine lv_iload hx hb dX5_isBoxClear_102 (lv_at hl 5 rfl) ?_
      refine cV_i (b := (ad 1)) (As := [.int x6, .int x5]) (rest := []) ⟨hx, hb, hml, hown, hts⟩ hK hw (c_gr_isClear x6 x5 h) (cwV 2 hts (gd_RX5_64 hB) rfl rfl rfl (by decide +kernel) ⟨Nat.le_of_ble_eq_true rfl, Nat.le_of_ble_eq_true rfl⟩) (rC_gr hK hw) hl.1 ⟨Nat.zero_le _, Nat.zero_le _⟩ rfl rfl (Nat.le_of_ble_eq_true rfl) dX5_isBoxClear_104 (fun r104 _ H locs h hw => ?_)
      refine lv_if_ne (tgt := 112) hx hb dX5_isBoxClear_107 (by decide) (fun hc => ?_) (fun hc => ?_)
      · replace h := h.2 hc
        refine lv_iinc (v := (x6 + (1 : Int32))) (lv' := [(6, .int (x6 + (1 : Int32))), (0, .ref (ad 5)), (1, .int x1), (2, .int x2), (3, .int x3), (4, .int x4), (5, .int x5)]) hx hb dX5_isBoxClear_112 hl (k := 6) rfl rfl (by decide) rfl (fun ls hl => ?_)
        refine lv_goto (tgt := 90) hx hb dX5_isBoxClear_115 (by decide) ?_
        exact ih _ _ _ _ _ _ h _ _ _ hw (lv_sub hl [1, 2, 3, 4, 5, 6, 0] rfl)
      · replace h := h.1 hc
        refine lv_iconst (v := 0) hx hb dX5_isBoxClear_110 (by decide) ?_
        rw [hZ]
        exact rt_z () hx hb hr hlocks hw (by decide) h dX5_isBoxClear_111
  have J62 : ∀ (n : Nat) (x1 : Int32) (x2 : Int32) (x3 : Int32) (x4 : Int32) (x5 : Int32) , L_si_isBoxClear_62 gr_width gr_columns gr_clearCells Q n x1 x2 x3 x4 x5 → ∀ (H : Heap) (locs : List Loc) (ls : Array Slot), SW D A s.heap (wdC cI cL cZ ad ga_sightings ga_bestShifts ga_commonLength ga_allTimes gr_width gr_height gr_size gr_kinds gr_before gr_columns gr_rows gr_floorCells gr_clearCells gr_standCells gr_firstColumn gr_lastColumn pi_cells pi_facings pi_sets pi_size po_needs ro_cells ro_lengths ro_shifts si_sightLaw si_sightRange th_unseen th_goals th_commonLength tr_marks tr_visited tr_size wh_places) H locs → lv_has ls 7 [(0, .ref (ad 5)), (1, .int x1), (2, .int x2), (3, .int x3), (4, .int x4), (5, .int x5)] → W p l e (headSpec wsX5_isBoxClear rm_si_isBoxClear).room s m args below meth c H locs 0 0 Z (F0 m 62 ls []) := by
    intro  n
    induction n with
    | zero => intro x1 x2 x3 x4 x5 h; exact h.elim
    | succ n ih =>
    intro x1 x2 x3 x4 x5 h H locs ls hw hl
    unfold L_si_isBoxClear_62 at h
    refine lv_iload hx hb dX5_isBoxClear_62 (lv_at hl 5 rfl) ?_
    refine lv_iload hx hb dX5_isBoxClear_64 (lv_at hl 4 rfl) ?_
    refine lv_icmp_gt (tgt := 124) hx hb dX5_isBoxClear_66 (by decide) (fun hc => ?_) (fun hc => ?_)
    · replace h := h.1 hc
      refine lv_iconst (v := 1) hx hb dX5_isBoxClear_124 (by decide) ?_
      rw [hZ]
      exact rt_z () hx hb hr hlocks hw (by decide) h dX5_isBoxClear_125
    · replace h := h.2 hc
      refine lv_aload_n hx hb dX5_isBoxClear_69 rfl (lv_at hl 0 rfl) ?_
      refine gC_si_grid hx hb hts hin hown hK hw lk18 dX5_isBoxClear_70 ?_
      refine lv_iload_n hx hb dX5_isBoxClear_73 rfl (lv_at hl 1 rfl) ?_
      refine cV_i (b := (ad 1)) (As := [.int x1]) (rest := []) ⟨hx, hb, hml, hown, hts⟩ hK hw (c_gr_columnOf x1 h) (cwV 1 hts (gd_RX5_31 hB) rfl rfl rfl (by decide +kernel) ⟨Nat.le_of_ble_eq_true rfl, Nat.le_of_ble_eq_true rfl⟩) (rC_gr hK hw) hl.1 ⟨Nat.zero_le _, Nat.zero_le _⟩ rfl rfl (Nat.le_of_ble_eq_true rfl) dX5_isBoxClear_74 (fun r74 _ H locs h hw => ?_)
      refine lv_aload_n hx hb dX5_isBoxClear_77 rfl (lv_at hl 0 rfl) ?_
      refine gC_si_grid hx hb hts hin hown hK hw lk18 dX5_isBoxClear_78 ?_
      refine lv_iload_n hx hb dX5_isBoxClear_81 rfl (lv_at hl 2 rfl) ?_
      refine cV_i (b := (ad 1)) (As := [.int x2]) (rest := [.int r74]) ⟨hx, hb, hml, hown, hts⟩ hK hw (c_gr_columnOf x2 h) (cwV 1 hts (gd_RX5_31 hB) rfl rfl rfl (by decide +kernel) ⟨Nat.le_of_ble_eq_true rfl, Nat.le_of_ble_eq_true rfl⟩) (rC_gr hK hw) hl.1 ⟨Nat.zero_le _, Nat.zero_le _⟩ rfl rfl (Nat.le_of_ble_eq_true rfl) dX5_isBoxClear_82 (fun r82 _ H locs h hw => ?_)
      refine va_mmin hx hb (by rw [hml]; exact hl.1.symm) hown (hts _ (hB _ m_443)) (hts _ (hB _ m_444)) (hts _ (hB _ m_71)) (hts _ (hB _ m_445)) (Nat.le_of_ble_eq_true rfl) (Nat.le_of_ble_eq_true rfl) (Nat.zero_le _) (Nat.zero_le _) dX5_isBoxClear_85 ?_
      refine lv_topi (fun x6_88 ex6_88 => ?_)
      replace h := h x6_88 ex6_88
      refine lv_istore (lv' := [(6, .int x6_88), (0, .ref (ad 5)), (1, .int x1), (2, .int x2), (3, .int x3), (4, .int x4), (5, .int x5)]) hx hb dX5_isBoxClear_88 hl (by decide) rfl (fun ls hl => ?_)
      obtain ⟨n90, h⟩ := h
      exact J90 (L_si_isBoxClear_62 gr_width gr_columns gr_clearCells Q n) ih n90 _ _ _ _ _ _ h _ _ _ hw (lv_sub hl [1, 2, 3, 4, 5, 6, 0] rfl)
  unfold P_si_isBoxClear at h
  have he : entryFrame m args 7 = entryFrame m ([.ref (ad 5), .int x1, .int x2] : List Value).toArray 7 := by rw [hav]
  refine W.eq he ?_
  have hl := lv_entry ([.ref (ad 5), .int x1, .int x2]) (n := 7) (Nat.le_of_ble_eq_true rfl)
  rw [lg_entry_eq]
  generalize (lg_sl ([.ref (ad 5), .int x1, .int x2]) ++ List.replicate (7 - (lg_sl ([.ref (ad 5), .int x1, .int x2])).length) Slot.unset).toArray = ls at hl ⊢
  have hl : lv_has ls 7 [(0, .ref (ad 5)), (1, .int x1), (2, .int x2)] := hl
  refine lv_aload_n hx hb dX5_isBoxClear_0 rfl (lv_at hl 0 rfl) ?_
  refine gC_si_grid hx hb hts hin hown hK hw lk18 dX5_isBoxClear_1 ?_
  refine lv_iload_n hx hb dX5_isBoxClear_4 rfl (lv_at hl 1 rfl) ?_
  refine cV_i (b := (ad 1)) (As := [.int x1]) (rest := []) ⟨hx, hb, hml, hown, hts⟩ hK hw (c_gr_columnOf x1 h) (cwV 1 hts (gd_RX5_31 hB) rfl rfl rfl (by decide +kernel) ⟨Nat.le_of_ble_eq_true rfl, Nat.le_of_ble_eq_true rfl⟩) (rC_gr hK hw) hl.1 ⟨Nat.zero_le _, Nat.zero_le _⟩ rfl rfl (Nat.le_of_ble_eq_true rfl) dX5_isBoxClear_5 (fun r5 _ H locs h hw => ?_)
  refine lv_aload_n hx hb dX5_isBoxClear_8 rfl (lv_at hl 0 rfl) ?_
  refine gC_si_grid hx hb hts hin hown hK hw lk18 dX5_isBoxClear_9 ?_
  refine lv_iload_n hx hb dX5_isBoxClear_12 rfl (lv_at hl 2 rfl) ?_
  refine cV_i (b := (ad 1)) (As := [.int x2]) (rest := [.int r5]) ⟨hx, hb, hml, hown, hts⟩ hK hw (c_gr_columnOf x2 h) (cwV 1 hts (gd_RX5_31 hB) rfl rfl rfl (by decide +kernel) ⟨Nat.le_of_ble_eq_true rfl, Nat.le_of_ble_eq_true rfl⟩) (rC_gr hK hw) hl.1 ⟨Nat.zero_le _, Nat.zero_le _⟩ rfl rfl (Nat.le_of_ble_eq_true rfl) dX5_isBoxClear_13 (fun r13 _ H locs h hw => ?_)
  refine va_mmax hx hb (by rw [hml]; exact hl.1.symm) hown (hts _ (hB _ m_440)) (hts _ (hB _ m_441)) (hts _ (hB _ m_71)) (hts _ (hB _ m_442)) (Nat.le_of_ble_eq_true rfl) (Nat.le_of_ble_eq_true rfl) (Nat.zero_le _) (Nat.zero_le _) dX5_isBoxClear_16 ?_
  refine lv_topi (fun x3_19 ex3_19 => ?_)
  replace h := h x3_19 ex3_19
  refine lv_istore_n (lv' := [(3, .int x3_19), (0, .ref (ad 5)), (1, .int x1), (2, .int x2)]) hx hb dX5_isBoxClear_19 rfl hl (by decide) rfl (fun ls hl => ?_)
  refine lv_aload_n hx hb dX5_isBoxClear_20 rfl (lv_at hl 1 rfl) ?_
  refine gC_si_grid hx hb hts hin hown hK hw lk18 dX5_isBoxClear_21 ?_
  refine lv_iload_n hx hb dX5_isBoxClear_24 rfl (lv_at hl 2 rfl) ?_
  refine cV_i (b := (ad 1)) (As := [.int x1]) (rest := []) ⟨hx, hb, hml, hown, hts⟩ hK hw (c_gr_rowOf x1 h) (cwV 1 hts (gd_RX5_40 hB) rfl rfl rfl (by decide +kernel) ⟨Nat.le_of_ble_eq_true rfl, Nat.le_of_ble_eq_true rfl⟩) (rC_gr hK hw) hl.1 ⟨Nat.zero_le _, Nat.zero_le _⟩ rfl rfl (Nat.le_of_ble_eq_true rfl) dX5_isBoxClear_25 (fun r25 _ H locs h hw => ?_)
  refine lv_aload_n hx hb dX5_isBoxClear_28 rfl (lv_at hl 1 rfl) ?_
  refine gC_si_grid hx hb hts hin hown hK hw lk18 dX5_isBoxClear_29 ?_
  refine lv_iload_n hx hb dX5_isBoxClear_32 rfl (lv_at hl 3 rfl) ?_
  refine cV_i (b := (ad 1)) (As := [.int x2]) (rest := [.int r25]) ⟨hx, hb, hml, hown, hts⟩ hK hw (c_gr_rowOf x2 h) (cwV 1 hts (gd_RX5_40 hB) rfl rfl rfl (by decide +kernel) ⟨Nat.le_of_ble_eq_true rfl, Nat.le_of_ble_eq_true rfl⟩) (rC_gr hK hw) hl.1 ⟨Nat.zero_le _, Nat.zero_le _⟩ rfl rfl (Nat.le_of_ble_eq_true rfl) dX5_isBoxClear_33 (fun r33 _ H locs h hw => ?_)
  refine va_mmax hx hb (by rw [hml]; exact hl.1.symm) hown (hts _ (hB _ m_440)) (hts _ (hB _ m_441)) (hts _ (hB _ m_71)) (hts _ (hB _ m_442)) (Nat.le_of_ble_eq_true rfl) (Nat.le_of_ble_eq_true rfl) (Nat.zero_le _) (Nat.zero_le _) dX5_isBoxClear_36 ?_
  refine lv_topi (fun x4_39 ex4_39 => ?_)
  replace h := h x4_39 ex4_39
  refine lv_istore (lv' := [(4, .int x4_39), (3, .int x3_19), (0, .ref (ad 5)), (1, .int x1), (2, .int x2)]) hx hb dX5_isBoxClear_39 hl (by decide) rfl (fun ls hl => ?_)
  refine lv_aload_n hx hb dX5_isBoxClear_41 rfl (lv_at hl 2 rfl) ?_
  refine gC_si_grid hx hb hts hin hown hK hw lk18 dX5_isBoxClear_42 ?_
  refine lv_iload_n hx hb dX5_isBoxClear_45 rfl (lv_at hl 3 rfl) ?_
  refine cV_i (b := (ad 1)) (As := [.int x1]) (rest := []) ⟨hx, hb, hml, hown, hts⟩ hK hw (c_gr_rowOf x1 h) (cwV 1 hts (gd_RX5_40 hB) rfl rfl rfl (by decide +kernel) ⟨Nat.le_of_ble_eq_true rfl, Nat.le_of_ble_eq_true rfl⟩) (rC_gr hK hw) hl.1 ⟨Nat.zero_le _, Nat.zero_le _⟩ rfl rfl (Nat.le_of_ble_eq_true rfl) dX5_isBoxClear_46 (fun r46 _ H locs h hw => ?_)
  refine lv_aload_n hx hb dX5_isBoxClear_49 rfl (lv_at hl 2 rfl) ?_
  refine gC_si_grid hx hb hts hin hown hK hw lk18 dX5_isBoxClear_50 ?_
  refine lv_iload_n hx hb dX5_isBoxClear_53 rfl (lv_at hl 4 rfl) ?_
  refine cV_i (b := (ad 1)) (As := [.int x2]) (rest := [.int r46]) ⟨hx, hb, hml, hown, hts⟩ hK hw (c_gr_rowOf x2 h) (cwV 1 hts (gd_RX5_40 hB) rfl rfl rfl (by decide +kernel) ⟨Nat.le_of_ble_eq_true rfl, Nat.le_of_ble_eq_true rfl⟩) (rC_gr hK hw) hl.1 ⟨Nat.zero_le _, Nat.zero_le _⟩ rfl rfl (Nat.le_of_ble_eq_true rfl) dX5_isBoxClear_54 (fun r54 _ H locs h hw => ?_)
  refine va_mmin hx hb (by rw [hml]; exact hl.1.symm) hown (hts _ (hB _ m_443)) (hts _ (hB _ m_444)) (hts _ (hB _ m_71)) (hts _ (hB _ m_445)) (Nat.le_of_ble_eq_true rfl) (Nat.le_of_ble_eq_true rfl) (Nat.zero_le _) (Nat.zero_le _) dX5_isBoxClear_57 ?_
  refine lv_topi (fun x5_60 ex5_60 => ?_)
  replace h := h x5_60 ex5_60
  refine lv_istore (lv' := [(5, .int x5_60), (4, .int x4_39), (3, .int x3_19), (0, .ref (ad 5)), (1, .int x1), (2, .int x2)]) hx hb dX5_isBoxClear_60 hl (by decide) rfl (fun ls hl => ?_)
  obtain ⟨n62, h⟩ := h
  exact J62  n62 _ _ _ _ _ h _ _ _ hw (lv_sub hl [3, 4, 5, 2, 1, 0] rfl)
def rm_si_isWayClear : Room := { frames := 1, cells := 0, slots := 0, locals := 22 }
set_option maxHeartbeats 4000000 in
set_option maxRecDepth 100000 in
theorem c_si_isWayClear {l : Launch} {D : va_G} {cI cL cZ : ClassId} {mx my : Nat} {A : Nat → Prop} {ad : Nat → Nat} {ga_sightings th_unseen th_goals tr_visited : Nat → Int64} {ga_bestShifts gr_kinds gr_before gr_columns gr_rows pi_cells pi_facings pi_sets po_needs ro_cells ro_lengths ro_shifts tr_marks wh_places : Nat → Int32} {ga_commonLength gr_width gr_height gr_size pi_size si_sightLaw si_sightRange th_commonLength tr_size : Int32} {ga_allTimes gr_floorCells gr_clearCells gr_standCells gr_firstColumn gr_lastColumn : Int64} (x1 : Int32) (x2 : Int32) {Q : Int32 → Prop} (h : P_si_isWayClear gr_width gr_columns gr_rows gr_clearCells x1 x2 Q) : Met l yX5_isWayClear wsX5_isWayClear rm_si_isWayClear (va_Pc [.ref (ad 5), .int x1, .int x2] (WC D cI cL cZ mx my A (wdC cI cL cZ ad ga_sightings ga_bestShifts ga_commonLength ga_allTimes gr_width gr_height gr_size gr_kinds gr_before gr_columns gr_rows gr_floorCells gr_clearCells gr_standCells gr_firstColumn gr_lastColumn pi_cells pi_facings pi_sets pi_size po_needs ro_cells ro_lengths ro_shifts si_sightLaw si_sightRange th_unseen th_goals th_commonLength tr_marks tr_visited tr_size wh_places))) (va_Qi (fun (r : Int32) (u : Unit) => Q r) (fun (u : Unit) t => PW D A (wdC cI cL cZ ad ga_sightings ga_bestShifts ga_commonLength ga_allTimes gr_width gr_height gr_size gr_kinds gr_before gr_columns gr_rows gr_floorCells gr_clearCells gr_standCells gr_firstColumn gr_lastColumn pi_cells pi_facings pi_sets pi_size po_needs ro_cells ro_lengths ro_shifts si_sightLaw si_sightRange th_unseen th_goals th_commonLength tr_marks tr_visited tr_size wh_places) t.heap) A) 0 0 A := by
  refine Met.ofW (cc := cX5_isWayClear) (maxL := 12) (ret := (some .boolean)) (by decide) rfl ?_
  intro p e s m args below meth c s₁ B hml hv
  obtain ⟨hav, hP0, hD0, hK⟩ := hv
  have hx := B.exec
  have hb := B.bytes
  have hr := B.returns
  have hts := atoms_spec (ws := wsX5_isWayClear) B.pre
  have hown : s.vm.findClass RX5 = some m.cls := findClass_of_methodNamed B.named
  have hlocks := B.notSynchronized
  have hB : ∀ w ∈ BIG, w ∈ wsX5_isWayClear := fun _ h => List.mem_cons_of_mem _ h
  have hin : ∀ w ∈ wsX50, w ∈ wsX5_isWayClear := fun w h => hB w (inB_X5 w h)
  have lk18 := hts _ (hB _ m_147)
  obtain ⟨Z, hZ⟩ : ∃ Z : State → Prop, Z = MQ below (va_Qi (fun (r : Int32) (u : Unit) => Q r) (fun (u : Unit) t => PW D A (wdC cI cL cZ ad ga_sightings ga_bestShifts ga_commonLength ga_allTimes gr_width gr_height gr_size gr_kinds gr_before gr_columns gr_rows gr_floorCells gr_clearCells gr_standCells gr_firstColumn gr_lastColumn pi_cells pi_facings pi_sets pi_size po_needs ro_cells ro_lengths ro_shifts si_sightLaw si_sightRange th_unseen th_goals th_commonLength tr_marks tr_visited tr_size wh_places) t.heap) A) args s 0 0 A := ⟨_, rfl⟩
  rw [← hZ]
  have hw : SW D A s.heap (wdC cI cL cZ ad ga_sightings ga_bestShifts ga_commonLength ga_allTimes gr_width gr_height gr_size gr_kinds gr_before gr_columns gr_rows gr_floorCells gr_clearCells gr_standCells gr_firstColumn gr_lastColumn pi_cells pi_facings pi_sets pi_size po_needs ro_cells ro_lengths ro_shifts si_sightLaw si_sightRange th_unseen th_goals th_commonLength tr_marks tr_visited tr_size wh_places) s.heap [] := ⟨hP0, hD0, va_S.rf⟩
  clear hP0 hD0 B
  have J196 : ∀ (_ : True) (k95 : Int32 → Int32 → Int32 → Int32 → Int32 → Int32 → Int32 → Int32 → Prop) (hk95 : ∀ (x3 : Int32) (x4 : Int32) (x5 : Int32) (x6 : Int32) (x7 : Int32) (x8 : Int32) (x9 : Int32) (x10 : Int32) , k95 x3 x4 x5 x6 x7 x8 x9 x10 → ∀ (H : Heap) (locs : List Loc) (ls : Array Slot), SW D A s.heap (wdC cI cL cZ ad ga_sightings ga_bestShifts ga_commonLength ga_allTimes gr_width gr_height gr_size gr_kinds gr_before gr_columns gr_rows gr_floorCells gr_clearCells gr_standCells gr_firstColumn gr_lastColumn pi_cells pi_facings pi_sets pi_size po_needs ro_cells ro_lengths ro_shifts si_sightLaw si_sightRange th_unseen th_goals th_commonLength tr_marks tr_visited tr_size wh_places) H locs → lv_has ls 12 [(0, .ref (ad 5)), (3, .int x3), (4, .int x4), (5, .int x5), (6, .int x6), (7, .int x7), (8, .int x8), (9, .int x9), (10, .int x10)] → W p l e (headSpec wsX5_isWayClear rm_si_isWayClear).room s m args below meth c H locs 0 0 Z (F0 m 95 ls [])) (x3 : Int32) (x4 : Int32) (x5 : Int32) (x6 : Int32) (x7 : Int32) (x8 : Int32) (x9 : Int32) (x10 : Int32) , B_si_isWayClear_196 gr_width gr_clearCells Q k95 x3 x4 x5 x6 x7 x8 x9 x10 → ∀ (H : Heap) (locs : List Loc) (ls : Array Slot), SW D A s.heap (wdC cI cL cZ ad ga_sightings ga_bestShifts ga_commonLength ga_allTimes gr_width gr_height gr_size gr_kinds gr_before gr_columns gr_rows gr_floorCells gr_clearCells gr_standCells gr_firstColumn gr_lastColumn pi_cells pi_facings pi_sets pi_size po_needs ro_cells ro_lengths ro_shifts si_sightLaw si_sightRange th_unseen th_goals th_commonLength tr_marks tr_visited tr_size wh_places) H locs → lv_has ls 12 [(0, .ref (ad 5)), (3, .int x3), (4, .int x4), (5, .int x5), (6, .int x6), (7, .int x7), (8, .int x8), (9, .int x9), (10, .int x10)] → W p l e (headSpec wsX5_isWayClear rm_si_isWayClear).room s m args below meth c H locs 0 0 Z (F0 m 196 ls []) := by
    intro _ k95 hk95 x3 x4 x5 x6 x7 x8 x9 x10 h H locs ls hw hl
    unfold B_si_isWayClear_196 at h
    refine lv_aload_n hx hb dX5_isWayClear_196 rfl (lv_at hl 0 rfl) ?_
    refine gC_si_grid hx hb hts hin hown hK hw lk18 dX5_isWayClear_197 ?_
    refine lv_iload_n hx hb dX5_isWayClear_200 rfl (lv_at hl 1 rfl) ?_
    refine lv_iload hx hb dX5_isWayClear_201 (lv_at hl 2 rfl) ?_
    refine cV_i (b := (ad 1)) (As := [.int x3, .int x4]) (rest := []) ⟨hx, hb, hml, hown, hts⟩ hK hw (c_gr_isClear x3 x4 h) (cwV 2 hts (gd_RX5_64 hB) rfl rfl rfl (by decide +kernel) ⟨Nat.le_of_ble_eq_true rfl, Nat.le_of_ble_eq_true rfl⟩) (rC_gr hK hw) hl.1 ⟨Nat.zero_le _, Nat.zero_le _⟩ rfl rfl (Nat.le_of_ble_eq_true rfl) dX5_isWayClear_203 (fun r203 _ H locs h hw => ?_)
    refine lv_if_ne (tgt := 211) hx hb dX5_isWayClear_206 (by decide) (fun hc => ?_) (fun hc => ?_)
    · replace h := h.2 hc
      refine lv_goto (tgt := 95) hx hb dX5_isWayClear_211 (by decide) ?_
      exact hk95 _ _ _ _ _ _ _ _ h _ _ _ hw (lv_sub hl [0, 1, 2, 3, 4, 5, 6, 7, 8] rfl)
    · replace h := h.1 hc
      refine lv_iconst (v := 0) hx hb dX5_isWayClear_209 (by decide) ?_
      rw [hZ]
      exact rt_z () hx hb hr hlocks hw (by decide) h dX5_isWayClear_210
  have J181 : ∀ (_ : True) (k95 : Int32 → Int32 → Int32 → Int32 → Int32 → Int32 → Int32 → Int32 → Prop) (hk95 : ∀ (x3 : Int32) (x4 : Int32) (x5 : Int32) (x6 : Int32) (x7 : Int32) (x8 : Int32) (x9 : Int32) (x10 : Int32) , k95 x3 x4 x5 x6 x7 x8 x9 x10 → ∀ (H : Heap) (locs : List Loc) (ls : Array Slot), SW D A s.heap (wdC cI cL cZ ad ga_sightings ga_bestShifts ga_commonLength ga_allTimes gr_width gr_height gr_size gr_kinds gr_before gr_columns gr_rows gr_floorCells gr_clearCells gr_standCells gr_firstColumn gr_lastColumn pi_cells pi_facings pi_sets pi_size po_needs ro_cells ro_lengths ro_shifts si_sightLaw si_sightRange th_unseen th_goals th_commonLength tr_marks tr_visited tr_size wh_places) H locs → lv_has ls 12 [(0, .ref (ad 5)), (3, .int x3), (4, .int x4), (5, .int x5), (6, .int x6), (7, .int x7), (8, .int x8), (9, .int x9), (10, .int x10)] → W p l e (headSpec wsX5_isWayClear rm_si_isWayClear).room s m args below meth c H locs 0 0 Z (F0 m 95 ls [])) (x3 : Int32) (x4 : Int32) (x5 : Int32) (x6 : Int32) (x7 : Int32) (x8 : Int32) (x9 : Int32) (x10 : Int32) (x11 : Int32) , B_si_isWayClear_181 gr_width gr_clearCells Q k95 x3 x4 x5 x6 x7 x8 x9 x10 x11 → ∀ (H : Heap) (locs : List Loc) (ls : Array Slot), SW D A s.heap (wdC cI cL cZ ad ga_sightings ga_bestShifts ga_commonLength ga_allTimes gr_width gr_height gr_size gr_kinds gr_before gr_columns gr_rows gr_floorCells gr_clearCells gr_standCells gr_firstColumn gr_lastColumn pi_cells pi_facings pi_sets pi_size po_needs ro_cells ro_lengths ro_shifts si_sightLaw si_sightRange th_unseen th_goals th_commonLength tr_marks tr_visited tr_size wh_places) H locs → lv_has ls 12 [(0, .ref (ad 5)), (3, .int x3), (4, .int x4), (5, .int x5), (6, .int x6), (7, .int x7), (8, .int x8), (9, .int x9), (10, .int x10), (11, .int x11)] → W p l e (headSpec wsX5_isWayClear rm_si_isWayClear).room s m args below meth c H locs 0 0 Z (F0 m 181 ls []) := by
    intro _ k95 hk95 x3 x4 x5 x6 x7 x8 x9 x10 x11 h H locs ls hw hl
    unfold B_si_isWayClear_181 at h
    refine lv_iload hx hb dX5_isWayClear_181 (lv_at hl 9 rfl) ?_
    refine lv_if_lt (tgt := 196) hx hb dX5_isWayClear_183 (by decide) (fun hc => ?_) (fun hc => ?_)
    · replace h := h.1 hc
      exact J196 trivial k95 hk95 _ _ _ _ _ _ _ _ h _ _ _ hw (lv_sub hl [0, 1, 2, 3, 4, 5, 6, 7, 8] rfl)
    · replace h := h.2 hc
      refine lv_iload hx hb dX5_isWayClear_186 (lv_at hl 2 rfl) ?_
      refine lv_iload hx hb dX5_isWayClear_188 (lv_at hl 6 rfl) ?_
      refine lv_iadd hx hb dX5_isWayClear_190 ?_
      refine lv_topi (fun x4_191 ex4_191 => ?_)
      replace h := h x4_191 ex4_191
      refine lv_istore (lv' := [(4, .int x4_191), (0, .ref (ad 5)), (3, .int x3), (5, .int x5), (6, .int x6), (7, .int x7), (8, .int x8), (9, .int x9), (10, .int x10), (11, .int x11)]) hx hb dX5_isWayClear_191 hl (by decide) rfl (fun ls hl => ?_)
      refine lv_iinc (v := (x10 + (1 : Int32))) (lv' := [(10, .int (x10 + (1 : Int32))), (4, .int x4_191), (0, .ref (ad 5)), (3, .int x3), (5, .int x5), (6, .int x6), (7, .int x7), (8, .int x8), (9, .int x9), (11, .int x11)]) hx hb dX5_isWayClear_193 hl (k := 8) rfl rfl (by decide) rfl (fun ls hl => ?_)
      exact J196 trivial k95 hk95 _ _ _ _ _ _ _ _ h _ _ _ hw (lv_sub hl [2, 3, 1, 4, 5, 6, 7, 8, 0] rfl)
  have J168 : ∀ (_ : True) (k95 : Int32 → Int32 → Int32 → Int32 → Int32 → Int32 → Int32 → Int32 → Prop) (hk95 : ∀ (x3 : Int32) (x4 : Int32) (x5 : Int32) (x6 : Int32) (x7 : Int32) (x8 : Int32) (x9 : Int32) (x10 : Int32) , k95 x3 x4 x5 x6 x7 x8 x9 x10 → ∀ (H : Heap) (locs : List Loc) (ls : Array Slot), SW D A s.heap (wdC cI cL cZ ad ga_sightings ga_bestShifts ga_commonLength ga_allTimes gr_width gr_height gr_size gr_kinds gr_before gr_columns gr_rows gr_floorCells gr_clearCells gr_standCells gr_firstColumn gr_lastColumn pi_cells pi_facings pi_sets pi_size po_needs ro_cells ro_lengths ro_shifts si_sightLaw si_sightRange th_unseen th_goals th_commonLength tr_marks tr_visited tr_size wh_places) H locs → lv_has ls 12 [(0, .ref (ad 5)), (3, .int x3), (4, .int x4), (5, .int x5), (6, .int x6), (7, .int x7), (8, .int x8), (9, .int x9), (10, .int x10)] → W p l e (headSpec wsX5_isWayClear rm_si_isWayClear).room s m args below meth c H locs 0 0 Z (F0 m 95 ls [])) (x3 : Int32) (x4 : Int32) (x5 : Int32) (x6 : Int32) (x7 : Int32) (x8 : Int32) (x9 : Int32) (x10 : Int32) (x11 : Int32) , B_si_isWayClear_168 gr_width gr_clearCells Q k95 x3 x4 x5 x6 x7 x8 x9 x10 x11 → ∀ (H : Heap) (locs : List Loc) (ls : Array Slot), SW D A s.heap (wdC cI cL cZ ad ga_sightings ga_bestShifts ga_commonLength ga_allTimes gr_width gr_height gr_size gr_kinds gr_before gr_columns gr_rows gr_floorCells gr_clearCells gr_standCells gr_firstColumn gr_lastColumn pi_cells pi_facings pi_sets pi_size po_needs ro_cells ro_lengths ro_shifts si_sightLaw si_sightRange th_unseen th_goals th_commonLength tr_marks tr_visited tr_size wh_places) H locs → lv_has ls 12 [(0, .ref (ad 5)), (3, .int x3), (4, .int x4), (5, .int x5), (6, .int x6), (7, .int x7), (8, .int x8), (9, .int x9), (10, .int x10), (11, .int x11)] → W p l e (headSpec wsX5_isWayClear rm_si_isWayClear).room s m args below meth c H locs 0 0 Z (F0 m 168 ls []) := by
    intro _ k95 hk95 x3 x4 x5 x6 x7 x8 x9 x10 x11 h H locs ls hw hl
    unfold B_si_isWayClear_168 at h
    refine lv_iload hx hb dX5_isWayClear_168 (lv_at hl 9 rfl) ?_
    refine lv_if_gt (tgt := 181) hx hb dX5_isWayClear_170 (by decide) (fun hc => ?_) (fun hc => ?_)
    · replace h := h.1 hc
      exact J181 trivial k95 hk95 _ _ _ _ _ _ _ _ _ h _ _ _ hw (lv_sub hl [0, 1, 2, 3, 4, 5, 6, 7, 8, 9] rfl)
    · replace h := h.2 hc
      refine lv_iload_n hx hb dX5_isWayClear_173 rfl (lv_at hl 1 rfl) ?_
      refine lv_iload hx hb dX5_isWayClear_174 (lv_at hl 5 rfl) ?_
      refine lv_iadd hx hb dX5_isWayClear_176 ?_
      refine lv_topi (fun x3_177 ex3_177 => ?_)
      replace h := h x3_177 ex3_177
      refine lv_istore_n (lv' := [(3, .int x3_177), (0, .ref (ad 5)), (4, .int x4), (5, .int x5), (6, .int x6), (7, .int x7), (8, .int x8), (9, .int x9), (10, .int x10), (11, .int x11)]) hx hb dX5_isWayClear_177 rfl hl (by decide) rfl (fun ls hl => ?_)
      refine lv_iinc (v := (x9 + (1 : Int32))) (lv' := [(9, .int (x9 + (1 : Int32))), (3, .int x3_177), (0, .ref (ad 5)), (4, .int x4), (5, .int x5), (6, .int x6), (7, .int x7), (8, .int x8), (10, .int x10), (11, .int x11)]) hx hb dX5_isWayClear_178 hl (k := 7) rfl rfl (by decide) rfl (fun ls hl => ?_)
      exact J181 trivial k95 hk95 _ _ _ _ _ _ _ _ _ h _ _ _ hw (lv_sub hl [2, 1, 3, 4, 5, 6, 7, 0, 8, 9] rfl)
  have J95 : ∀ (n : Nat) (x3 : Int32) (x4 : Int32) (x5 : Int32) (x6 : Int32) (x7 : Int32) (x8 : Int32) (x9 : Int32) (x10 : Int32) , L_si_isWayClear_95 gr_width gr_clearCells Q n x3 x4 x5 x6 x7 x8 x9 x10 → ∀ (H : Heap) (locs : List Loc) (ls : Array Slot), SW D A s.heap (wdC cI cL cZ ad ga_sightings ga_bestShifts ga_commonLength ga_allTimes gr_width gr_height gr_size gr_kinds gr_before gr_columns gr_rows gr_floorCells gr_clearCells gr_standCells gr_firstColumn gr_lastColumn pi_cells pi_facings pi_sets pi_size po_needs ro_cells ro_lengths ro_shifts si_sightLaw si_sightRange th_unseen th_goals th_commonLength tr_marks tr_visited tr_size wh_places) H locs → lv_has ls 12 [(0, .ref (ad 5)), (3, .int x3), (4, .int x4), (5, .int x5), (6, .int x6), (7, .int x7), (8, .int x8), (9, .int x9), (10, .int x10)] → W p l e (headSpec wsX5_isWayClear rm_si_isWayClear).room s m args below meth c H locs 0 0 Z (F0 m 95 ls []) := by
    intro  n
    induction n with
    | zero => intro x3 x4 x5 x6 x7 x8 x9 x10 h; exact h.elim
    | succ n ih =>
    intro x3 x4 x5 x6 x7 x8 x9 x10 h H locs ls hw hl
    unfold L_si_isWayClear_95 at h
    refine lv_iload hx hb dX5_isWayClear_95 (lv_at hl 7 rfl) ?_
    refine lv_iload hx hb dX5_isWayClear_97 (lv_at hl 8 rfl) ?_
    refine lv_iadd hx hb dX5_isWayClear_99 ?_
    refine lv_iload hx hb dX5_isWayClear_100 (lv_at hl 3 rfl) ?_
    refine lv_iload hx hb dX5_isWayClear_102 (lv_at hl 4 rfl) ?_
    refine lv_iadd hx hb dX5_isWayClear_104 ?_
    refine lv_icmp_ge (tgt := 214) hx hb dX5_isWayClear_105 (by decide) (fun hc => ?_) (fun hc => ?_)
    · replace h := h.1 hc
      refine lv_iconst (v := 1) hx hb dX5_isWayClear_214 (by decide) ?_
      rw [hZ]
      exact rt_z () hx hb hr hlocks hw (by decide) h dX5_isWayClear_215
    · replace h := h.2 hc
      refine lv_iconst (v := 1) hx hb dX5_isWayClear_108 (by decide) ?_
      refine lv_iconst (v := 2) hx hb dX5_isWayClear_109 (by decide) ?_
      refine lv_iload hx hb dX5_isWayClear_110 (lv_at hl 7 rfl) ?_
      refine lv_imul hx hb dX5_isWayClear_112 ?_
      refine lv_iadd hx hb dX5_isWayClear_113 ?_
      refine lv_iload hx hb dX5_isWayClear_114 (lv_at hl 4 rfl) ?_
      refine lv_imul hx hb dX5_isWayClear_116 ?_
      refine lv_iconst (v := 1) hx hb dX5_isWayClear_117 (by decide) ?_
      refine lv_iconst (v := 2) hx hb dX5_isWayClear_118 (by decide) ?_
      refine lv_iload hx hb dX5_isWayClear_119 (lv_at hl 8 rfl) ?_
      refine lv_imul hx hb dX5_isWayClear_121 ?_
      refine lv_iadd hx hb dX5_isWayClear_122 ?_
      refine lv_iload hx hb dX5_isWayClear_123 (lv_at hl 3 rfl) ?_
      refine lv_imul hx hb dX5_isWayClear_125 ?_
      refine lv_isub hx hb dX5_isWayClear_126 ?_
      refine lv_topi (fun x11_127 ex11_127 => ?_)
      replace h := h x11_127 ex11_127
      refine lv_istore (lv' := [(11, .int x11_127), (0, .ref (ad 5)), (3, .int x3), (4, .int x4), (5, .int x5), (6, .int x6), (7, .int x7), (8, .int x8), (9, .int x9), (10, .int x10)]) hx hb dX5_isWayClear_127 hl (by decide) rfl (fun ls hl => ?_)
      refine lv_iload hx hb dX5_isWayClear_129 (lv_at hl 0 rfl) ?_
      refine lv_if_ne (tgt := 168) hx hb dX5_isWayClear_131 (by decide) (fun hc => ?_) (fun hc => ?_)
      · replace h := h.2 hc
        exact J168 trivial (L_si_isWayClear_95 gr_width gr_clearCells Q n) ih _ _ _ _ _ _ _ _ _ h _ _ _ hw (lv_sub hl [1, 2, 3, 4, 5, 6, 7, 8, 9, 0] rfl)
      · replace h := h.1 hc
        refine lv_aload_n hx hb dX5_isWayClear_134 rfl (lv_at hl 1 rfl) ?_
        refine gC_si_grid hx hb hts hin hown hK hw lk18 dX5_isWayClear_135 ?_
        refine lv_iload_n hx hb dX5_isWayClear_138 rfl (lv_at hl 2 rfl) ?_
        refine lv_iload hx hb dX5_isWayClear_139 (lv_at hl 6 rfl) ?_
        refine lv_iadd hx hb dX5_isWayClear_141 ?_
        refine lv_iload hx hb dX5_isWayClear_142 (lv_at hl 3 rfl) ?_
        refine cV_i (b := (ad 1)) (As := [.int (x3 + x7), .int x4]) (rest := []) ⟨hx, hb, hml, hown, hts⟩ hK hw (c_gr_isClear (x3 + x7) x4 h) (cwV 2 hts (gd_RX5_64 hB) rfl rfl rfl (by decide +kernel) ⟨Nat.le_of_ble_eq_true rfl, Nat.le_of_ble_eq_true rfl⟩) (rC_gr hK hw) hl.1 ⟨Nat.zero_le _, Nat.zero_le _⟩ rfl rfl (Nat.le_of_ble_eq_true rfl) dX5_isWayClear_144 (fun r144 _ H locs h hw => ?_)
        refine lv_if_ne (tgt := 168) hx hb dX5_isWayClear_147 (by decide) (fun hc => ?_) (fun hc => ?_)
        · replace h := h.2 hc
          exact J168 trivial (L_si_isWayClear_95 gr_width gr_clearCells Q n) ih _ _ _ _ _ _ _ _ _ h _ _ _ hw (lv_sub hl [1, 2, 3, 4, 5, 6, 7, 8, 9, 0] rfl)
        · replace h := h.1 hc
          refine lv_aload_n hx hb dX5_isWayClear_150 rfl (lv_at hl 1 rfl) ?_
          refine gC_si_grid hx hb hts hin hown hK hw lk18 dX5_isWayClear_151 ?_
          refine lv_iload_n hx hb dX5_isWayClear_154 rfl (lv_at hl 2 rfl) ?_
          refine lv_iload hx hb dX5_isWayClear_155 (lv_at hl 3 rfl) ?_
          refine lv_iload hx hb dX5_isWayClear_157 (lv_at hl 7 rfl) ?_
          refine lv_iadd hx hb dX5_isWayClear_159 ?_
          refine cV_i (b := (ad 1)) (As := [.int x3, .int (x4 + x8)]) (rest := []) ⟨hx, hb, hml, hown, hts⟩ hK hw (c_gr_isClear x3 (x4 + x8) h) (cwV 2 hts (gd_RX5_64 hB) rfl rfl rfl (by decide +kernel) ⟨Nat.le_of_ble_eq_true rfl, Nat.le_of_ble_eq_true rfl⟩) (rC_gr hK hw) hl.1 ⟨Nat.zero_le _, Nat.zero_le _⟩ rfl rfl (Nat.le_of_ble_eq_true rfl) dX5_isWayClear_160 (fun r160 _ H locs h hw => ?_)
          refine lv_if_ne (tgt := 168) hx hb dX5_isWayClear_163 (by decide) (fun hc => ?_) (fun hc => ?_)
          · replace h := h.2 hc
            exact J168 trivial (L_si_isWayClear_95 gr_width gr_clearCells Q n) ih _ _ _ _ _ _ _ _ _ h _ _ _ hw (lv_sub hl [1, 2, 3, 4, 5, 6, 7, 8, 9, 0] rfl)
          · replace h := h.1 hc
            refine lv_iconst (v := 0) hx hb dX5_isWayClear_166 (by decide) ?_
            rw [hZ]
            exact rt_z () hx hb hr hlocks hw (by decide) h dX5_isWayClear_167
  have J67 : ∀ (_ : True) (x2 : Int32) (x3 : Int32) (x4 : Int32) (x5 : Int32) (x6 : Int32) (y0 : Int32) , B_si_isWayClear_67 gr_width gr_rows gr_clearCells Q x2 x3 x4 x5 x6 y0 → ∀ (H : Heap) (locs : List Loc) (ls : Array Slot), SW D A s.heap (wdC cI cL cZ ad ga_sightings ga_bestShifts ga_commonLength ga_allTimes gr_width gr_height gr_size gr_kinds gr_before gr_columns gr_rows gr_floorCells gr_clearCells gr_standCells gr_firstColumn gr_lastColumn pi_cells pi_facings pi_sets pi_size po_needs ro_cells ro_lengths ro_shifts si_sightLaw si_sightRange th_unseen th_goals th_commonLength tr_marks tr_visited tr_size wh_places) H locs → lv_has ls 12 [(0, .ref (ad 5)), (2, .int x2), (3, .int x3), (4, .int x4), (5, .int x5), (6, .int x6)] → W p l e (headSpec wsX5_isWayClear rm_si_isWayClear).room s m args below meth c H locs 0 0 Z (F0 m 67 ls [.int y0]) := by
    intro _  x2 x3 x4 x5 x6 y0 h H locs ls hw hl
    unfold B_si_isWayClear_67 at h
    refine lv_istore (lv' := [(7, .int y0), (0, .ref (ad 5)), (2, .int x2), (3, .int x3), (4, .int x4), (5, .int x5), (6, .int x6)]) hx hb dX5_isWayClear_67 hl (by decide) rfl (fun ls hl => ?_)
    refine lv_aload_n hx hb dX5_isWayClear_69 rfl (lv_at hl 1 rfl) ?_
    refine gC_si_grid hx hb hts hin hown hK hw lk18 dX5_isWayClear_70 ?_
    refine lv_iload_n hx hb dX5_isWayClear_73 rfl (lv_at hl 2 rfl) ?_
    refine cV_i (b := (ad 1)) (As := [.int x2]) (rest := []) ⟨hx, hb, hml, hown, hts⟩ hK hw (c_gr_rowOf x2 h) (cwV 1 hts (gd_RX5_40 hB) rfl rfl rfl (by decide +kernel) ⟨Nat.le_of_ble_eq_true rfl, Nat.le_of_ble_eq_true rfl⟩) (rC_gr hK hw) hl.1 ⟨Nat.zero_le _, Nat.zero_le _⟩ rfl rfl (Nat.le_of_ble_eq_true rfl) dX5_isWayClear_74 (fun r74 _ H locs h hw => ?_)
    refine lv_iload hx hb dX5_isWayClear_77 (lv_at hl 4 rfl) ?_
    refine lv_icmp_ge (tgt := 86) hx hb dX5_isWayClear_79 (by decide) (fun hc => ?_) (fun hc => ?_)
    · replace h := h.1 hc
      refine lv_iconst (v := 1) hx hb dX5_isWayClear_86 (by decide) ?_
      refine lv_istore (lv' := [(8, .int (1 : Int32)), (7, .int y0), (0, .ref (ad 5)), (2, .int x2), (3, .int x3), (4, .int x4), (5, .int x5), (6, .int x6)]) hx hb dX5_isWayClear_87 hl (by decide) rfl (fun ls hl => ?_)
      refine lv_iconst (v := 0) hx hb dX5_isWayClear_89 (by decide) ?_
      refine lv_istore (lv' := [(9, .int (0 : Int32)), (8, .int (1 : Int32)), (7, .int y0), (0, .ref (ad 5)), (2, .int x2), (3, .int x3), (4, .int x4), (5, .int x5), (6, .int x6)]) hx hb dX5_isWayClear_90 hl (by decide) rfl (fun ls hl => ?_)
      refine lv_iconst (v := 0) hx hb dX5_isWayClear_92 (by decide) ?_
      refine lv_istore (lv' := [(10, .int (0 : Int32)), (9, .int (0 : Int32)), (8, .int (1 : Int32)), (7, .int y0), (0, .ref (ad 5)), (2, .int x2), (3, .int x3), (4, .int x4), (5, .int x5), (6, .int x6)]) hx hb dX5_isWayClear_93 hl (by decide) rfl (fun ls hl => ?_)
      obtain ⟨n95, h⟩ := h
      exact J95  n95 _ _ _ _ _ _ _ _ h _ _ _ hw (lv_sub hl [4, 6, 7, 8, 9, 3, 2, 1, 0] rfl)
    · replace h := h.2 hc
      refine lv_iconst (v := (-1)) hx hb dX5_isWayClear_82 (by decide) ?_
      refine lv_goto (tgt := 87) hx hb dX5_isWayClear_83 (by decide) ?_
      refine lv_istore (lv' := [(8, .int (-1 : Int32)), (7, .int y0), (0, .ref (ad 5)), (2, .int x2), (3, .int x3), (4, .int x4), (5, .int x5), (6, .int x6)]) hx hb dX5_isWayClear_87 hl (by decide) rfl (fun ls hl => ?_)
      refine lv_iconst (v := 0) hx hb dX5_isWayClear_89 (by decide) ?_
      refine lv_istore (lv' := [(9, .int (0 : Int32)), (8, .int (-1 : Int32)), (7, .int y0), (0, .ref (ad 5)), (2, .int x2), (3, .int x3), (4, .int x4), (5, .int x5), (6, .int x6)]) hx hb dX5_isWayClear_90 hl (by decide) rfl (fun ls hl => ?_)
      refine lv_iconst (v := 0) hx hb dX5_isWayClear_92 (by decide) ?_
      refine lv_istore (lv' := [(10, .int (0 : Int32)), (9, .int (0 : Int32)), (8, .int (-1 : Int32)), (7, .int y0), (0, .ref (ad 5)), (2, .int x2), (3, .int x3), (4, .int x4), (5, .int x5), (6, .int x6)]) hx hb dX5_isWayClear_93 hl (by decide) rfl (fun ls hl => ?_)
      obtain ⟨n95, h⟩ := h
      exact J95  n95 _ _ _ _ _ _ _ _ h _ _ _ hw (lv_sub hl [4, 6, 7, 8, 9, 3, 2, 1, 0] rfl)
  unfold P_si_isWayClear at h
  have he : entryFrame m args 12 = entryFrame m ([.ref (ad 5), .int x1, .int x2] : List Value).toArray 12 := by rw [hav]
  refine W.eq he ?_
  have hl := lv_entry ([.ref (ad 5), .int x1, .int x2]) (n := 12) (Nat.le_of_ble_eq_true rfl)
  rw [lg_entry_eq]
  generalize (lg_sl ([.ref (ad 5), .int x1, .int x2]) ++ List.replicate (12 - (lg_sl ([.ref (ad 5), .int x1, .int x2])).length) Slot.unset).toArray = ls at hl ⊢
  have hl : lv_has ls 12 [(0, .ref (ad 5)), (1, .int x1), (2, .int x2)] := hl
  refine lv_aload_n hx hb dX5_isWayClear_0 rfl (lv_at hl 0 rfl) ?_
  refine gC_si_grid hx hb hts hin hown hK hw lk18 dX5_isWayClear_1 ?_
  refine lv_iload_n hx hb dX5_isWayClear_4 rfl (lv_at hl 1 rfl) ?_
  refine cV_i (b := (ad 1)) (As := [.int x1]) (rest := []) ⟨hx, hb, hml, hown, hts⟩ hK hw (c_gr_columnOf x1 h) (cwV 1 hts (gd_RX5_31 hB) rfl rfl rfl (by decide +kernel) ⟨Nat.le_of_ble_eq_true rfl, Nat.le_of_ble_eq_true rfl⟩) (rC_gr hK hw) hl.1 ⟨Nat.zero_le _, Nat.zero_le _⟩ rfl rfl (Nat.le_of_ble_eq_true rfl) dX5_isWayClear_5 (fun r5 _ H locs h hw => ?_)
  refine lv_istore_n (lv' := [(3, .int r5), (0, .ref (ad 5)), (1, .int x1), (2, .int x2)]) hx hb dX5_isWayClear_8 rfl hl (by decide) rfl (fun ls hl => ?_)
  refine lv_aload_n hx hb dX5_isWayClear_9 rfl (lv_at hl 1 rfl) ?_
  refine gC_si_grid hx hb hts hin hown hK hw lk18 dX5_isWayClear_10 ?_
  refine lv_iload_n hx hb dX5_isWayClear_13 rfl (lv_at hl 2 rfl) ?_
  refine cV_i (b := (ad 1)) (As := [.int x1]) (rest := []) ⟨hx, hb, hml, hown, hts⟩ hK hw (c_gr_rowOf x1 h) (cwV 1 hts (gd_RX5_40 hB) rfl rfl rfl (by decide +kernel) ⟨Nat.le_of_ble_eq_true rfl, Nat.le_of_ble_eq_true rfl⟩) (rC_gr hK hw) hl.1 ⟨Nat.zero_le _, Nat.zero_le _⟩ rfl rfl (Nat.le_of_ble_eq_true rfl) dX5_isWayClear_14 (fun r14 _ H locs h hw => ?_)
  refine lv_istore (lv' := [(4, .int r14), (3, .int r5), (0, .ref (ad 5)), (1, .int x1), (2, .int x2)]) hx hb dX5_isWayClear_17 hl (by decide) rfl (fun ls hl => ?_)
  refine lv_aload_n hx hb dX5_isWayClear_19 rfl (lv_at hl 2 rfl) ?_
  refine gC_si_grid hx hb hts hin hown hK hw lk18 dX5_isWayClear_20 ?_
  refine lv_iload_n hx hb dX5_isWayClear_23 rfl (lv_at hl 4 rfl) ?_
  refine cV_i (b := (ad 1)) (As := [.int x2]) (rest := []) ⟨hx, hb, hml, hown, hts⟩ hK hw (c_gr_columnOf x2 h) (cwV 1 hts (gd_RX5_31 hB) rfl rfl rfl (by decide +kernel) ⟨Nat.le_of_ble_eq_true rfl, Nat.le_of_ble_eq_true rfl⟩) (rC_gr hK hw) hl.1 ⟨Nat.zero_le _, Nat.zero_le _⟩ rfl rfl (Nat.le_of_ble_eq_true rfl) dX5_isWayClear_24 (fun r24 _ H locs h hw => ?_)
  refine lv_iload_n hx hb dX5_isWayClear_27 rfl (lv_at hl 1 rfl) ?_
  refine lv_isub hx hb dX5_isWayClear_28 ?_
  refine va_mabs hx hb (by rw [hml]; exact hl.1.symm) hown (hts _ (hB _ m_421)) (hts _ (hB _ m_422)) (hts _ (hB _ m_71)) (hts _ (hB _ m_423)) (Nat.le_of_ble_eq_true rfl) (Nat.le_of_ble_eq_true rfl) (Nat.zero_le _) (Nat.zero_le _) dX5_isWayClear_29 ?_
  refine lv_topi (fun x5_32 ex5_32 => ?_)
  replace h := h x5_32 ex5_32
  refine lv_istore (lv' := [(5, .int x5_32), (4, .int r14), (3, .int r5), (0, .ref (ad 5)), (1, .int x1), (2, .int x2)]) hx hb dX5_isWayClear_32 hl (by decide) rfl (fun ls hl => ?_)
  refine lv_aload_n hx hb dX5_isWayClear_34 rfl (lv_at hl 3 rfl) ?_
  refine gC_si_grid hx hb hts hin hown hK hw lk18 dX5_isWayClear_35 ?_
  refine lv_iload_n hx hb dX5_isWayClear_38 rfl (lv_at hl 5 rfl) ?_
  refine cV_i (b := (ad 1)) (As := [.int x2]) (rest := []) ⟨hx, hb, hml, hown, hts⟩ hK hw (c_gr_rowOf x2 h) (cwV 1 hts (gd_RX5_40 hB) rfl rfl rfl (by decide +kernel) ⟨Nat.le_of_ble_eq_true rfl, Nat.le_of_ble_eq_true rfl⟩) (rC_gr hK hw) hl.1 ⟨Nat.zero_le _, Nat.zero_le _⟩ rfl rfl (Nat.le_of_ble_eq_true rfl) dX5_isWayClear_39 (fun r39 _ H locs h hw => ?_)
  refine lv_iload hx hb dX5_isWayClear_42 (lv_at hl 1 rfl) ?_
  refine lv_isub hx hb dX5_isWayClear_44 ?_
  refine va_mabs hx hb (by rw [hml]; exact hl.1.symm) hown (hts _ (hB _ m_421)) (hts _ (hB _ m_422)) (hts _ (hB _ m_71)) (hts _ (hB _ m_423)) (Nat.le_of_ble_eq_true rfl) (Nat.le_of_ble_eq_true rfl) (Nat.zero_le _) (Nat.zero_le _) dX5_isWayClear_45 ?_
  refine lv_topi (fun x6_48 ex6_48 => ?_)
  replace h := h x6_48 ex6_48
  refine lv_istore (lv' := [(6, .int x6_48), (5, .int x5_32), (4, .int r14), (3, .int r5), (0, .ref (ad 5)), (1, .int x1), (2, .int x2)]) hx hb dX5_isWayClear_48 hl (by decide) rfl (fun ls hl => ?_)
  refine lv_aload_n hx hb dX5_isWayClear_50 rfl (lv_at hl 4 rfl) ?_
  refine gC_si_grid hx hb hts hin hown hK hw lk18 dX5_isWayClear_51 ?_
  refine lv_iload_n hx hb dX5_isWayClear_54 rfl (lv_at hl 6 rfl) ?_
  refine cV_i (b := (ad 1)) (As := [.int x2]) (rest := []) ⟨hx, hb, hml, hown, hts⟩ hK hw (c_gr_columnOf x2 h) (cwV 1 hts (gd_RX5_31 hB) rfl rfl rfl (by decide +kernel) ⟨Nat.le_of_ble_eq_true rfl, Nat.le_of_ble_eq_true rfl⟩) (rC_gr hK hw) hl.1 ⟨Nat.zero_le _, Nat.zero_le _⟩ rfl rfl (Nat.le_of_ble_eq_true rfl) dX5_isWayClear_55 (fun r55 _ H locs h hw => ?_)
  refine lv_iload_n hx hb dX5_isWayClear_58 rfl (lv_at hl 3 rfl) ?_
  refine lv_icmp_ge (tgt := 66) hx hb dX5_isWayClear_59 (by decide) (fun hc => ?_) (fun hc => ?_)
  · replace h := h.1 hc
    refine lv_iconst (v := 1) hx hb dX5_isWayClear_66 (by decide) ?_
    exact J67 trivial  _ _ _ _ _ _ h _ _ _ hw (lv_sub hl [4, 6, 3, 2, 1, 0] rfl)
  · replace h := h.2 hc
    refine lv_iconst (v := (-1)) hx hb dX5_isWayClear_62 (by decide) ?_
    refine lv_goto (tgt := 67) hx hb dX5_isWayClear_63 (by decide) ?_
    exact J67 trivial  _ _ _ _ _ _ h _ _ _ hw (lv_sub hl [4, 6, 3, 2, 1, 0] rfl)
def rm_si_reaches : Room := { frames := 2, cells := 0, slots := 0, locals := 53 }
set_option maxHeartbeats 4000000 in
set_option maxRecDepth 100000 in
theorem c_si_reaches {l : Launch} {D : va_G} {cI cL cZ : ClassId} {mx my : Nat} {A : Nat → Prop} {ad : Nat → Nat} {ga_sightings th_unseen th_goals tr_visited : Nat → Int64} {ga_bestShifts gr_kinds gr_before gr_columns gr_rows pi_cells pi_facings pi_sets po_needs ro_cells ro_lengths ro_shifts tr_marks wh_places : Nat → Int32} {ga_commonLength gr_width gr_height gr_size pi_size si_sightLaw si_sightRange th_commonLength tr_size : Int32} {ga_allTimes gr_floorCells gr_clearCells gr_standCells gr_firstColumn gr_lastColumn : Int64} (x1 : Int32) (x2 : Int32) {Q : Int32 → Prop} (h : P_si_reaches gr_width gr_columns gr_rows gr_floorCells gr_clearCells gr_standCells si_sightLaw si_sightRange x1 x2 Q) : Met l yX5_reaches wsX5_reaches rm_si_reaches (va_Pc [.ref (ad 5), .int x1, .int x2] (WC D cI cL cZ mx my A (wdC cI cL cZ ad ga_sightings ga_bestShifts ga_commonLength ga_allTimes gr_width gr_height gr_size gr_kinds gr_before gr_columns gr_rows gr_floorCells gr_clearCells gr_standCells gr_firstColumn gr_lastColumn pi_cells pi_facings pi_sets pi_size po_needs ro_cells ro_lengths ro_shifts si_sightLaw si_sightRange th_unseen th_goals th_commonLength tr_marks tr_visited tr_size wh_places))) (va_Qi (fun (r : Int32) (u : Unit) => Q r) (fun (u : Unit) t => PW D A (wdC cI cL cZ ad ga_sightings ga_bestShifts ga_commonLength ga_allTimes gr_width gr_height gr_size gr_kinds gr_before gr_columns gr_rows gr_floorCells gr_clearCells gr_standCells gr_firstColumn gr_lastColumn pi_cells pi_facings pi_sets pi_size po_needs ro_cells ro_lengths ro_shifts si_sightLaw si_sightRange th_unseen th_goals th_commonLength tr_marks tr_visited tr_size wh_places) t.heap) A) 0 0 A := by
  refine Met.ofW (cc := cX5_reaches) (maxL := 5) (ret := (some .boolean)) (by decide) rfl ?_
  intro p e s m args below meth c s₁ B hml hv
  obtain ⟨hav, hP0, hD0, hK⟩ := hv
  have hx := B.exec
  have hb := B.bytes
  have hr := B.returns
  have hts := atoms_spec (ws := wsX5_reaches) B.pre
  have hown : s.vm.findClass RX5 = some m.cls := findClass_of_methodNamed B.named
  have hlocks := B.notSynchronized
  have hB : ∀ w ∈ BIG, w ∈ wsX5_reaches := fun _ h => List.mem_cons_of_mem _ h
  have hin : ∀ w ∈ wsX50, w ∈ wsX5_reaches := fun w h => hB w (inB_X5 w h)
  have lk9 := hts _ (hB _ m_148)
  have lk15 := hts _ (hB _ m_149)
  have lk18 := hts _ (hB _ m_147)
  obtain ⟨Z, hZ⟩ : ∃ Z : State → Prop, Z = MQ below (va_Qi (fun (r : Int32) (u : Unit) => Q r) (fun (u : Unit) t => PW D A (wdC cI cL cZ ad ga_sightings ga_bestShifts ga_commonLength ga_allTimes gr_width gr_height gr_size gr_kinds gr_before gr_columns gr_rows gr_floorCells gr_clearCells gr_standCells gr_firstColumn gr_lastColumn pi_cells pi_facings pi_sets pi_size po_needs ro_cells ro_lengths ro_shifts si_sightLaw si_sightRange th_unseen th_goals th_commonLength tr_marks tr_visited tr_size wh_places) t.heap) A) args s 0 0 A := ⟨_, rfl⟩
  rw [← hZ]
  have hw : SW D A s.heap (wdC cI cL cZ ad ga_sightings ga_bestShifts ga_commonLength ga_allTimes gr_width gr_height gr_size gr_kinds gr_before gr_columns gr_rows gr_floorCells gr_clearCells gr_standCells gr_firstColumn gr_lastColumn pi_cells pi_facings pi_sets pi_size po_needs ro_cells ro_lengths ro_shifts si_sightLaw si_sightRange th_unseen th_goals th_commonLength tr_marks tr_visited tr_size wh_places) s.heap [] := ⟨hP0, hD0, va_S.rf⟩
  clear hP0 hD0 B
  have J132 : ∀ (_ : True) (x1 : Int32) (x2 : Int32) , B_si_reaches_132 gr_width gr_columns gr_rows gr_clearCells Q x1 x2 → ∀ (H : Heap) (locs : List Loc) (ls : Array Slot), SW D A s.heap (wdC cI cL cZ ad ga_sightings ga_bestShifts ga_commonLength ga_allTimes gr_width gr_height gr_size gr_kinds gr_before gr_columns gr_rows gr_floorCells gr_clearCells gr_standCells gr_firstColumn gr_lastColumn pi_cells pi_facings pi_sets pi_size po_needs ro_cells ro_lengths ro_shifts si_sightLaw si_sightRange th_unseen th_goals th_commonLength tr_marks tr_visited tr_size wh_places) H locs → lv_has ls 5 [(0, .ref (ad 5)), (1, .int x1), (2, .int x2)] → W p l e (headSpec wsX5_reaches rm_si_reaches).room s m args below meth c H locs 0 0 Z (F0 m 132 ls []) := by
    intro _  x1 x2 h H locs ls hw hl
    unfold B_si_reaches_132 at h
    refine lv_aload_n hx hb dX5_reaches_132 rfl (lv_at hl 0 rfl) ?_
    refine lv_iload_n hx hb dX5_reaches_133 rfl (lv_at hl 1 rfl) ?_
    refine lv_iload_n hx hb dX5_reaches_134 rfl (lv_at hl 2 rfl) ?_
    refine cV_i (b := (ad 5)) (As := [.int x1, .int x2]) (rest := []) ⟨hx, hb, hml, hown, hts⟩ hK hw (c_si_isBoxClear x1 x2 h) (cwV 2 hts (gd_RX5_47 hB) rfl rfl rfl (by decide +kernel) ⟨Nat.le_of_ble_eq_true rfl, Nat.le_of_ble_eq_true rfl⟩) (rC_si hK hw) hl.1 ⟨Nat.zero_le _, Nat.zero_le _⟩ rfl rfl (Nat.le_of_ble_eq_true rfl) dX5_reaches_135 (fun r135 _ H locs h hw => ?_)
    refine lv_if_eq (tgt := 145) hx hb dX5_reaches_138 (by decide) (fun hc => ?_) (fun hc => ?_)
    · replace h := h.1 hc
      refine lv_iconst (v := 0) hx hb dX5_reaches_145 (by decide) ?_
      rw [hZ]
      exact rt_z () hx hb hr hlocks hw (by decide) h dX5_reaches_146
    · replace h := h.2 hc
      refine lv_iconst (v := 1) hx hb dX5_reaches_141 (by decide) ?_
      refine lv_goto (tgt := 146) hx hb dX5_reaches_142 (by decide) ?_
      rw [hZ]
      exact rt_z () hx hb hr hlocks hw (by decide) h dX5_reaches_146
  unfold P_si_reaches at h
  have he : entryFrame m args 5 = entryFrame m ([.ref (ad 5), .int x1, .int x2] : List Value).toArray 5 := by rw [hav]
  refine W.eq he ?_
  have hl := lv_entry ([.ref (ad 5), .int x1, .int x2]) (n := 5) (Nat.le_of_ble_eq_true rfl)
  rw [lg_entry_eq]
  generalize (lg_sl ([.ref (ad 5), .int x1, .int x2]) ++ List.replicate (5 - (lg_sl ([.ref (ad 5), .int x1, .int x2])).length) Slot.unset).toArray = ls at hl ⊢
  have hl : lv_has ls 5 [(0, .ref (ad 5)), (1, .int x1), (2, .int x2)] := hl
  refine lv_iload_n hx hb dX5_reaches_0 rfl (lv_at hl 1 rfl) ?_
  refine lv_iload_n hx hb dX5_reaches_1 rfl (lv_at hl 2 rfl) ?_
  refine lv_icmp_ne (tgt := 14) hx hb dX5_reaches_2 (by decide) (fun hc => ?_) (fun hc => ?_)
  · replace h := h.2 hc
    refine lv_aload_n hx hb dX5_reaches_14 rfl (lv_at hl 0 rfl) ?_
    refine gC_si_grid hx hb hts hin hown hK hw lk18 dX5_reaches_15 ?_
    refine lv_iload_n hx hb dX5_reaches_18 rfl (lv_at hl 1 rfl) ?_
    refine cV_i (b := (ad 1)) (As := [.int x1]) (rest := []) ⟨hx, hb, hml, hown, hts⟩ hK hw (c_gr_isFloor x1 h) (cwV 1 hts (gd_RX5_28 hB) rfl rfl rfl (by decide +kernel) ⟨Nat.le_of_ble_eq_true rfl, Nat.le_of_ble_eq_true rfl⟩) (rC_gr hK hw) hl.1 ⟨Nat.zero_le _, Nat.zero_le _⟩ rfl rfl (Nat.le_of_ble_eq_true rfl) dX5_reaches_19 (fun r19 _ H locs h hw => ?_)
    refine lv_if_eq (tgt := 36) hx hb dX5_reaches_22 (by decide) (fun hc => ?_) (fun hc => ?_)
    · replace h := h.1 hc
      refine lv_iconst (v := 0) hx hb dX5_reaches_36 (by decide) ?_
      rw [hZ]
      exact rt_z () hx hb hr hlocks hw (by decide) h dX5_reaches_37
    · replace h := h.2 hc
      refine lv_aload_n hx hb dX5_reaches_25 rfl (lv_at hl 0 rfl) ?_
      refine gC_si_grid hx hb hts hin hown hK hw lk18 dX5_reaches_26 ?_
      refine lv_iload_n hx hb dX5_reaches_29 rfl (lv_at hl 2 rfl) ?_
      refine cV_i (b := (ad 1)) (As := [.int x2]) (rest := []) ⟨hx, hb, hml, hown, hts⟩ hK hw (c_gr_isFloor x2 h) (cwV 1 hts (gd_RX5_28 hB) rfl rfl rfl (by decide +kernel) ⟨Nat.le_of_ble_eq_true rfl, Nat.le_of_ble_eq_true rfl⟩) (rC_gr hK hw) hl.1 ⟨Nat.zero_le _, Nat.zero_le _⟩ rfl rfl (Nat.le_of_ble_eq_true rfl) dX5_reaches_30 (fun r30 _ H locs h hw => ?_)
      refine lv_if_ne (tgt := 38) hx hb dX5_reaches_33 (by decide) (fun hc => ?_) (fun hc => ?_)
      · replace h := h.2 hc
        refine lv_aload_n hx hb dX5_reaches_38 rfl (lv_at hl 0 rfl) ?_
        refine gC_si_grid hx hb hts hin hown hK hw lk18 dX5_reaches_39 ?_
        refine lv_iload_n hx hb dX5_reaches_42 rfl (lv_at hl 1 rfl) ?_
        refine cV_i (b := (ad 1)) (As := [.int x1]) (rest := []) ⟨hx, hb, hml, hown, hts⟩ hK hw (c_gr_columnOf x1 h) (cwV 1 hts (gd_RX5_31 hB) rfl rfl rfl (by decide +kernel) ⟨Nat.le_of_ble_eq_true rfl, Nat.le_of_ble_eq_true rfl⟩) (rC_gr hK hw) hl.1 ⟨Nat.zero_le _, Nat.zero_le _⟩ rfl rfl (Nat.le_of_ble_eq_true rfl) dX5_reaches_43 (fun r43 _ H locs h hw => ?_)
        refine lv_aload_n hx hb dX5_reaches_46 rfl (lv_at hl 0 rfl) ?_
        refine gC_si_grid hx hb hts hin hown hK hw lk18 dX5_reaches_47 ?_
        refine lv_iload_n hx hb dX5_reaches_50 rfl (lv_at hl 2 rfl) ?_
        refine cV_i (b := (ad 1)) (As := [.int x2]) (rest := [.int r43]) ⟨hx, hb, hml, hown, hts⟩ hK hw (c_gr_columnOf x2 h) (cwV 1 hts (gd_RX5_31 hB) rfl rfl rfl (by decide +kernel) ⟨Nat.le_of_ble_eq_true rfl, Nat.le_of_ble_eq_true rfl⟩) (rC_gr hK hw) hl.1 ⟨Nat.zero_le _, Nat.zero_le _⟩ rfl rfl (Nat.le_of_ble_eq_true rfl) dX5_reaches_51 (fun r51 _ H locs h hw => ?_)
        refine lv_isub hx hb dX5_reaches_54 ?_
        refine va_mabs hx hb (by rw [hml]; exact hl.1.symm) hown (hts _ (hB _ m_421)) (hts _ (hB _ m_422)) (hts _ (hB _ m_71)) (hts _ (hB _ m_423)) (Nat.le_of_ble_eq_true rfl) (Nat.le_of_ble_eq_true rfl) (Nat.zero_le _) (Nat.zero_le _) dX5_reaches_55 ?_
        refine lv_topi (fun x3_58 ex3_58 => ?_)
        replace h := h x3_58 ex3_58
        refine lv_istore_n (lv' := [(3, .int x3_58), (0, .ref (ad 5)), (1, .int x1), (2, .int x2)]) hx hb dX5_reaches_58 rfl hl (by decide) rfl (fun ls hl => ?_)
        refine lv_aload_n hx hb dX5_reaches_59 rfl (lv_at hl 1 rfl) ?_
        refine gC_si_grid hx hb hts hin hown hK hw lk18 dX5_reaches_60 ?_
        refine lv_iload_n hx hb dX5_reaches_63 rfl (lv_at hl 2 rfl) ?_
        refine cV_i (b := (ad 1)) (As := [.int x1]) (rest := []) ⟨hx, hb, hml, hown, hts⟩ hK hw (c_gr_rowOf x1 h) (cwV 1 hts (gd_RX5_40 hB) rfl rfl rfl (by decide +kernel) ⟨Nat.le_of_ble_eq_true rfl, Nat.le_of_ble_eq_true rfl⟩) (rC_gr hK hw) hl.1 ⟨Nat.zero_le _, Nat.zero_le _⟩ rfl rfl (Nat.le_of_ble_eq_true rfl) dX5_reaches_64 (fun r64 _ H locs h hw => ?_)
        refine lv_aload_n hx hb dX5_reaches_67 rfl (lv_at hl 1 rfl) ?_
        refine gC_si_grid hx hb hts hin hown hK hw lk18 dX5_reaches_68 ?_
        refine lv_iload_n hx hb dX5_reaches_71 rfl (lv_at hl 3 rfl) ?_
        refine cV_i (b := (ad 1)) (As := [.int x2]) (rest := [.int r64]) ⟨hx, hb, hml, hown, hts⟩ hK hw (c_gr_rowOf x2 h) (cwV 1 hts (gd_RX5_40 hB) rfl rfl rfl (by decide +kernel) ⟨Nat.le_of_ble_eq_true rfl, Nat.le_of_ble_eq_true rfl⟩) (rC_gr hK hw) hl.1 ⟨Nat.zero_le _, Nat.zero_le _⟩ rfl rfl (Nat.le_of_ble_eq_true rfl) dX5_reaches_72 (fun r72 _ H locs h hw => ?_)
        refine lv_isub hx hb dX5_reaches_75 ?_
        refine va_mabs hx hb (by rw [hml]; exact hl.1.symm) hown (hts _ (hB _ m_421)) (hts _ (hB _ m_422)) (hts _ (hB _ m_71)) (hts _ (hB _ m_423)) (Nat.le_of_ble_eq_true rfl) (Nat.le_of_ble_eq_true rfl) (Nat.zero_le _) (Nat.zero_le _) dX5_reaches_76 ?_
        refine lv_topi (fun x4_79 ex4_79 => ?_)
        replace h := h x4_79 ex4_79
        refine lv_istore (lv' := [(4, .int x4_79), (3, .int x3_58), (0, .ref (ad 5)), (1, .int x1), (2, .int x2)]) hx hb dX5_reaches_79 hl (by decide) rfl (fun ls hl => ?_)
        refine lv_iload_n hx hb dX5_reaches_81 rfl (lv_at hl 1 rfl) ?_
        refine lv_aload_n hx hb dX5_reaches_82 rfl (lv_at hl 2 rfl) ?_
        refine gC_si_sightRange hx hb hts hin hown hK hw lk15 dX5_reaches_83 ?_
        refine lv_icmp_gt (tgt := 98) hx hb dX5_reaches_86 (by decide) (fun hc => ?_) (fun hc => ?_)
        · replace h := h.1 hc
          refine lv_iconst (v := 0) hx hb dX5_reaches_98 (by decide) ?_
          rw [hZ]
          exact rt_z () hx hb hr hlocks hw (by decide) h dX5_reaches_99
        · replace h := h.2 hc
          refine lv_iload hx hb dX5_reaches_89 (lv_at hl 0 rfl) ?_
          refine lv_aload_n hx hb dX5_reaches_91 rfl (lv_at hl 2 rfl) ?_
          refine gC_si_sightRange hx hb hts hin hown hK hw lk15 dX5_reaches_92 ?_
          refine lv_icmp_le (tgt := 100) hx hb dX5_reaches_95 (by decide) (fun hc => ?_) (fun hc => ?_)
          · replace h := h.1 hc
            refine lv_aload_n hx hb dX5_reaches_100 rfl (lv_at hl 2 rfl) ?_
            refine gC_si_sightLaw hx hb hts hin hown hK hw lk9 dX5_reaches_101 ?_
            refine lv_iconst (v := 2) hx hb dX5_reaches_104 (by decide) ?_
            refine lv_icmp_ne (tgt := 115) hx hb dX5_reaches_105 (by decide) (fun hc => ?_) (fun hc => ?_)
            · replace h := h.2 hc
              refine lv_aload_n hx hb dX5_reaches_115 rfl (lv_at hl 2 rfl) ?_
              refine gC_si_sightLaw hx hb hts hin hown hK hw lk9 dX5_reaches_116 ?_
              refine lv_iconst (v := 1) hx hb dX5_reaches_119 (by decide) ?_
              refine lv_icmp_eq (tgt := 132) hx hb dX5_reaches_120 (by decide) (fun hc => ?_) (fun hc => ?_)
              · replace h := h.1 hc
                exact J132 trivial  _ _ h _ _ _ hw (lv_sub hl [2, 3, 4] rfl)
              · replace h := h.2 hc
                refine lv_iload_n hx hb dX5_reaches_123 rfl (lv_at hl 1 rfl) ?_
                refine lv_if_eq (tgt := 132) hx hb dX5_reaches_124 (by decide) (fun hc => ?_) (fun hc => ?_)
                · replace h := h.1 hc
                  exact J132 trivial  _ _ h _ _ _ hw (lv_sub hl [2, 3, 4] rfl)
                · replace h := h.2 hc
                  refine lv_iload hx hb dX5_reaches_127 (lv_at hl 0 rfl) ?_
                  refine lv_if_ne (tgt := 145) hx hb dX5_reaches_129 (by decide) (fun hc => ?_) (fun hc => ?_)
                  · replace h := h.2 hc
                    refine lv_iconst (v := 0) hx hb dX5_reaches_145 (by decide) ?_
                    rw [hZ]
                    exact rt_z () hx hb hr hlocks hw (by decide) h dX5_reaches_146
                  · replace h := h.1 hc
                    exact J132 trivial  _ _ h _ _ _ hw (lv_sub hl [2, 3, 4] rfl)
            · replace h := h.1 hc
              refine lv_aload_n hx hb dX5_reaches_108 rfl (lv_at hl 2 rfl) ?_
              refine lv_iload_n hx hb dX5_reaches_109 rfl (lv_at hl 3 rfl) ?_
              refine lv_iload_n hx hb dX5_reaches_110 rfl (lv_at hl 4 rfl) ?_
              refine cV_i (b := (ad 5)) (As := [.int x1, .int x2]) (rest := []) ⟨hx, hb, hml, hown, hts⟩ hK hw (c_si_isWayClear x1 x2 h) (cwV 2 hts (gd_RX5_43 hB) rfl rfl rfl (by decide +kernel) ⟨Nat.le_of_ble_eq_true rfl, Nat.le_of_ble_eq_true rfl⟩) (rC_si hK hw) hl.1 ⟨Nat.zero_le _, Nat.zero_le _⟩ rfl rfl (Nat.le_of_ble_eq_true rfl) dX5_reaches_111 (fun r111 _ H locs h hw => ?_)
              rw [hZ]
              exact rt_z () hx hb hr hlocks hw h.1 h.2 dX5_reaches_114
          · replace h := h.2 hc
            refine lv_iconst (v := 0) hx hb dX5_reaches_98 (by decide) ?_
            rw [hZ]
            exact rt_z () hx hb hr hlocks hw (by decide) h dX5_reaches_99
      · replace h := h.1 hc
        refine lv_iconst (v := 0) hx hb dX5_reaches_36 (by decide) ?_
        rw [hZ]
        exact rt_z () hx hb hr hlocks hw (by decide) h dX5_reaches_37
  · replace h := h.1 hc
    refine lv_aload_n hx hb dX5_reaches_5 rfl (lv_at hl 0 rfl) ?_
    refine gC_si_grid hx hb hts hin hown hK hw lk18 dX5_reaches_6 ?_
    refine lv_iload_n hx hb dX5_reaches_9 rfl (lv_at hl 1 rfl) ?_
    refine cV_i (b := (ad 1)) (As := [.int x1]) (rest := []) ⟨hx, hb, hml, hown, hts⟩ hK hw (c_gr_mayStand x1 h) (cwV 1 hts (gd_RX5_22 hB) rfl rfl rfl (by decide +kernel) ⟨Nat.le_of_ble_eq_true rfl, Nat.le_of_ble_eq_true rfl⟩) (rC_gr hK hw) hl.1 ⟨Nat.zero_le _, Nat.zero_le _⟩ rfl rfl (Nat.le_of_ble_eq_true rfl) dX5_reaches_10 (fun r10 _ H locs h hw => ?_)
    rw [hZ]
    exact rt_z () hx hb hr hlocks hw h.1 h.2 dX5_reaches_13
