def rm_tr_parentOf : Room := { frames := 0, cells := 0, slots := 0, locals := 0 }
set_option maxHeartbeats 4000000 in
set_option maxRecDepth 100000 in
theorem c_tr_parentOf {l : Launch} {D : va_G} {cI cL cZ : ClassId} {mx my : Nat} {A : Nat → Prop} {ad : Nat → Nat} {ga_sightings th_unseen th_goals tr_visited : Nat → Int64} {ga_bestShifts gr_kinds gr_before gr_columns gr_rows pi_cells pi_facings pi_sets po_needs ro_cells ro_lengths ro_shifts tr_marks wh_places : Nat → Int32} {ga_commonLength gr_width gr_height gr_size pi_size si_sightLaw si_sightRange th_commonLength tr_size : Int32} {ga_allTimes gr_floorCells gr_clearCells gr_standCells gr_firstColumn gr_lastColumn : Int64} (x1 : Int32) {Q : Int32 → Prop} (h : P_tr_parentOf tr_marks x1 Q) : Met l yX8_parentOf wsX8_parentOf rm_tr_parentOf (va_Pc [.ref (ad 8), .int x1] (WC D cI cL cZ mx my A (wdC cI cL cZ ad ga_sightings ga_bestShifts ga_commonLength ga_allTimes gr_width gr_height gr_size gr_kinds gr_before gr_columns gr_rows gr_floorCells gr_clearCells gr_standCells gr_firstColumn gr_lastColumn pi_cells pi_facings pi_sets pi_size po_needs ro_cells ro_lengths ro_shifts si_sightLaw si_sightRange th_unseen th_goals th_commonLength tr_marks tr_visited tr_size wh_places))) (va_Qi (fun (r : Int32) (u : Unit) => Q r) (fun (u : Unit) t => PW D A (wdC cI cL cZ ad ga_sightings ga_bestShifts ga_commonLength ga_allTimes gr_width gr_height gr_size gr_kinds gr_before gr_columns gr_rows gr_floorCells gr_clearCells gr_standCells gr_firstColumn gr_lastColumn pi_cells pi_facings pi_sets pi_size po_needs ro_cells ro_lengths ro_shifts si_sightLaw si_sightRange th_unseen th_goals th_commonLength tr_marks tr_visited tr_size wh_places) t.heap) A) 0 0 A := by
  refine Met.ofW (cc := cX8_parentOf) (maxL := 2) (ret := (some .int)) (by decide) rfl ?_
  intro p e s m args below meth c s₁ B hml hv
  obtain ⟨hav, hP0, hD0, hK⟩ := hv
  have hx := B.exec
  have hb := B.bytes
  have hr := B.returns
  have hts := atoms_spec (ws := wsX8_parentOf) B.pre
  have hown : s.vm.findClass RX8 = some m.cls := findClass_of_methodNamed B.named
  have hlocks := B.notSynchronized
  have hB : ∀ w ∈ BIG, w ∈ wsX8_parentOf := fun _ h => List.mem_cons_of_mem _ h
  have hin : ∀ w ∈ wsX80, w ∈ wsX8_parentOf := fun w h => hB w (inB_X8 w h)
  have lk9 := hts _ (hB _ m_246)
  obtain ⟨Z, hZ⟩ : ∃ Z : State → Prop, Z = MQ below (va_Qi (fun (r : Int32) (u : Unit) => Q r) (fun (u : Unit) t => PW D A (wdC cI cL cZ ad ga_sightings ga_bestShifts ga_commonLength ga_allTimes gr_width gr_height gr_size gr_kinds gr_before gr_columns gr_rows gr_floorCells gr_clearCells gr_standCells gr_firstColumn gr_lastColumn pi_cells pi_facings pi_sets pi_size po_needs ro_cells ro_lengths ro_shifts si_sightLaw si_sightRange th_unseen th_goals th_commonLength tr_marks tr_visited tr_size wh_places) t.heap) A) args s 0 0 A := ⟨_, rfl⟩
  rw [← hZ]
  have hw : SW D A s.heap (wdC cI cL cZ ad ga_sightings ga_bestShifts ga_commonLength ga_allTimes gr_width gr_height gr_size gr_kinds gr_before gr_columns gr_rows gr_floorCells gr_clearCells gr_standCells gr_firstColumn gr_lastColumn pi_cells pi_facings pi_sets pi_size po_needs ro_cells ro_lengths ro_shifts si_sightLaw si_sightRange th_unseen th_goals th_commonLength tr_marks tr_visited tr_size wh_places) s.heap [] := ⟨hP0, hD0, va_S.rf⟩
  clear hP0 hD0 B
  unfold P_tr_parentOf at h
  have he : entryFrame m args 2 = entryFrame m ([.ref (ad 8), .int x1] : List Value).toArray 2 := by rw [hav]
  refine W.eq he ?_
  have hl := lv_entry ([.ref (ad 8), .int x1]) (n := 2) (Nat.le_of_ble_eq_true rfl)
  rw [lg_entry_eq]
  generalize (lg_sl ([.ref (ad 8), .int x1]) ++ List.replicate (2 - (lg_sl ([.ref (ad 8), .int x1])).length) Slot.unset).toArray = ls at hl ⊢
  have hl : lv_has ls 2 [(0, .ref (ad 8)), (1, .int x1)] := hl
  refine lv_aload_n hx hb dX8_parentOf_0 rfl (lv_at hl 0 rfl) ?_
  refine gC_tr_marks hx hb hts hin hown hK hw lk9 dX8_parentOf_1 ?_
  refine lv_iload_n hx hb dX8_parentOf_4 rfl (lv_at hl 1 rfl) ?_
  refine aC_tr_marks hx hb hK hw h.1 dX8_parentOf_5 ?_
  replace h := h.2
  refine lv_bipush (v := 17) hx hb dX8_parentOf_6 (by decide) ?_
  refine lv_ishr hx hb dX8_parentOf_8 ?_
  rw [hZ]
  exact rt_i () hx hb hr hlocks hw h dX8_parentOf_9
def rm_tr_movesTo : Room := { frames := 1, cells := 0, slots := 0, locals := 21 }
set_option maxHeartbeats 4000000 in
set_option maxRecDepth 100000 in
theorem c_tr_movesTo {l : Launch} {D : va_G} {cI cL cZ : ClassId} {mx my : Nat} {A : Nat → Prop} {ad : Nat → Nat} {ga_sightings th_unseen th_goals tr_visited : Nat → Int64} {ga_bestShifts gr_kinds gr_before gr_columns gr_rows pi_cells pi_facings pi_sets po_needs ro_cells ro_lengths ro_shifts tr_marks wh_places : Nat → Int32} {ga_commonLength gr_width gr_height gr_size pi_size si_sightLaw si_sightRange th_commonLength tr_size : Int32} {ga_allTimes gr_floorCells gr_clearCells gr_standCells gr_firstColumn gr_lastColumn : Int64} (x1 : Int32) {Q : Int32 → Prop} (h : P_tr_movesTo tr_marks x1 Q) : Met l yX8_movesTo wsX8_movesTo rm_tr_movesTo (va_Pc [.ref (ad 8), .int x1] (WC D cI cL cZ mx my A (wdC cI cL cZ ad ga_sightings ga_bestShifts ga_commonLength ga_allTimes gr_width gr_height gr_size gr_kinds gr_before gr_columns gr_rows gr_floorCells gr_clearCells gr_standCells gr_firstColumn gr_lastColumn pi_cells pi_facings pi_sets pi_size po_needs ro_cells ro_lengths ro_shifts si_sightLaw si_sightRange th_unseen th_goals th_commonLength tr_marks tr_visited tr_size wh_places))) (va_Qi (fun (r : Int32) (u : Unit) => Q r) (fun (u : Unit) t => PW D A (wdC cI cL cZ ad ga_sightings ga_bestShifts ga_commonLength ga_allTimes gr_width gr_height gr_size gr_kinds gr_before gr_columns gr_rows gr_floorCells gr_clearCells gr_standCells gr_firstColumn gr_lastColumn pi_cells pi_facings pi_sets pi_size po_needs ro_cells ro_lengths ro_shifts si_sightLaw si_sightRange th_unseen th_goals th_commonLength tr_marks tr_visited tr_size wh_places) t.heap) A) 0 0 A := by
  refine Met.ofW (cc := cX8_movesTo) (maxL := 4) (ret := (some .int)) (by decide) rfl ?_
  intro p e s m args below meth c s₁ B hml hv
  obtain ⟨hav, hP0, hD0, hK⟩ := hv
  have hx := B.exec
  have hb := B.bytes
  have hr := B.returns
  have hts := atoms_spec (ws := wsX8_movesTo) B.pre
  have hown : s.vm.findClass RX8 = some m.cls := findClass_of_methodNamed B.named
  have hlocks := B.notSynchronized
  have hB : ∀ w ∈ BIG, w ∈ wsX8_movesTo := fun _ h => List.mem_cons_of_mem _ h
  obtain ⟨Z, hZ⟩ : ∃ Z : State → Prop, Z = MQ below (va_Qi (fun (r : Int32) (u : Unit) => Q r) (fun (u : Unit) t => PW D A (wdC cI cL cZ ad ga_sightings ga_bestShifts ga_commonLength ga_allTimes gr_width gr_height gr_size gr_kinds gr_before gr_columns gr_rows gr_floorCells gr_clearCells gr_standCells gr_firstColumn gr_lastColumn pi_cells pi_facings pi_sets pi_size po_needs ro_cells ro_lengths ro_shifts si_sightLaw si_sightRange th_unseen th_goals th_commonLength tr_marks tr_visited tr_size wh_places) t.heap) A) args s 0 0 A := ⟨_, rfl⟩
  rw [← hZ]
  have hw : SW D A s.heap (wdC cI cL cZ ad ga_sightings ga_bestShifts ga_commonLength ga_allTimes gr_width gr_height gr_size gr_kinds gr_before gr_columns gr_rows gr_floorCells gr_clearCells gr_standCells gr_firstColumn gr_lastColumn pi_cells pi_facings pi_sets pi_size po_needs ro_cells ro_lengths ro_shifts si_sightLaw si_sightRange th_unseen th_goals th_commonLength tr_marks tr_visited tr_size wh_places) s.heap [] := ⟨hP0, hD0, va_S.rf⟩
  clear hP0 hD0 B
  have J12 : ∀ (n : Nat) (x2 : Int32) (x3 : Int32) , L_tr_movesTo_12 tr_marks Q n x2 x3 → ∀ (H : Heap) (locs : List Loc) (ls : Array Slot), SW D A s.heap (wdC cI cL cZ ad ga_sightings ga_bestShifts ga_commonLength ga_allTimes gr_width gr_height gr_size gr_kinds gr_before gr_columns gr_rows gr_floorCells gr_clearCells gr_standCells gr_firstColumn gr_lastColumn pi_cells pi_facings pi_sets pi_size po_needs ro_cells ro_lengths ro_shifts si_sightLaw si_sightRange th_unseen th_goals th_commonLength tr_marks tr_visited tr_size wh_places) H locs → lv_has ls 4 [(0, .ref (ad 8)), (2, .int x2), (3, .int x3)] → W p l e (headSpec wsX8_movesTo rm_tr_movesTo).room s m args below meth c H locs 0 0 Z (F0 m 12 ls []) := by
    intro  n
    induction n with
    | zero => intro x2 x3 h; exact h.elim
    | succ n ih =>
    intro x2 x3 h H locs ls hw hl
    unfold L_tr_movesTo_12 at h
    refine lv_iload_n hx hb dX8_movesTo_12 rfl (lv_at hl 2 rfl) ?_
    refine lv_if_le (tgt := 35) hx hb dX8_movesTo_13 (by decide) (fun hc => ?_) (fun hc => ?_)
    · replace h := h.1 hc
      refine lv_iload_n hx hb dX8_movesTo_35 rfl (lv_at hl 1 rfl) ?_
      rw [hZ]
      exact rt_i () hx hb hr hlocks hw h dX8_movesTo_36
    · replace h := h.2 hc
      refine lv_iload_n hx hb dX8_movesTo_16 rfl (lv_at hl 1 rfl) ?_
      refine lv_sipush (v := 16384) hx hb dX8_movesTo_17 (by decide) ?_
      refine lv_icmp_ge (tgt := 35) hx hb dX8_movesTo_20 (by decide) (fun hc => ?_) (fun hc => ?_)
      · replace h := h.1 hc
        refine lv_iload_n hx hb dX8_movesTo_35 rfl (lv_at hl 1 rfl) ?_
        rw [hZ]
        exact rt_i () hx hb hr hlocks hw h dX8_movesTo_36
      · replace h := h.2 hc
        refine lv_iinc (v := (x2 + (1 : Int32))) (lv' := [(2, .int (x2 + (1 : Int32))), (0, .ref (ad 8)), (3, .int x3)]) hx hb dX8_movesTo_23 hl (k := 1) rfl rfl (by decide) rfl (fun ls hl => ?_)
        refine lv_aload_n hx hb dX8_movesTo_26 rfl (lv_at hl 1 rfl) ?_
        refine lv_iload_n hx hb dX8_movesTo_27 rfl (lv_at hl 2 rfl) ?_
        refine cV_i (b := (ad 8)) (As := [.int x3]) (rest := []) ⟨hx, hb, hml, hown, hts⟩ hK hw (c_tr_parentOf x3 h) (cwV 1 hts (gd_RX8_33 hB) rfl rfl rfl (by decide +kernel) ⟨Nat.le_of_ble_eq_true rfl, Nat.le_of_ble_eq_true rfl⟩) (rC_tr hK hw) hl.1 ⟨Nat.zero_le _, Nat.zero_le _⟩ rfl rfl (Nat.le_of_ble_eq_true rfl) dX8_movesTo_28 (fun r28 _ H locs h hw => ?_)
        refine lv_istore_n (lv' := [(3, .int r28), (2, .int (x2 + (1 : Int32))), (0, .ref (ad 8))]) hx hb dX8_movesTo_31 rfl hl (by decide) rfl (fun ls hl => ?_)
        refine lv_goto (tgt := 12) hx hb dX8_movesTo_32 (by decide) ?_
        exact ih _ _ h _ _ _ hw (lv_sub hl [2, 1, 0] rfl)
  unfold P_tr_movesTo at h
  have he : entryFrame m args 4 = entryFrame m ([.ref (ad 8), .int x1] : List Value).toArray 4 := by rw [hav]
  refine W.eq he ?_
  have hl := lv_entry ([.ref (ad 8), .int x1]) (n := 4) (Nat.le_of_ble_eq_true rfl)
  rw [lg_entry_eq]
  generalize (lg_sl ([.ref (ad 8), .int x1]) ++ List.replicate (4 - (lg_sl ([.ref (ad 8), .int x1])).length) Slot.unset).toArray = ls at hl ⊢
  have hl : lv_has ls 4 [(0, .ref (ad 8)), (1, .int x1)] := hl
  refine lv_iload_n hx hb dX8_movesTo_0 rfl (lv_at hl 1 rfl) ?_
  refine lv_iconst (v := (-1)) hx hb dX8_movesTo_1 (by decide) ?_
  refine lv_icmp_ne (tgt := 8) hx hb dX8_movesTo_2 (by decide) (fun hc => ?_) (fun hc => ?_)
  · replace h := h.2 hc
    refine lv_iconst (v := 0) hx hb dX8_movesTo_8 (by decide) ?_
    refine lv_istore_n (lv' := [(2, .int (0 : Int32)), (0, .ref (ad 8)), (1, .int x1)]) hx hb dX8_movesTo_9 rfl hl (by decide) rfl (fun ls hl => ?_)
    refine lv_iload_n hx hb dX8_movesTo_10 rfl (lv_at hl 2 rfl) ?_
    refine lv_istore_n (lv' := [(3, .int x1), (2, .int (0 : Int32)), (0, .ref (ad 8)), (1, .int x1)]) hx hb dX8_movesTo_11 rfl hl (by decide) rfl (fun ls hl => ?_)
    obtain ⟨n12, h⟩ := h
    exact J12  n12 _ _ h _ _ _ hw (lv_sub hl [2, 1, 0] rfl)
  · replace h := h.1 hc
    refine lv_bipush (v := (-9)) hx hb dX8_movesTo_5 (by decide) ?_
    rw [hZ]
    exact rt_i () hx hb hr hlocks hw h dX8_movesTo_7
def rm_th_lengthOf : Room := { frames := 5, cells := 0, slots := 0, locals := 121 }
set_option maxHeartbeats 4000000 in
set_option maxRecDepth 100000 in
theorem c_th_lengthOf {l : Launch} {D : va_G} {cI cL cZ : ClassId} {mx my : Nat} {A : Nat → Prop} {ad : Nat → Nat} {ga_sightings th_unseen th_goals tr_visited : Nat → Int64} {ga_bestShifts gr_kinds gr_before gr_columns gr_rows pi_cells pi_facings pi_sets po_needs ro_cells ro_lengths ro_shifts tr_marks wh_places : Nat → Int32} {ga_commonLength gr_width gr_height gr_size pi_size si_sightLaw si_sightRange th_commonLength tr_size : Int32} {ga_allTimes gr_floorCells gr_clearCells gr_standCells gr_firstColumn gr_lastColumn : Int64} (x1 : Int32) (x2 : Int32) (x3 : Int32) {Q : Int32 → (Nat → Int32) → (Nat → Int64) → Int32 → Prop} (h : P_th_lengthOf gr_width gr_height gr_columns gr_rows gr_standCells th_unseen th_commonLength tr_marks tr_visited tr_size x1 x2 x3 Q) : Met l yX6_lengthOf wsX6_lengthOf rm_th_lengthOf (va_Pc [.ref (ad 6), .int x1, .int x2, .int x3] (WC D cI cL cZ mx my A (wdC cI cL cZ ad ga_sightings ga_bestShifts ga_commonLength ga_allTimes gr_width gr_height gr_size gr_kinds gr_before gr_columns gr_rows gr_floorCells gr_clearCells gr_standCells gr_firstColumn gr_lastColumn pi_cells pi_facings pi_sets pi_size po_needs ro_cells ro_lengths ro_shifts si_sightLaw si_sightRange th_unseen th_goals th_commonLength tr_marks tr_visited tr_size wh_places))) (va_Qi (fun (r : Int32) (u : (Nat → Int32) × (Nat → Int64) × Int32) => Q r u.1 u.2.1 u.2.2) (fun (u : (Nat → Int32) × (Nat → Int64) × Int32) t => PW D A (wdC cI cL cZ ad ga_sightings ga_bestShifts ga_commonLength ga_allTimes gr_width gr_height gr_size gr_kinds gr_before gr_columns gr_rows gr_floorCells gr_clearCells gr_standCells gr_firstColumn gr_lastColumn pi_cells pi_facings pi_sets pi_size po_needs ro_cells ro_lengths ro_shifts si_sightLaw si_sightRange th_unseen th_goals th_commonLength u.1 u.2.1 u.2.2 wh_places) t.heap) A) 0 0 A := by
  refine Met.ofW (cc := cX6_lengthOf) (maxL := 4) (ret := (some .int)) (by decide) rfl ?_
  intro p e s m args below meth c s₁ B hml hv
  obtain ⟨hav, hP0, hD0, hK⟩ := hv
  have hx := B.exec
  have hb := B.bytes
  have hr := B.returns
  have hts := atoms_spec (ws := wsX6_lengthOf) B.pre
  have hown : s.vm.findClass RX6 = some m.cls := findClass_of_methodNamed B.named
  have hlocks := B.notSynchronized
  have hB : ∀ w ∈ BIG, w ∈ wsX6_lengthOf := fun _ h => List.mem_cons_of_mem _ h
  have hin : ∀ w ∈ wsX60, w ∈ wsX6_lengthOf := fun w h => hB w (inB_X6 w h)
  have lk30 := hts _ (hB _ m_281)
  obtain ⟨Z, hZ⟩ : ∃ Z : State → Prop, Z = MQ below (va_Qi (fun (r : Int32) (u : (Nat → Int32) × (Nat → Int64) × Int32) => Q r u.1 u.2.1 u.2.2) (fun (u : (Nat → Int32) × (Nat → Int64) × Int32) t => PW D A (wdC cI cL cZ ad ga_sightings ga_bestShifts ga_commonLength ga_allTimes gr_width gr_height gr_size gr_kinds gr_before gr_columns gr_rows gr_floorCells gr_clearCells gr_standCells gr_firstColumn gr_lastColumn pi_cells pi_facings pi_sets pi_size po_needs ro_cells ro_lengths ro_shifts si_sightLaw si_sightRange th_unseen th_goals th_commonLength u.1 u.2.1 u.2.2 wh_places) t.heap) A) args s 0 0 A := ⟨_, rfl⟩
  rw [← hZ]
  have hw : SW D A s.heap (wdC cI cL cZ ad ga_sightings ga_bestShifts ga_commonLength ga_allTimes gr_width gr_height gr_size gr_kinds gr_before gr_columns gr_rows gr_floorCells gr_clearCells gr_standCells gr_firstColumn gr_lastColumn pi_cells pi_facings pi_sets pi_size po_needs ro_cells ro_lengths ro_shifts si_sightLaw si_sightRange th_unseen th_goals th_commonLength tr_marks tr_visited tr_size wh_places) s.heap [] := ⟨hP0, hD0, va_S.rf⟩
  clear hP0 hD0 B
  unfold P_th_lengthOf at h
  have he : entryFrame m args 4 = entryFrame m ([.ref (ad 6), .int x1, .int x2, .int x3] : List Value).toArray 4 := by rw [hav]
  refine W.eq he ?_
  have hl := lv_entry ([.ref (ad 6), .int x1, .int x2, .int x3]) (n := 4) (Nat.le_of_ble_eq_true rfl)
  rw [lg_entry_eq]
  generalize (lg_sl ([.ref (ad 6), .int x1, .int x2, .int x3]) ++ List.replicate (4 - (lg_sl ([.ref (ad 6), .int x1, .int x2, .int x3])).length) Slot.unset).toArray = ls at hl ⊢
  have hl : lv_has ls 4 [(0, .ref (ad 6)), (1, .int x1), (2, .int x2), (3, .int x3)] := hl
  refine lv_aload_n hx hb dX6_lengthOf_0 rfl (lv_at hl 0 rfl) ?_
  refine gC_th_trail hx hb hts hin hown hK hw lk30 dX6_lengthOf_1 ?_
  refine lv_aload_n hx hb dX6_lengthOf_4 rfl (lv_at hl 0 rfl) ?_
  refine lv_iload_n hx hb dX6_lengthOf_5 rfl (lv_at hl 1 rfl) ?_
  refine lv_iload_n hx hb dX6_lengthOf_6 rfl (lv_at hl 2 rfl) ?_
  refine lv_iload_n hx hb dX6_lengthOf_7 rfl (lv_at hl 3 rfl) ?_
  refine cV_i (b := (ad 6)) (As := [.int x1, .int x2, .int x3]) (rest := [.ref (ad 8)]) ⟨hx, hb, hml, hown, hts⟩ hK hw (c_th_search x1 x2 x3 h) (cwV 3 hts (gd_RX6_79 hB) rfl rfl rfl (by decide +kernel) ⟨Nat.le_of_ble_eq_true rfl, Nat.le_of_ble_eq_true rfl⟩) (rC_th hK hw) hl.1 ⟨Nat.zero_le _, Nat.zero_le _⟩ rfl rfl (Nat.le_of_ble_eq_true rfl) dX6_lengthOf_8 (fun r8 u8 H locs h hw => ?_)
  obtain ⟨tr_marks_8, tr_visited_8, tr_size_8⟩ := u8
  refine cV_i (b := (ad 8)) (As := [.int r8]) (rest := []) ⟨hx, hb, hml, hown, hts⟩ hK hw (c_tr_movesTo r8 h) (cwV 1 hts (gd_RX6_83 hB) rfl rfl rfl (by decide +kernel) ⟨Nat.le_of_ble_eq_true rfl, Nat.le_of_ble_eq_true rfl⟩) (rC_tr hK hw) hl.1 ⟨Nat.zero_le _, Nat.zero_le _⟩ rfl rfl (Nat.le_of_ble_eq_true rfl) dX6_lengthOf_11 (fun r11 _ H locs h hw => ?_)
  rw [hZ]
  exact rt_i (tr_marks_8, tr_visited_8, tr_size_8) hx hb hr hlocks hw h dX6_lengthOf_14
def rm_tr_moveAt : Room := { frames := 0, cells := 0, slots := 0, locals := 0 }
set_option maxHeartbeats 4000000 in
set_option maxRecDepth 100000 in
theorem c_tr_moveAt {l : Launch} {D : va_G} {cI cL cZ : ClassId} {mx my : Nat} {A : Nat → Prop} {ad : Nat → Nat} {ga_sightings th_unseen th_goals tr_visited : Nat → Int64} {ga_bestShifts gr_kinds gr_before gr_columns gr_rows pi_cells pi_facings pi_sets po_needs ro_cells ro_lengths ro_shifts tr_marks wh_places : Nat → Int32} {ga_commonLength gr_width gr_height gr_size pi_size si_sightLaw si_sightRange th_commonLength tr_size : Int32} {ga_allTimes gr_floorCells gr_clearCells gr_standCells gr_firstColumn gr_lastColumn : Int64} (x1 : Int32) {Q : Int32 → Prop} (h : P_tr_moveAt tr_marks x1 Q) : Met l yX8_moveAt wsX8_moveAt rm_tr_moveAt (va_Pc [.ref (ad 8), .int x1] (WC D cI cL cZ mx my A (wdC cI cL cZ ad ga_sightings ga_bestShifts ga_commonLength ga_allTimes gr_width gr_height gr_size gr_kinds gr_before gr_columns gr_rows gr_floorCells gr_clearCells gr_standCells gr_firstColumn gr_lastColumn pi_cells pi_facings pi_sets pi_size po_needs ro_cells ro_lengths ro_shifts si_sightLaw si_sightRange th_unseen th_goals th_commonLength tr_marks tr_visited tr_size wh_places))) (va_Qi (fun (r : Int32) (u : Unit) => Q r) (fun (u : Unit) t => PW D A (wdC cI cL cZ ad ga_sightings ga_bestShifts ga_commonLength ga_allTimes gr_width gr_height gr_size gr_kinds gr_before gr_columns gr_rows gr_floorCells gr_clearCells gr_standCells gr_firstColumn gr_lastColumn pi_cells pi_facings pi_sets pi_size po_needs ro_cells ro_lengths ro_shifts si_sightLaw si_sightRange th_unseen th_goals th_commonLength tr_marks tr_visited tr_size wh_places) t.heap) A) 0 0 A := by
  refine Met.ofW (cc := cX8_moveAt) (maxL := 2) (ret := (some .int)) (by decide) rfl ?_
  intro p e s m args below meth c s₁ B hml hv
  obtain ⟨hav, hP0, hD0, hK⟩ := hv
  have hx := B.exec
  have hb := B.bytes
  have hr := B.returns
  have hts := atoms_spec (ws := wsX8_moveAt) B.pre
  have hown : s.vm.findClass RX8 = some m.cls := findClass_of_methodNamed B.named
  have hlocks := B.notSynchronized
  have hB : ∀ w ∈ BIG, w ∈ wsX8_moveAt := fun _ h => List.mem_cons_of_mem _ h
  have hin : ∀ w ∈ wsX80, w ∈ wsX8_moveAt := fun w h => hB w (inB_X8 w h)
  have lk9 := hts _ (hB _ m_246)
  obtain ⟨Z, hZ⟩ : ∃ Z : State → Prop, Z = MQ below (va_Qi (fun (r : Int32) (u : Unit) => Q r) (fun (u : Unit) t => PW D A (wdC cI cL cZ ad ga_sightings ga_bestShifts ga_commonLength ga_allTimes gr_width gr_height gr_size gr_kinds gr_before gr_columns gr_rows gr_floorCells gr_clearCells gr_standCells gr_firstColumn gr_lastColumn pi_cells pi_facings pi_sets pi_size po_needs ro_cells ro_lengths ro_shifts si_sightLaw si_sightRange th_unseen th_goals th_commonLength tr_marks tr_visited tr_size wh_places) t.heap) A) args s 0 0 A := ⟨_, rfl⟩
  rw [← hZ]
  have hw : SW D A s.heap (wdC cI cL cZ ad ga_sightings ga_bestShifts ga_commonLength ga_allTimes gr_width gr_height gr_size gr_kinds gr_before gr_columns gr_rows gr_floorCells gr_clearCells gr_standCells gr_firstColumn gr_lastColumn pi_cells pi_facings pi_sets pi_size po_needs ro_cells ro_lengths ro_shifts si_sightLaw si_sightRange th_unseen th_goals th_commonLength tr_marks tr_visited tr_size wh_places) s.heap [] := ⟨hP0, hD0, va_S.rf⟩
  clear hP0 hD0 B
  unfold P_tr_moveAt at h
  have he : entryFrame m args 2 = entryFrame m ([.ref (ad 8), .int x1] : List Value).toArray 2 := by rw [hav]
  refine W.eq he ?_
  have hl := lv_entry ([.ref (ad 8), .int x1]) (n := 2) (Nat.le_of_ble_eq_true rfl)
  rw [lg_entry_eq]
  generalize (lg_sl ([.ref (ad 8), .int x1]) ++ List.replicate (2 - (lg_sl ([.ref (ad 8), .int x1])).length) Slot.unset).toArray = ls at hl ⊢
  have hl : lv_has ls 2 [(0, .ref (ad 8)), (1, .int x1)] := hl
  refine lv_aload_n hx hb dX8_moveAt_0 rfl (lv_at hl 0 rfl) ?_
  refine gC_tr_marks hx hb hts hin hown hK hw lk9 dX8_moveAt_1 ?_
  refine lv_iload_n hx hb dX8_moveAt_4 rfl (lv_at hl 1 rfl) ?_
  refine aC_tr_marks hx hb hK hw h.1 dX8_moveAt_5 ?_
  replace h := h.2
  refine lv_bipush (v := 14) hx hb dX8_moveAt_6 (by decide) ?_
  refine lv_ishr hx hb dX8_moveAt_8 ?_
  refine lv_bipush (v := 7) hx hb dX8_moveAt_9 (by decide) ?_
  refine lv_iand hx hb dX8_moveAt_11 ?_
  rw [hZ]
  exact rt_i () hx hb hr hlocks hw h dX8_moveAt_12
def rm_tr_moveTo : Room := { frames := 2, cells := 0, slots := 0, locals := 44 }
set_option maxHeartbeats 4000000 in
set_option maxRecDepth 100000 in
theorem c_tr_moveTo {l : Launch} {D : va_G} {cI cL cZ : ClassId} {mx my : Nat} {A : Nat → Prop} {ad : Nat → Nat} {ga_sightings th_unseen th_goals tr_visited : Nat → Int64} {ga_bestShifts gr_kinds gr_before gr_columns gr_rows pi_cells pi_facings pi_sets po_needs ro_cells ro_lengths ro_shifts tr_marks wh_places : Nat → Int32} {ga_commonLength gr_width gr_height gr_size pi_size si_sightLaw si_sightRange th_commonLength tr_size : Int32} {ga_allTimes gr_floorCells gr_clearCells gr_standCells gr_firstColumn gr_lastColumn : Int64} (x1 : Int32) (x2 : Int32) {Q : Int32 → Prop} (h : P_tr_moveTo tr_marks x1 x2 Q) : Met l yX8_moveTo wsX8_moveTo rm_tr_moveTo (va_Pc [.ref (ad 8), .int x1, .int x2] (WC D cI cL cZ mx my A (wdC cI cL cZ ad ga_sightings ga_bestShifts ga_commonLength ga_allTimes gr_width gr_height gr_size gr_kinds gr_before gr_columns gr_rows gr_floorCells gr_clearCells gr_standCells gr_firstColumn gr_lastColumn pi_cells pi_facings pi_sets pi_size po_needs ro_cells ro_lengths ro_shifts si_sightLaw si_sightRange th_unseen th_goals th_commonLength tr_marks tr_visited tr_size wh_places))) (va_Qi (fun (r : Int32) (u : Unit) => Q r) (fun (u : Unit) t => PW D A (wdC cI cL cZ ad ga_sightings ga_bestShifts ga_commonLength ga_allTimes gr_width gr_height gr_size gr_kinds gr_before gr_columns gr_rows gr_floorCells gr_clearCells gr_standCells gr_firstColumn gr_lastColumn pi_cells pi_facings pi_sets pi_size po_needs ro_cells ro_lengths ro_shifts si_sightLaw si_sightRange th_unseen th_goals th_commonLength tr_marks tr_visited tr_size wh_places) t.heap) A) 0 0 A := by
  refine Met.ofW (cc := cX8_moveTo) (maxL := 6) (ret := (some .int)) (by decide) rfl ?_
  intro p e s m args below meth c s₁ B hml hv
  obtain ⟨hav, hP0, hD0, hK⟩ := hv
  have hx := B.exec
  have hb := B.bytes
  have hr := B.returns
  have hts := atoms_spec (ws := wsX8_moveTo) B.pre
  have hown : s.vm.findClass RX8 = some m.cls := findClass_of_methodNamed B.named
  have hlocks := B.notSynchronized
  have hB : ∀ w ∈ BIG, w ∈ wsX8_moveTo := fun _ h => List.mem_cons_of_mem _ h
  obtain ⟨Z, hZ⟩ : ∃ Z : State → Prop, Z = MQ below (va_Qi (fun (r : Int32) (u : Unit) => Q r) (fun (u : Unit) t => PW D A (wdC cI cL cZ ad ga_sightings ga_bestShifts ga_commonLength ga_allTimes gr_width gr_height gr_size gr_kinds gr_before gr_columns gr_rows gr_floorCells gr_clearCells gr_standCells gr_firstColumn gr_lastColumn pi_cells pi_facings pi_sets pi_size po_needs ro_cells ro_lengths ro_shifts si_sightLaw si_sightRange th_unseen th_goals th_commonLength tr_marks tr_visited tr_size wh_places) t.heap) A) args s 0 0 A := ⟨_, rfl⟩
  rw [← hZ]
  have hw : SW D A s.heap (wdC cI cL cZ ad ga_sightings ga_bestShifts ga_commonLength ga_allTimes gr_width gr_height gr_size gr_kinds gr_before gr_columns gr_rows gr_floorCells gr_clearCells gr_standCells gr_firstColumn gr_lastColumn pi_cells pi_facings pi_sets pi_size po_needs ro_cells ro_lengths ro_shifts si_sightLaw si_sightRange th_unseen th_goals th_commonLength tr_marks tr_visited tr_size wh_places) s.heap [] := ⟨hP0, hD0, va_S.rf⟩
  clear hP0 hD0 B
  have J46 : ∀ (_ : True) (x4 : Int32) , B_tr_moveTo_46 tr_marks Q x4 → ∀ (H : Heap) (locs : List Loc) (ls : Array Slot), SW D A s.heap (wdC cI cL cZ ad ga_sightings ga_bestShifts ga_commonLength ga_allTimes gr_width gr_height gr_size gr_kinds gr_before gr_columns gr_rows gr_floorCells gr_clearCells gr_standCells gr_firstColumn gr_lastColumn pi_cells pi_facings pi_sets pi_size po_needs ro_cells ro_lengths ro_shifts si_sightLaw si_sightRange th_unseen th_goals th_commonLength tr_marks tr_visited tr_size wh_places) H locs → lv_has ls 6 [(0, .ref (ad 8)), (4, .int x4)] → W p l e (headSpec wsX8_moveTo rm_tr_moveTo).room s m args below meth c H locs 0 0 Z (F0 m 46 ls []) := by
    intro _  x4 h H locs ls hw hl
    unfold B_tr_moveTo_46 at h
    refine lv_aload_n hx hb dX8_moveTo_46 rfl (lv_at hl 0 rfl) ?_
    refine lv_iload hx hb dX8_moveTo_47 (lv_at hl 1 rfl) ?_
    refine cV_i (b := (ad 8)) (As := [.int x4]) (rest := []) ⟨hx, hb, hml, hown, hts⟩ hK hw (c_tr_moveAt x4 h) (cwV 1 hts (gd_RX8_40 hB) rfl rfl rfl (by decide +kernel) ⟨Nat.le_of_ble_eq_true rfl, Nat.le_of_ble_eq_true rfl⟩) (rC_tr hK hw) hl.1 ⟨Nat.zero_le _, Nat.zero_le _⟩ rfl rfl (Nat.le_of_ble_eq_true rfl) dX8_moveTo_49 (fun r49 _ H locs h hw => ?_)
    rw [hZ]
    exact rt_i () hx hb hr hlocks hw h dX8_moveTo_52
  have J26 : ∀ (n : Nat) (x2 : Int32) (x4 : Int32) (x5 : Int32) , L_tr_moveTo_26 tr_marks Q n x2 x4 x5 → ∀ (H : Heap) (locs : List Loc) (ls : Array Slot), SW D A s.heap (wdC cI cL cZ ad ga_sightings ga_bestShifts ga_commonLength ga_allTimes gr_width gr_height gr_size gr_kinds gr_before gr_columns gr_rows gr_floorCells gr_clearCells gr_standCells gr_firstColumn gr_lastColumn pi_cells pi_facings pi_sets pi_size po_needs ro_cells ro_lengths ro_shifts si_sightLaw si_sightRange th_unseen th_goals th_commonLength tr_marks tr_visited tr_size wh_places) H locs → lv_has ls 6 [(0, .ref (ad 8)), (2, .int x2), (4, .int x4), (5, .int x5)] → W p l e (headSpec wsX8_moveTo rm_tr_moveTo).room s m args below meth c H locs 0 0 Z (F0 m 26 ls []) := by
    intro  n
    induction n with
    | zero => intro x2 x4 x5 h; exact h.elim
    | succ n ih =>
    intro x2 x4 x5 h H locs ls hw hl
    unfold L_tr_moveTo_26 at h
    refine lv_iload hx hb dX8_moveTo_26 (lv_at hl 3 rfl) ?_
    refine lv_iload_n hx hb dX8_moveTo_28 rfl (lv_at hl 1 rfl) ?_
    refine lv_icmp_le (tgt := 46) hx hb dX8_moveTo_29 (by decide) (fun hc => ?_) (fun hc => ?_)
    · replace h := h.1 hc
      exact J46 trivial  _ h _ _ _ hw (lv_sub hl [0, 2] rfl)
    · replace h := h.2 hc
      refine lv_aload_n hx hb dX8_moveTo_32 rfl (lv_at hl 0 rfl) ?_
      refine lv_iload hx hb dX8_moveTo_33 (lv_at hl 2 rfl) ?_
      refine cV_i (b := (ad 8)) (As := [.int x4]) (rest := []) ⟨hx, hb, hml, hown, hts⟩ hK hw (c_tr_parentOf x4 h) (cwV 1 hts (gd_RX8_33 hB) rfl rfl rfl (by decide +kernel) ⟨Nat.le_of_ble_eq_true rfl, Nat.le_of_ble_eq_true rfl⟩) (rC_tr hK hw) hl.1 ⟨Nat.zero_le _, Nat.zero_le _⟩ rfl rfl (Nat.le_of_ble_eq_true rfl) dX8_moveTo_35 (fun r35 _ H locs h hw => ?_)
      refine lv_istore (lv' := [(4, .int r35), (0, .ref (ad 8)), (2, .int x2), (5, .int x5)]) hx hb dX8_moveTo_38 hl (by decide) rfl (fun ls hl => ?_)
      refine lv_iinc (v := (x5 + (-1 : Int32))) (lv' := [(5, .int (x5 + (-1 : Int32))), (4, .int r35), (0, .ref (ad 8)), (2, .int x2)]) hx hb dX8_moveTo_40 hl (k := 3) rfl rfl (by decide) rfl (fun ls hl => ?_)
      refine lv_goto (tgt := 26) hx hb dX8_moveTo_43 (by decide) ?_
      exact ih _ _ _ h _ _ _ hw (lv_sub hl [2, 3, 1, 0] rfl)
  unfold P_tr_moveTo at h
  have he : entryFrame m args 6 = entryFrame m ([.ref (ad 8), .int x1, .int x2] : List Value).toArray 6 := by rw [hav]
  refine W.eq he ?_
  have hl := lv_entry ([.ref (ad 8), .int x1, .int x2]) (n := 6) (Nat.le_of_ble_eq_true rfl)
  rw [lg_entry_eq]
  generalize (lg_sl ([.ref (ad 8), .int x1, .int x2]) ++ List.replicate (6 - (lg_sl ([.ref (ad 8), .int x1, .int x2])).length) Slot.unset).toArray = ls at hl ⊢
  have hl : lv_has ls 6 [(0, .ref (ad 8)), (1, .int x1), (2, .int x2)] := hl
  refine lv_aload_n hx hb dX8_moveTo_0 rfl (lv_at hl 0 rfl) ?_
  refine lv_iload_n hx hb dX8_moveTo_1 rfl (lv_at hl 1 rfl) ?_
  refine cV_i (b := (ad 8)) (As := [.int x1]) (rest := []) ⟨hx, hb, hml, hown, hts⟩ hK hw (c_tr_movesTo x1 h) (cwV 1 hts (gd_RX8_37 hB) rfl rfl rfl (by decide +kernel) ⟨Nat.le_of_ble_eq_true rfl, Nat.le_of_ble_eq_true rfl⟩) (rC_tr hK hw) hl.1 ⟨Nat.zero_le _, Nat.zero_le _⟩ rfl rfl (Nat.le_of_ble_eq_true rfl) dX8_moveTo_2 (fun r2 _ H locs h hw => ?_)
  refine lv_istore_n (lv' := [(3, .int r2), (0, .ref (ad 8)), (1, .int x1), (2, .int x2)]) hx hb dX8_moveTo_5 rfl hl (by decide) rfl (fun ls hl => ?_)
  refine lv_iload_n hx hb dX8_moveTo_6 rfl (lv_at hl 3 rfl) ?_
  refine lv_if_lt (tgt := 15) hx hb dX8_moveTo_7 (by decide) (fun hc => ?_) (fun hc => ?_)
  · replace h := h.1 hc
    refine lv_bipush (v := (-9)) hx hb dX8_moveTo_15 (by decide) ?_
    rw [hZ]
    exact rt_i () hx hb hr hlocks hw h dX8_moveTo_17
  · replace h := h.2 hc
    refine lv_iload_n hx hb dX8_moveTo_10 rfl (lv_at hl 3 rfl) ?_
    refine lv_iload_n hx hb dX8_moveTo_11 rfl (lv_at hl 0 rfl) ?_
    refine lv_icmp_lt (tgt := 18) hx hb dX8_moveTo_12 (by decide) (fun hc => ?_) (fun hc => ?_)
    · replace h := h.1 hc
      refine lv_iload_n hx hb dX8_moveTo_18 rfl (lv_at hl 2 rfl) ?_
      refine lv_istore (lv' := [(4, .int x1), (3, .int r2), (0, .ref (ad 8)), (1, .int x1), (2, .int x2)]) hx hb dX8_moveTo_19 hl (by decide) rfl (fun ls hl => ?_)
      refine lv_iload_n hx hb dX8_moveTo_21 rfl (lv_at hl 1 rfl) ?_
      refine lv_iconst (v := 1) hx hb dX8_moveTo_22 (by decide) ?_
      refine lv_isub hx hb dX8_moveTo_23 ?_
      refine lv_istore (lv' := [(5, .int (r2 - (1 : Int32))), (4, .int x1), (3, .int r2), (0, .ref (ad 8)), (1, .int x1), (2, .int x2)]) hx hb dX8_moveTo_24 hl (by decide) rfl (fun ls hl => ?_)
      obtain ⟨n26, h⟩ := h
      exact J26  n26 _ _ _ h _ _ _ hw (lv_sub hl [3, 5, 1, 0] rfl)
    · replace h := h.2 hc
      refine lv_bipush (v := (-9)) hx hb dX8_moveTo_15 (by decide) ?_
      rw [hZ]
      exact rt_i () hx hb hr hlocks hw h dX8_moveTo_17
def rm_th_moveOf : Room := { frames := 5, cells := 0, slots := 0, locals := 121 }
set_option maxHeartbeats 4000000 in
set_option maxRecDepth 100000 in
theorem c_th_moveOf {l : Launch} {D : va_G} {cI cL cZ : ClassId} {mx my : Nat} {A : Nat → Prop} {ad : Nat → Nat} {ga_sightings th_unseen th_goals tr_visited : Nat → Int64} {ga_bestShifts gr_kinds gr_before gr_columns gr_rows pi_cells pi_facings pi_sets po_needs ro_cells ro_lengths ro_shifts tr_marks wh_places : Nat → Int32} {ga_commonLength gr_width gr_height gr_size pi_size si_sightLaw si_sightRange th_commonLength tr_size : Int32} {ga_allTimes gr_floorCells gr_clearCells gr_standCells gr_firstColumn gr_lastColumn : Int64} (x1 : Int32) (x2 : Int32) (x3 : Int32) (x4 : Int32) {Q : Int32 → (Nat → Int32) → (Nat → Int64) → Int32 → Prop} (h : P_th_moveOf gr_width gr_height gr_columns gr_rows gr_standCells th_unseen th_commonLength tr_marks tr_visited tr_size x1 x2 x3 x4 Q) : Met l yX6_moveOf wsX6_moveOf rm_th_moveOf (va_Pc [.ref (ad 6), .int x1, .int x2, .int x3, .int x4] (WC D cI cL cZ mx my A (wdC cI cL cZ ad ga_sightings ga_bestShifts ga_commonLength ga_allTimes gr_width gr_height gr_size gr_kinds gr_before gr_columns gr_rows gr_floorCells gr_clearCells gr_standCells gr_firstColumn gr_lastColumn pi_cells pi_facings pi_sets pi_size po_needs ro_cells ro_lengths ro_shifts si_sightLaw si_sightRange th_unseen th_goals th_commonLength tr_marks tr_visited tr_size wh_places))) (va_Qi (fun (r : Int32) (u : (Nat → Int32) × (Nat → Int64) × Int32) => Q r u.1 u.2.1 u.2.2) (fun (u : (Nat → Int32) × (Nat → Int64) × Int32) t => PW D A (wdC cI cL cZ ad ga_sightings ga_bestShifts ga_commonLength ga_allTimes gr_width gr_height gr_size gr_kinds gr_before gr_columns gr_rows gr_floorCells gr_clearCells gr_standCells gr_firstColumn gr_lastColumn pi_cells pi_facings pi_sets pi_size po_needs ro_cells ro_lengths ro_shifts si_sightLaw si_sightRange th_unseen th_goals th_commonLength u.1 u.2.1 u.2.2 wh_places) t.heap) A) 0 0 A := by
  refine Met.ofW (cc := cX6_moveOf) (maxL := 5) (ret := (some .int)) (by decide) rfl ?_
  intro p e s m args below meth c s₁ B hml hv
  obtain ⟨hav, hP0, hD0, hK⟩ := hv
  have hx := B.exec
  have hb := B.bytes
  have hr := B.returns
  have hts := atoms_spec (ws := wsX6_moveOf) B.pre
  have hown : s.vm.findClass RX6 = some m.cls := findClass_of_methodNamed B.named
  have hlocks := B.notSynchronized
  have hB : ∀ w ∈ BIG, w ∈ wsX6_moveOf := fun _ h => List.mem_cons_of_mem _ h
  have hin : ∀ w ∈ wsX60, w ∈ wsX6_moveOf := fun w h => hB w (inB_X6 w h)
  have lk30 := hts _ (hB _ m_281)
  obtain ⟨Z, hZ⟩ : ∃ Z : State → Prop, Z = MQ below (va_Qi (fun (r : Int32) (u : (Nat → Int32) × (Nat → Int64) × Int32) => Q r u.1 u.2.1 u.2.2) (fun (u : (Nat → Int32) × (Nat → Int64) × Int32) t => PW D A (wdC cI cL cZ ad ga_sightings ga_bestShifts ga_commonLength ga_allTimes gr_width gr_height gr_size gr_kinds gr_before gr_columns gr_rows gr_floorCells gr_clearCells gr_standCells gr_firstColumn gr_lastColumn pi_cells pi_facings pi_sets pi_size po_needs ro_cells ro_lengths ro_shifts si_sightLaw si_sightRange th_unseen th_goals th_commonLength u.1 u.2.1 u.2.2 wh_places) t.heap) A) args s 0 0 A := ⟨_, rfl⟩
  rw [← hZ]
  have hw : SW D A s.heap (wdC cI cL cZ ad ga_sightings ga_bestShifts ga_commonLength ga_allTimes gr_width gr_height gr_size gr_kinds gr_before gr_columns gr_rows gr_floorCells gr_clearCells gr_standCells gr_firstColumn gr_lastColumn pi_cells pi_facings pi_sets pi_size po_needs ro_cells ro_lengths ro_shifts si_sightLaw si_sightRange th_unseen th_goals th_commonLength tr_marks tr_visited tr_size wh_places) s.heap [] := ⟨hP0, hD0, va_S.rf⟩
  clear hP0 hD0 B
  unfold P_th_moveOf at h
  have he : entryFrame m args 5 = entryFrame m ([.ref (ad 6), .int x1, .int x2, .int x3, .int x4] : List Value).toArray 5 := by rw [hav]
  refine W.eq he ?_
  have hl := lv_entry ([.ref (ad 6), .int x1, .int x2, .int x3, .int x4]) (n := 5) (Nat.le_of_ble_eq_true rfl)
  rw [lg_entry_eq]
  generalize (lg_sl ([.ref (ad 6), .int x1, .int x2, .int x3, .int x4]) ++ List.replicate (5 - (lg_sl ([.ref (ad 6), .int x1, .int x2, .int x3, .int x4])).length) Slot.unset).toArray = ls at hl ⊢
  have hl : lv_has ls 5 [(0, .ref (ad 6)), (1, .int x1), (2, .int x2), (3, .int x3), (4, .int x4)] := hl
  refine lv_aload_n hx hb dX6_moveOf_0 rfl (lv_at hl 0 rfl) ?_
  refine gC_th_trail hx hb hts hin hown hK hw lk30 dX6_moveOf_1 ?_
  refine lv_aload_n hx hb dX6_moveOf_4 rfl (lv_at hl 0 rfl) ?_
  refine lv_iload_n hx hb dX6_moveOf_5 rfl (lv_at hl 1 rfl) ?_
  refine lv_iload_n hx hb dX6_moveOf_6 rfl (lv_at hl 2 rfl) ?_
  refine lv_iload_n hx hb dX6_moveOf_7 rfl (lv_at hl 3 rfl) ?_
  refine cV_i (b := (ad 6)) (As := [.int x1, .int x2, .int x3]) (rest := [.ref (ad 8)]) ⟨hx, hb, hml, hown, hts⟩ hK hw (c_th_search x1 x2 x3 h) (cwV 3 hts (gd_RX6_79 hB) rfl rfl rfl (by decide +kernel) ⟨Nat.le_of_ble_eq_true rfl, Nat.le_of_ble_eq_true rfl⟩) (rC_th hK hw) hl.1 ⟨Nat.zero_le _, Nat.zero_le _⟩ rfl rfl (Nat.le_of_ble_eq_true rfl) dX6_moveOf_8 (fun r8 u8 H locs h hw => ?_)
  obtain ⟨tr_marks_8, tr_visited_8, tr_size_8⟩ := u8
  refine lv_iload hx hb dX6_moveOf_11 (lv_at hl 4 rfl) ?_
  refine cV_i (b := (ad 8)) (As := [.int r8, .int x4]) (rest := []) ⟨hx, hb, hml, hown, hts⟩ hK hw (c_tr_moveTo r8 x4 h) (cwV 2 hts (gd_RX6_88 hB) rfl rfl rfl (by decide +kernel) ⟨Nat.le_of_ble_eq_true rfl, Nat.le_of_ble_eq_true rfl⟩) (rC_tr hK hw) hl.1 ⟨Nat.zero_le _, Nat.zero_le _⟩ rfl rfl (Nat.le_of_ble_eq_true rfl) dX6_moveOf_13 (fun r13 _ H locs h hw => ?_)
  rw [hZ]
  exact rt_i (tr_marks_8, tr_visited_8, tr_size_8) hx hb hr hlocks hw h dX6_moveOf_16
def rm_th_leadBack : Room := { frames := 1, cells := 0, slots := 0, locals := 24 }
set_option maxHeartbeats 4000000 in
set_option maxRecDepth 100000 in
theorem c_th_leadBack {l : Launch} {D : va_G} {cI cL cZ : ClassId} {mx my : Nat} {A : Nat → Prop} {ad : Nat → Nat} {ga_sightings th_unseen th_goals tr_visited : Nat → Int64} {ga_bestShifts gr_kinds gr_before gr_columns gr_rows pi_cells pi_facings pi_sets po_needs ro_cells ro_lengths ro_shifts tr_marks wh_places : Nat → Int32} {ga_commonLength gr_width gr_height gr_size pi_size si_sightLaw si_sightRange th_commonLength tr_size : Int32} {ga_allTimes gr_floorCells gr_clearCells gr_standCells gr_firstColumn gr_lastColumn : Int64}  {Q : (Nat → Int64) → Prop} (h : P_th_leadBack gr_width gr_standCells gr_firstColumn gr_lastColumn th_unseen th_goals th_commonLength Q) : Met l yX6_leadBack wsX6_leadBack rm_th_leadBack (va_Pc [.ref (ad 6)] (WC D cI cL cZ mx my A (wdC cI cL cZ ad ga_sightings ga_bestShifts ga_commonLength ga_allTimes gr_width gr_height gr_size gr_kinds gr_before gr_columns gr_rows gr_floorCells gr_clearCells gr_standCells gr_firstColumn gr_lastColumn pi_cells pi_facings pi_sets pi_size po_needs ro_cells ro_lengths ro_shifts si_sightLaw si_sightRange th_unseen th_goals th_commonLength tr_marks tr_visited tr_size wh_places))) (va_Qv (fun (u : (Nat → Int64)) => Q u) (fun (u : (Nat → Int64)) t => PW D A (wdC cI cL cZ ad ga_sightings ga_bestShifts ga_commonLength ga_allTimes gr_width gr_height gr_size gr_kinds gr_before gr_columns gr_rows gr_floorCells gr_clearCells gr_standCells gr_firstColumn gr_lastColumn pi_cells pi_facings pi_sets pi_size po_needs ro_cells ro_lengths ro_shifts si_sightLaw si_sightRange th_unseen u th_commonLength tr_marks tr_visited tr_size wh_places) t.heap) A) 0 0 A := by
  refine Met.ofW (cc := cX6_leadBack) (maxL := 6) (ret := none) (by decide) rfl ?_
  intro p e s m args below meth c s₁ B hml hv
  obtain ⟨hav, hP0, hD0, hK⟩ := hv
  have hx := B.exec
  have hb := B.bytes
  have hr := B.returns
  have hts := atoms_spec (ws := wsX6_leadBack) B.pre
  have hown : s.vm.findClass RX6 = some m.cls := findClass_of_methodNamed B.named
  have hlocks := B.notSynchronized
  have hB : ∀ w ∈ BIG, w ∈ wsX6_leadBack := fun _ h => List.mem_cons_of_mem _ h
  have hin : ∀ w ∈ wsX60, w ∈ wsX6_leadBack := fun w h => hB w (inB_X6 w h)
  have lk9 := hts _ (hB _ m_282)
  have lk15 := hts _ (hB _ m_283)
  have lk18 := hts _ (hB _ m_278)
  have lk40 := hts _ (hB _ m_284)
  obtain ⟨Z, hZ⟩ : ∃ Z : State → Prop, Z = MQ below (va_Qv (fun (u : (Nat → Int64)) => Q u) (fun (u : (Nat → Int64)) t => PW D A (wdC cI cL cZ ad ga_sightings ga_bestShifts ga_commonLength ga_allTimes gr_width gr_height gr_size gr_kinds gr_before gr_columns gr_rows gr_floorCells gr_clearCells gr_standCells gr_firstColumn gr_lastColumn pi_cells pi_facings pi_sets pi_size po_needs ro_cells ro_lengths ro_shifts si_sightLaw si_sightRange th_unseen u th_commonLength tr_marks tr_visited tr_size wh_places) t.heap) A) args s 0 0 A := ⟨_, rfl⟩
  rw [← hZ]
  have hw : SW D A s.heap (wdC cI cL cZ ad ga_sightings ga_bestShifts ga_commonLength ga_allTimes gr_width gr_height gr_size gr_kinds gr_before gr_columns gr_rows gr_floorCells gr_clearCells gr_standCells gr_firstColumn gr_lastColumn pi_cells pi_facings pi_sets pi_size po_needs ro_cells ro_lengths ro_shifts si_sightLaw si_sightRange th_unseen th_goals th_commonLength tr_marks tr_visited tr_size wh_places) s.heap [] := ⟨hP0, hD0, va_S.rf⟩
  clear hP0 hD0 B
  have J82 : ∀ (_ : True) (k24 : (Nat → Int64) → Int32 → Int32 → Int32 → Prop) (hk24 : ∀ (th_goals : (Nat → Int64)) (x1 : Int32) (x2 : Int32) (x3 : Int32) , k24 th_goals x1 x2 x3 → ∀ (H : Heap) (locs : List Loc) (ls : Array Slot), SW D A s.heap (wdC cI cL cZ ad ga_sightings ga_bestShifts ga_commonLength ga_allTimes gr_width gr_height gr_size gr_kinds gr_before gr_columns gr_rows gr_floorCells gr_clearCells gr_standCells gr_firstColumn gr_lastColumn pi_cells pi_facings pi_sets pi_size po_needs ro_cells ro_lengths ro_shifts si_sightLaw si_sightRange th_unseen th_goals th_commonLength tr_marks tr_visited tr_size wh_places) H locs → lv_has ls 6 [(0, .ref (ad 6)), (1, .int x1), (2, .int x2), (3, .int x3)] → W p l e (headSpec wsX6_leadBack rm_th_leadBack).room s m args below meth c H locs 0 0 Z (F0 m 24 ls [])) (th_goals : (Nat → Int64)) (x2 : Int32) (x3 : Int32) (x4 : Int64) (y0 : Int32) , B_th_leadBack_82 gr_width gr_standCells gr_firstColumn gr_lastColumn th_unseen th_commonLength Q k24 th_goals x2 x3 x4 y0 → ∀ (H : Heap) (locs : List Loc) (ls : Array Slot), SW D A s.heap (wdC cI cL cZ ad ga_sightings ga_bestShifts ga_commonLength ga_allTimes gr_width gr_height gr_size gr_kinds gr_before gr_columns gr_rows gr_floorCells gr_clearCells gr_standCells gr_firstColumn gr_lastColumn pi_cells pi_facings pi_sets pi_size po_needs ro_cells ro_lengths ro_shifts si_sightLaw si_sightRange th_unseen th_goals th_commonLength tr_marks tr_visited tr_size wh_places) H locs → lv_has ls 6 [(0, .ref (ad 6)), (2, .int x2), (3, .int x3), (4, .long x4)] → W p l e (headSpec wsX6_leadBack rm_th_leadBack).room s m args below meth c H locs 0 0 Z (F0 m 82 ls [.int y0]) := by
    intro _ k24 hk24 th_goals x2 x3 x4 y0 h H locs ls hw hl
    unfold B_th_leadBack_82 at h
    refine lv_istore_n (lv' := [(1, .int y0), (0, .ref (ad 6)), (2, .int x2), (3, .int x3), (4, .long x4)]) hx hb dX6_leadBack_82 rfl hl (by decide) rfl (fun ls hl => ?_)
    refine lv_aload_n hx hb dX6_leadBack_83 rfl (lv_at hl 1 rfl) ?_
    refine gC_th_goals hx hb hts hin hown hK hw lk15 dX6_leadBack_84 ?_
    refine lv_iload_n hx hb dX6_leadBack_87 rfl (lv_at hl 3 rfl) ?_
    refine lv_lload hx hb dX6_leadBack_88 (lv_at hl 4 rfl) ?_
    refine tC_th_goals hx hb hK hw h.1 dX6_leadBack_90 (fun H locs hw => ?_)
    replace h := h.2
    refine lv_iinc (v := (x3 + (-1 : Int32))) (lv' := [(3, .int (x3 + (-1 : Int32))), (1, .int y0), (0, .ref (ad 6)), (2, .int x2), (4, .long x4)]) hx hb dX6_leadBack_91 hl (k := 3) rfl rfl (by decide) rfl (fun ls hl => ?_)
    refine lv_goto (tgt := 24) hx hb dX6_leadBack_94 (by decide) ?_
    exact hk24 _ _ _ _ h _ _ _ hw (lv_sub hl [2, 1, 3, 0] rfl)
  have J24 : ∀ (k4 : (Nat → Int64) → Int32 → Int32 → Prop) (hk4 : ∀ (th_goals : (Nat → Int64)) (x1 : Int32) (x2 : Int32) , k4 th_goals x1 x2 → ∀ (H : Heap) (locs : List Loc) (ls : Array Slot), SW D A s.heap (wdC cI cL cZ ad ga_sightings ga_bestShifts ga_commonLength ga_allTimes gr_width gr_height gr_size gr_kinds gr_before gr_columns gr_rows gr_floorCells gr_clearCells gr_standCells gr_firstColumn gr_lastColumn pi_cells pi_facings pi_sets pi_size po_needs ro_cells ro_lengths ro_shifts si_sightLaw si_sightRange th_unseen th_goals th_commonLength tr_marks tr_visited tr_size wh_places) H locs → lv_has ls 6 [(0, .ref (ad 6)), (1, .int x1), (2, .int x2)] → W p l e (headSpec wsX6_leadBack rm_th_leadBack).room s m args below meth c H locs 0 0 Z (F0 m 4 ls [])) (n : Nat) (th_goals : (Nat → Int64)) (x1 : Int32) (x2 : Int32) (x3 : Int32) , L_th_leadBack_24 gr_width gr_standCells gr_firstColumn gr_lastColumn th_unseen th_commonLength Q k4 n th_goals x1 x2 x3 → ∀ (H : Heap) (locs : List Loc) (ls : Array Slot), SW D A s.heap (wdC cI cL cZ ad ga_sightings ga_bestShifts ga_commonLength ga_allTimes gr_width gr_height gr_size gr_kinds gr_before gr_columns gr_rows gr_floorCells gr_clearCells gr_standCells gr_firstColumn gr_lastColumn pi_cells pi_facings pi_sets pi_size po_needs ro_cells ro_lengths ro_shifts si_sightLaw si_sightRange th_unseen th_goals th_commonLength tr_marks tr_visited tr_size wh_places) H locs → lv_has ls 6 [(0, .ref (ad 6)), (1, .int x1), (2, .int x2), (3, .int x3)] → W p l e (headSpec wsX6_leadBack rm_th_leadBack).room s m args below meth c H locs 0 0 Z (F0 m 24 ls []) := by
    intro k4 hk4 n
    induction n with
    | zero => intro th_goals x1 x2 x3 h; exact h.elim
    | succ n ih =>
    intro th_goals x1 x2 x3 h H locs ls hw hl
    unfold L_th_leadBack_24 at h
    refine lv_iload_n hx hb dX6_leadBack_24 rfl (lv_at hl 3 rfl) ?_
    refine lv_if_lt (tgt := 97) hx hb dX6_leadBack_25 (by decide) (fun hc => ?_) (fun hc => ?_)
    · replace h := h.1 hc
      refine lv_iinc (v := (x2 + (1 : Int32))) (lv' := [(2, .int (x2 + (1 : Int32))), (0, .ref (ad 6)), (1, .int x1), (3, .int x3)]) hx hb dX6_leadBack_97 hl (k := 2) rfl rfl (by decide) rfl (fun ls hl => ?_)
      refine lv_goto (tgt := 4) hx hb dX6_leadBack_100 (by decide) ?_
      exact hk4 _ _ _ h _ _ _ hw (lv_sub hl [1, 2, 0] rfl)
    · replace h := h.2 hc
      refine lv_aload_n hx hb dX6_leadBack_28 rfl (lv_at hl 0 rfl) ?_
      refine gC_th_goals hx hb hts hin hown hK hw lk15 dX6_leadBack_29 ?_
      refine lv_iload_n hx hb dX6_leadBack_32 rfl (lv_at hl 3 rfl) ?_
      refine aC_th_goals hx hb hK hw h.1 dX6_leadBack_33 ?_
      replace h := h.2
      refine lv_aload_n hx hb dX6_leadBack_34 rfl (lv_at hl 0 rfl) ?_
      refine gC_th_unseen hx hb hts hin hown hK hw lk9 dX6_leadBack_35 ?_
      refine lv_iload_n hx hb dX6_leadBack_38 rfl (lv_at hl 3 rfl) ?_
      refine aC_th_unseen hx hb hK hw h.1 dX6_leadBack_39 ?_
      replace h := h.2
      refine lv_aload_n hx hb dX6_leadBack_40 rfl (lv_at hl 0 rfl) ?_
      refine gC_th_grid hx hb hts hin hown hK hw lk18 dX6_leadBack_41 ?_
      refine lv_aload_n hx hb dX6_leadBack_44 rfl (lv_at hl 0 rfl) ?_
      refine gC_th_goals hx hb hts hin hown hK hw lk15 dX6_leadBack_45 ?_
      refine lv_aload_n hx hb dX6_leadBack_48 rfl (lv_at hl 0 rfl) ?_
      refine lv_iload_n hx hb dX6_leadBack_49 rfl (lv_at hl 3 rfl) ?_
      refine cV_i (b := (ad 6)) (As := [.int x3]) (rest := [.ref (ad 24), .ref (ad 1), .long (th_unseen x3.toNatClampNeg), .long (th_goals x3.toNatClampNeg)]) ⟨hx, hb, hml, hown, hts⟩ hK hw (c_th_after x3 h) (cwV 1 hts (gd_RX6_118 hB) rfl rfl rfl (by decide +kernel) ⟨Nat.le_of_ble_eq_true rfl, Nat.le_of_ble_eq_true rfl⟩) (rC_th hK hw) hl.1 ⟨Nat.zero_le _, Nat.zero_le _⟩ rfl rfl (Nat.le_of_ble_eq_true rfl) dX6_leadBack_50 (fun r50 _ H locs h hw => ?_)
      refine aC_th_goals hx hb hK hw h.1 dX6_leadBack_53 ?_
      replace h := h.2
      refine cV_l (b := (ad 1)) (As := [.long (th_goals r50.toNatClampNeg)]) (rest := [.long (th_unseen x3.toNatClampNeg), .long (th_goals x3.toNatClampNeg)]) ⟨hx, hb, hml, hown, hts⟩ hK hw (c_gr_spread (th_goals r50.toNatClampNeg) h) (cwV 1 hts (gd_RX6_135 hB) rfl rfl rfl (by decide +kernel) ⟨Nat.le_of_ble_eq_true rfl, Nat.le_of_ble_eq_true rfl⟩) (rC_gr hK hw) hl.1 ⟨Nat.zero_le _, Nat.zero_le _⟩ rfl rfl (Nat.le_of_ble_eq_true rfl) dX6_leadBack_54 (fun r54 _ H locs h hw => ?_)
      refine lv_land hx hb dX6_leadBack_57 ?_
      refine lv_lor hx hb dX6_leadBack_58 ?_
      refine lv_topl (fun x4_59 ex4_59 => ?_)
      replace h := h x4_59 ex4_59
      refine lv_lstore (lv' := [(4, .long x4_59), (0, .ref (ad 6)), (1, .int x1), (2, .int x2), (3, .int x3)]) hx hb dX6_leadBack_59 hl (by decide) rfl (fun ls hl => ?_)
      refine lv_iload_n hx hb dX6_leadBack_61 rfl (lv_at hl 2 rfl) ?_
      refine lv_if_ne (tgt := 77) hx hb dX6_leadBack_62 (by decide) (fun hc => ?_) (fun hc => ?_)
      · replace h := h.2 hc
        refine lv_iconst (v := 1) hx hb dX6_leadBack_77 (by decide) ?_
        refine lv_goto (tgt := 82) hx hb dX6_leadBack_78 (by decide) ?_
        exact J82 trivial (L_th_leadBack_24 gr_width gr_standCells gr_firstColumn gr_lastColumn th_unseen th_commonLength Q k4 n) ih _ _ _ _ _ h _ _ _ hw (lv_sub hl [1, 3, 4, 0] rfl)
      · replace h := h.1 hc
        refine lv_lload hx hb dX6_leadBack_65 (lv_at hl 0 rfl) ?_
        refine lv_aload_n hx hb dX6_leadBack_67 rfl (lv_at hl 1 rfl) ?_
        refine gC_th_goals hx hb hts hin hown hK hw lk15 dX6_leadBack_68 ?_
        refine lv_iload_n hx hb dX6_leadBack_71 rfl (lv_at hl 4 rfl) ?_
        refine aC_th_goals hx hb hK hw h.1 dX6_leadBack_72 ?_
        replace h := h.2
        refine W.lcmp hx hb dX6_leadBack_73 ?_
        refine lv_if_eq (tgt := 81) hx hb dX6_leadBack_74 (by decide) (fun hc => ?_) (fun hc => ?_)
        · replace h := h.1 hc
          refine lv_iconst (v := 0) hx hb dX6_leadBack_81 (by decide) ?_
          exact J82 trivial (L_th_leadBack_24 gr_width gr_standCells gr_firstColumn gr_lastColumn th_unseen th_commonLength Q k4 n) ih _ _ _ _ _ h _ _ _ hw (lv_sub hl [1, 3, 4, 0] rfl)
        · replace h := h.2 hc
          refine lv_iconst (v := 1) hx hb dX6_leadBack_77 (by decide) ?_
          refine lv_goto (tgt := 82) hx hb dX6_leadBack_78 (by decide) ?_
          exact J82 trivial (L_th_leadBack_24 gr_width gr_standCells gr_firstColumn gr_lastColumn th_unseen th_commonLength Q k4 n) ih _ _ _ _ _ h _ _ _ hw (lv_sub hl [1, 3, 4, 0] rfl)
  have J4 : ∀ (n : Nat) (th_goals : (Nat → Int64)) (x1 : Int32) (x2 : Int32) , L_th_leadBack_4 gr_width gr_standCells gr_firstColumn gr_lastColumn th_unseen th_commonLength Q n th_goals x1 x2 → ∀ (H : Heap) (locs : List Loc) (ls : Array Slot), SW D A s.heap (wdC cI cL cZ ad ga_sightings ga_bestShifts ga_commonLength ga_allTimes gr_width gr_height gr_size gr_kinds gr_before gr_columns gr_rows gr_floorCells gr_clearCells gr_standCells gr_firstColumn gr_lastColumn pi_cells pi_facings pi_sets pi_size po_needs ro_cells ro_lengths ro_shifts si_sightLaw si_sightRange th_unseen th_goals th_commonLength tr_marks tr_visited tr_size wh_places) H locs → lv_has ls 6 [(0, .ref (ad 6)), (1, .int x1), (2, .int x2)] → W p l e (headSpec wsX6_leadBack rm_th_leadBack).room s m args below meth c H locs 0 0 Z (F0 m 4 ls []) := by
    intro  n
    induction n with
    | zero => intro th_goals x1 x2 h; exact h.elim
    | succ n ih =>
    intro th_goals x1 x2 h H locs ls hw hl
    unfold L_th_leadBack_4 at h
    refine lv_iload_n hx hb dX6_leadBack_4 rfl (lv_at hl 1 rfl) ?_
    refine lv_if_eq (tgt := 103) hx hb dX6_leadBack_5 (by decide) (fun hc => ?_) (fun hc => ?_)
    · replace h := h.1 hc
      rw [hZ]
      exact rt_v th_goals hx hb hr hlocks hw h dX6_leadBack_103
    · replace h := h.2 hc
      refine lv_iload_n hx hb dX6_leadBack_8 rfl (lv_at hl 2 rfl) ?_
      refine lv_sipush (v := 3840) hx hb dX6_leadBack_9 (by decide) ?_
      refine lv_icmp_gt (tgt := 103) hx hb dX6_leadBack_12 (by decide) (fun hc => ?_) (fun hc => ?_)
      · replace h := h.1 hc
        rw [hZ]
        exact rt_v th_goals hx hb hr hlocks hw h dX6_leadBack_103
      · replace h := h.2 hc
        refine lv_iconst (v := 0) hx hb dX6_leadBack_15 (by decide) ?_
        refine lv_istore_n (lv' := [(1, .int (0 : Int32)), (0, .ref (ad 6)), (2, .int x2)]) hx hb dX6_leadBack_16 rfl hl (by decide) rfl (fun ls hl => ?_)
        refine lv_aload_n hx hb dX6_leadBack_17 rfl (lv_at hl 1 rfl) ?_
        refine gC_th_commonLength hx hb hts hin hown hK hw lk40 dX6_leadBack_18 ?_
        refine lv_iconst (v := 1) hx hb dX6_leadBack_21 (by decide) ?_
        refine lv_isub hx hb dX6_leadBack_22 ?_
        refine lv_istore_n (lv' := [(3, .int (th_commonLength - (1 : Int32))), (1, .int (0 : Int32)), (0, .ref (ad 6)), (2, .int x2)]) hx hb dX6_leadBack_23 rfl hl (by decide) rfl (fun ls hl => ?_)
        obtain ⟨n24, h⟩ := h
        exact J24 (L_th_leadBack_4 gr_width gr_standCells gr_firstColumn gr_lastColumn th_unseen th_commonLength Q n) ih n24 _ _ _ _ h _ _ _ hw (lv_sub hl [2, 1, 3, 0] rfl)
  unfold P_th_leadBack at h
  have he : entryFrame m args 6 = entryFrame m ([.ref (ad 6)] : List Value).toArray 6 := by rw [hav]
  refine W.eq he ?_
  have hl := lv_entry ([.ref (ad 6)]) (n := 6) (Nat.le_of_ble_eq_true rfl)
  rw [lg_entry_eq]
  generalize (lg_sl ([.ref (ad 6)]) ++ List.replicate (6 - (lg_sl ([.ref (ad 6)])).length) Slot.unset).toArray = ls at hl ⊢
  have hl : lv_has ls 6 [(0, .ref (ad 6))] := hl
  refine lv_iconst (v := 1) hx hb dX6_leadBack_0 (by decide) ?_
  refine lv_istore_n (lv' := [(1, .int (1 : Int32)), (0, .ref (ad 6))]) hx hb dX6_leadBack_1 rfl hl (by decide) rfl (fun ls hl => ?_)
  refine lv_iconst (v := 0) hx hb dX6_leadBack_2 (by decide) ?_
  refine lv_istore_n (lv' := [(2, .int (0 : Int32)), (1, .int (1 : Int32)), (0, .ref (ad 6))]) hx hb dX6_leadBack_3 rfl hl (by decide) rfl (fun ls hl => ?_)
  obtain ⟨n4, h⟩ := h
  exact J4  n4 _ _ _ h _ _ _ hw (lv_sub hl [2, 1, 0] rfl)
def rm_th_narrowTo : Room := { frames := 0, cells := 0, slots := 0, locals := 0 }
set_option maxHeartbeats 4000000 in
set_option maxRecDepth 100000 in
theorem c_th_narrowTo {l : Launch} {D : va_G} {cI cL cZ : ClassId} {mx my : Nat} {A : Nat → Prop} {ad : Nat → Nat} {ga_sightings th_unseen th_goals tr_visited : Nat → Int64} {ga_bestShifts gr_kinds gr_before gr_columns gr_rows pi_cells pi_facings pi_sets po_needs ro_cells ro_lengths ro_shifts tr_marks wh_places : Nat → Int32} {ga_commonLength gr_width gr_height gr_size pi_size si_sightLaw si_sightRange th_commonLength tr_size : Int32} {ga_allTimes gr_floorCells gr_clearCells gr_standCells gr_firstColumn gr_lastColumn : Int64} (x1 : Int32) (x2 : Int32) {Q : (Nat → Int64) → Prop} (h : P_th_narrowTo th_unseen th_goals th_commonLength x1 x2 Q) : Met l yX6_narrowTo wsX6_narrowTo rm_th_narrowTo (va_Pc [.ref (ad 6), .int x1, .int x2] (WC D cI cL cZ mx my A (wdC cI cL cZ ad ga_sightings ga_bestShifts ga_commonLength ga_allTimes gr_width gr_height gr_size gr_kinds gr_before gr_columns gr_rows gr_floorCells gr_clearCells gr_standCells gr_firstColumn gr_lastColumn pi_cells pi_facings pi_sets pi_size po_needs ro_cells ro_lengths ro_shifts si_sightLaw si_sightRange th_unseen th_goals th_commonLength tr_marks tr_visited tr_size wh_places))) (va_Qv (fun (u : (Nat → Int64)) => Q u) (fun (u : (Nat → Int64)) t => PW D A (wdC cI cL cZ ad ga_sightings ga_bestShifts ga_commonLength ga_allTimes gr_width gr_height gr_size gr_kinds gr_before gr_columns gr_rows gr_floorCells gr_clearCells gr_standCells gr_firstColumn gr_lastColumn pi_cells pi_facings pi_sets pi_size po_needs ro_cells ro_lengths ro_shifts si_sightLaw si_sightRange th_unseen u th_commonLength tr_marks tr_visited tr_size wh_places) t.heap) A) 0 0 A := by
  refine Met.ofW (cc := cX6_narrowTo) (maxL := 4) (ret := none) (by decide) rfl ?_
  intro p e s m args below meth c s₁ B hml hv
  obtain ⟨hav, hP0, hD0, hK⟩ := hv
  have hx := B.exec
  have hb := B.bytes
  have hr := B.returns
  have hts := atoms_spec (ws := wsX6_narrowTo) B.pre
  have hown : s.vm.findClass RX6 = some m.cls := findClass_of_methodNamed B.named
  have hlocks := B.notSynchronized
  have hB : ∀ w ∈ BIG, w ∈ wsX6_narrowTo := fun _ h => List.mem_cons_of_mem _ h
  have hin : ∀ w ∈ wsX60, w ∈ wsX6_narrowTo := fun w h => hB w (inB_X6 w h)
  have lk9 := hts _ (hB _ m_282)
  have lk15 := hts _ (hB _ m_283)
  have lk40 := hts _ (hB _ m_284)
  obtain ⟨Z, hZ⟩ : ∃ Z : State → Prop, Z = MQ below (va_Qv (fun (u : (Nat → Int64)) => Q u) (fun (u : (Nat → Int64)) t => PW D A (wdC cI cL cZ ad ga_sightings ga_bestShifts ga_commonLength ga_allTimes gr_width gr_height gr_size gr_kinds gr_before gr_columns gr_rows gr_floorCells gr_clearCells gr_standCells gr_firstColumn gr_lastColumn pi_cells pi_facings pi_sets pi_size po_needs ro_cells ro_lengths ro_shifts si_sightLaw si_sightRange th_unseen u th_commonLength tr_marks tr_visited tr_size wh_places) t.heap) A) args s 0 0 A := ⟨_, rfl⟩
  rw [← hZ]
  have hw : SW D A s.heap (wdC cI cL cZ ad ga_sightings ga_bestShifts ga_commonLength ga_allTimes gr_width gr_height gr_size gr_kinds gr_before gr_columns gr_rows gr_floorCells gr_clearCells gr_standCells gr_firstColumn gr_lastColumn pi_cells pi_facings pi_sets pi_size po_needs ro_cells ro_lengths ro_shifts si_sightLaw si_sightRange th_unseen th_goals th_commonLength tr_marks tr_visited tr_size wh_places) s.heap [] := ⟨hP0, hD0, va_S.rf⟩
  clear hP0 hD0 B
  have J34 : ∀ (_ : True) (k2 : (Nat → Int64) → Int32 → Int32 → Int32 → Prop) (hk2 : ∀ (th_goals : (Nat → Int64)) (x1 : Int32) (x2 : Int32) (x3 : Int32) , k2 th_goals x1 x2 x3 → ∀ (H : Heap) (locs : List Loc) (ls : Array Slot), SW D A s.heap (wdC cI cL cZ ad ga_sightings ga_bestShifts ga_commonLength ga_allTimes gr_width gr_height gr_size gr_kinds gr_before gr_columns gr_rows gr_floorCells gr_clearCells gr_standCells gr_firstColumn gr_lastColumn pi_cells pi_facings pi_sets pi_size po_needs ro_cells ro_lengths ro_shifts si_sightLaw si_sightRange th_unseen th_goals th_commonLength tr_marks tr_visited tr_size wh_places) H locs → lv_has ls 4 [(0, .ref (ad 6)), (1, .int x1), (2, .int x2), (3, .int x3)] → W p l e (headSpec wsX6_narrowTo rm_th_narrowTo).room s m args below meth c H locs 0 0 Z (F0 m 2 ls [])) (th_goals : (Nat → Int64)) (x1 : Int32) (x2 : Int32) (x3 : Int32) (y1 : Int32) (y2 : Int64) , B_th_narrowTo_34 th_unseen th_commonLength Q k2 th_goals x1 x2 x3 y1 y2 → ∀ (H : Heap) (locs : List Loc) (ls : Array Slot), SW D A s.heap (wdC cI cL cZ ad ga_sightings ga_bestShifts ga_commonLength ga_allTimes gr_width gr_height gr_size gr_kinds gr_before gr_columns gr_rows gr_floorCells gr_clearCells gr_standCells gr_firstColumn gr_lastColumn pi_cells pi_facings pi_sets pi_size po_needs ro_cells ro_lengths ro_shifts si_sightLaw si_sightRange th_unseen th_goals th_commonLength tr_marks tr_visited tr_size wh_places) H locs → lv_has ls 4 [(0, .ref (ad 6)), (1, .int x1), (2, .int x2), (3, .int x3)] → W p l e (headSpec wsX6_narrowTo rm_th_narrowTo).room s m args below meth c H locs 0 0 Z (F0 m 34 ls [.long y2, .int y1, .ref (ad 24)]) := by
    intro _ k2 hk2 th_goals x1 x2 x3 y1 y2 h H locs ls hw hl
    unfold B_th_narrowTo_34 at h
    refine lv_lconst (v := 1) hx hb dX6_narrowTo_34 (by decide) ?_
    refine lv_iload_n hx hb dX6_narrowTo_35 rfl (lv_at hl 1 rfl) ?_
    refine lv_lshl hx hb dX6_narrowTo_36 rfl ?_
    refine lv_land hx hb dX6_narrowTo_37 ?_
    refine tC_th_goals hx hb hK hw h.1 dX6_narrowTo_38 (fun H locs hw => ?_)
    replace h := h.2
    refine lv_iinc (v := (x3 + (1 : Int32))) (lv' := [(3, .int (x3 + (1 : Int32))), (0, .ref (ad 6)), (1, .int x1), (2, .int x2)]) hx hb dX6_narrowTo_39 hl (k := 3) rfl rfl (by decide) rfl (fun ls hl => ?_)
    refine lv_goto (tgt := 2) hx hb dX6_narrowTo_42 (by decide) ?_
    exact hk2 _ _ _ _ h _ _ _ hw (lv_sub hl [1, 2, 3, 0] rfl)
  have J2 : ∀ (n : Nat) (th_goals : (Nat → Int64)) (x1 : Int32) (x2 : Int32) (x3 : Int32) , L_th_narrowTo_2 th_unseen th_commonLength Q n th_goals x1 x2 x3 → ∀ (H : Heap) (locs : List Loc) (ls : Array Slot), SW D A s.heap (wdC cI cL cZ ad ga_sightings ga_bestShifts ga_commonLength ga_allTimes gr_width gr_height gr_size gr_kinds gr_before gr_columns gr_rows gr_floorCells gr_clearCells gr_standCells gr_firstColumn gr_lastColumn pi_cells pi_facings pi_sets pi_size po_needs ro_cells ro_lengths ro_shifts si_sightLaw si_sightRange th_unseen th_goals th_commonLength tr_marks tr_visited tr_size wh_places) H locs → lv_has ls 4 [(0, .ref (ad 6)), (1, .int x1), (2, .int x2), (3, .int x3)] → W p l e (headSpec wsX6_narrowTo rm_th_narrowTo).room s m args below meth c H locs 0 0 Z (F0 m 2 ls []) := by
    intro  n
    induction n with
    | zero => intro th_goals x1 x2 x3 h; exact h.elim
    | succ n ih =>
    intro th_goals x1 x2 x3 h H locs ls hw hl
    unfold L_th_narrowTo_2 at h
    refine lv_iload_n hx hb dX6_narrowTo_2 rfl (lv_at hl 3 rfl) ?_
    refine lv_aload_n hx hb dX6_narrowTo_3 rfl (lv_at hl 0 rfl) ?_
    refine gC_th_commonLength hx hb hts hin hown hK hw lk40 dX6_narrowTo_4 ?_
    refine lv_icmp_ge (tgt := 45) hx hb dX6_narrowTo_7 (by decide) (fun hc => ?_) (fun hc => ?_)
    · replace h := h.1 hc
      rw [hZ]
      exact rt_v th_goals hx hb hr hlocks hw h dX6_narrowTo_45
    · replace h := h.2 hc
      refine lv_aload_n hx hb dX6_narrowTo_10 rfl (lv_at hl 0 rfl) ?_
      refine gC_th_goals hx hb hts hin hown hK hw lk15 dX6_narrowTo_11 ?_
      refine lv_iload_n hx hb dX6_narrowTo_14 rfl (lv_at hl 3 rfl) ?_
      refine lv_iload_n hx hb dX6_narrowTo_15 rfl (lv_at hl 2 rfl) ?_
      refine lv_if_eq (tgt := 28) hx hb dX6_narrowTo_16 (by decide) (fun hc => ?_) (fun hc => ?_)
      · replace h := h.1 hc
        refine lv_aload_n hx hb dX6_narrowTo_28 rfl (lv_at hl 0 rfl) ?_
        refine gC_th_goals hx hb hts hin hown hK hw lk15 dX6_narrowTo_29 ?_
        refine lv_iload_n hx hb dX6_narrowTo_32 rfl (lv_at hl 3 rfl) ?_
        refine aC_th_goals hx hb hK hw h.1 dX6_narrowTo_33 ?_
        replace h := h.2
        exact J34 trivial (L_th_narrowTo_2 th_unseen th_commonLength Q n) ih _ _ _ _ _ _ h _ _ _ hw (lv_sub hl [0, 1, 2, 3] rfl)
      · replace h := h.2 hc
        refine lv_aload_n hx hb dX6_narrowTo_19 rfl (lv_at hl 0 rfl) ?_
        refine gC_th_unseen hx hb hts hin hown hK hw lk9 dX6_narrowTo_20 ?_
        refine lv_iload_n hx hb dX6_narrowTo_23 rfl (lv_at hl 3 rfl) ?_
        refine aC_th_unseen hx hb hK hw h.1 dX6_narrowTo_24 ?_
        replace h := h.2
        refine lv_goto (tgt := 34) hx hb dX6_narrowTo_25 (by decide) ?_
        exact J34 trivial (L_th_narrowTo_2 th_unseen th_commonLength Q n) ih _ _ _ _ _ _ h _ _ _ hw (lv_sub hl [0, 1, 2, 3] rfl)
  unfold P_th_narrowTo at h
  have he : entryFrame m args 4 = entryFrame m ([.ref (ad 6), .int x1, .int x2] : List Value).toArray 4 := by rw [hav]
  refine W.eq he ?_
  have hl := lv_entry ([.ref (ad 6), .int x1, .int x2]) (n := 4) (Nat.le_of_ble_eq_true rfl)
  rw [lg_entry_eq]
  generalize (lg_sl ([.ref (ad 6), .int x1, .int x2]) ++ List.replicate (4 - (lg_sl ([.ref (ad 6), .int x1, .int x2])).length) Slot.unset).toArray = ls at hl ⊢
  have hl : lv_has ls 4 [(0, .ref (ad 6)), (1, .int x1), (2, .int x2)] := hl
  refine lv_iconst (v := 0) hx hb dX6_narrowTo_0 (by decide) ?_
  refine lv_istore_n (lv' := [(3, .int (0 : Int32)), (0, .ref (ad 6)), (1, .int x1), (2, .int x2)]) hx hb dX6_narrowTo_1 rfl hl (by decide) rfl (fun ls hl => ?_)
  obtain ⟨n2, h⟩ := h
  exact J2  n2 _ _ _ _ h _ _ _ hw (lv_sub hl [1, 2, 3, 0] rfl)
def rm_th_goodHours : Room := { frames := 2, cells := 0, slots := 0, locals := 49 }
set_option maxHeartbeats 4000000 in
set_option maxRecDepth 100000 in
theorem c_th_goodHours {l : Launch} {D : va_G} {cI cL cZ : ClassId} {mx my : Nat} {A : Nat → Prop} {ad : Nat → Nat} {ga_sightings th_unseen th_goals tr_visited : Nat → Int64} {ga_bestShifts gr_kinds gr_before gr_columns gr_rows pi_cells pi_facings pi_sets po_needs ro_cells ro_lengths ro_shifts tr_marks wh_places : Nat → Int32} {ga_commonLength gr_width gr_height gr_size pi_size si_sightLaw si_sightRange th_commonLength tr_size : Int32} {ga_allTimes gr_floorCells gr_clearCells gr_standCells gr_firstColumn gr_lastColumn : Int64} (x1 : Int32) (x2 : Int32) {Q : Int32 → (Nat → Int64) → Prop} (h : P_th_goodHours gr_width gr_standCells gr_firstColumn gr_lastColumn th_unseen th_goals th_commonLength x1 x2 Q) : Met l yX6_goodHours wsX6_goodHours rm_th_goodHours (va_Pc [.ref (ad 6), .int x1, .int x2] (WC D cI cL cZ mx my A (wdC cI cL cZ ad ga_sightings ga_bestShifts ga_commonLength ga_allTimes gr_width gr_height gr_size gr_kinds gr_before gr_columns gr_rows gr_floorCells gr_clearCells gr_standCells gr_firstColumn gr_lastColumn pi_cells pi_facings pi_sets pi_size po_needs ro_cells ro_lengths ro_shifts si_sightLaw si_sightRange th_unseen th_goals th_commonLength tr_marks tr_visited tr_size wh_places))) (va_Qi (fun (r : Int32) (u : (Nat → Int64)) => Q r u) (fun (u : (Nat → Int64)) t => PW D A (wdC cI cL cZ ad ga_sightings ga_bestShifts ga_commonLength ga_allTimes gr_width gr_height gr_size gr_kinds gr_before gr_columns gr_rows gr_floorCells gr_clearCells gr_standCells gr_firstColumn gr_lastColumn pi_cells pi_facings pi_sets pi_size po_needs ro_cells ro_lengths ro_shifts si_sightLaw si_sightRange th_unseen u th_commonLength tr_marks tr_visited tr_size wh_places) t.heap) A) 0 0 A := by
  refine Met.ofW (cc := cX6_goodHours) (maxL := 5) (ret := (some .int)) (by decide) rfl ?_
  intro p e s m args below meth c s₁ B hml hv
  obtain ⟨hav, hP0, hD0, hK⟩ := hv
  have hx := B.exec
  have hb := B.bytes
  have hr := B.returns
  have hts := atoms_spec (ws := wsX6_goodHours) B.pre
  have hown : s.vm.findClass RX6 = some m.cls := findClass_of_methodNamed B.named
  have hlocks := B.notSynchronized
  have hB : ∀ w ∈ BIG, w ∈ wsX6_goodHours := fun _ h => List.mem_cons_of_mem _ h
  have hin : ∀ w ∈ wsX60, w ∈ wsX6_goodHours := fun w h => hB w (inB_X6 w h)
  have lk15 := hts _ (hB _ m_283)
  have lk40 := hts _ (hB _ m_284)
  obtain ⟨Z, hZ⟩ : ∃ Z : State → Prop, Z = MQ below (va_Qi (fun (r : Int32) (u : (Nat → Int64)) => Q r u) (fun (u : (Nat → Int64)) t => PW D A (wdC cI cL cZ ad ga_sightings ga_bestShifts ga_commonLength ga_allTimes gr_width gr_height gr_size gr_kinds gr_before gr_columns gr_rows gr_floorCells gr_clearCells gr_standCells gr_firstColumn gr_lastColumn pi_cells pi_facings pi_sets pi_size po_needs ro_cells ro_lengths ro_shifts si_sightLaw si_sightRange th_unseen u th_commonLength tr_marks tr_visited tr_size wh_places) t.heap) A) args s 0 0 A := ⟨_, rfl⟩
  rw [← hZ]
  have hw : SW D A s.heap (wdC cI cL cZ ad ga_sightings ga_bestShifts ga_commonLength ga_allTimes gr_width gr_height gr_size gr_kinds gr_before gr_columns gr_rows gr_floorCells gr_clearCells gr_standCells gr_firstColumn gr_lastColumn pi_cells pi_facings pi_sets pi_size po_needs ro_cells ro_lengths ro_shifts si_sightLaw si_sightRange th_unseen th_goals th_commonLength tr_marks tr_visited tr_size wh_places) s.heap [] := ⟨hP0, hD0, va_S.rf⟩
  clear hP0 hD0 B
  have J25 : ∀ (n : Nat) (th_goals : (Nat → Int64)) (x2 : Int32) (x3 : Int32) (x4 : Int32) , L_th_goodHours_25 th_commonLength Q n th_goals x2 x3 x4 → ∀ (H : Heap) (locs : List Loc) (ls : Array Slot), SW D A s.heap (wdC cI cL cZ ad ga_sightings ga_bestShifts ga_commonLength ga_allTimes gr_width gr_height gr_size gr_kinds gr_before gr_columns gr_rows gr_floorCells gr_clearCells gr_standCells gr_firstColumn gr_lastColumn pi_cells pi_facings pi_sets pi_size po_needs ro_cells ro_lengths ro_shifts si_sightLaw si_sightRange th_unseen th_goals th_commonLength tr_marks tr_visited tr_size wh_places) H locs → lv_has ls 5 [(0, .ref (ad 6)), (2, .int x2), (3, .int x3), (4, .int x4)] → W p l e (headSpec wsX6_goodHours rm_th_goodHours).room s m args below meth c H locs 0 0 Z (F0 m 25 ls []) := by
    intro  n
    induction n with
    | zero => intro th_goals x2 x3 x4 h; exact h.elim
    | succ n ih =>
    intro th_goals x2 x3 x4 h H locs ls hw hl
    unfold L_th_goodHours_25 at h
    refine lv_iload hx hb dX6_goodHours_25 (lv_at hl 3 rfl) ?_
    refine lv_aload_n hx hb dX6_goodHours_27 rfl (lv_at hl 0 rfl) ?_
    refine gC_th_commonLength hx hb hts hin hown hK hw lk40 dX6_goodHours_28 ?_
    refine lv_icmp_ge (tgt := 62) hx hb dX6_goodHours_31 (by decide) (fun hc => ?_) (fun hc => ?_)
    · replace h := h.1 hc
      refine lv_iload_n hx hb dX6_goodHours_62 rfl (lv_at hl 2 rfl) ?_
      rw [hZ]
      exact rt_i th_goals hx hb hr hlocks hw h dX6_goodHours_63
    · replace h := h.2 hc
      refine lv_iload_n hx hb dX6_goodHours_34 rfl (lv_at hl 2 rfl) ?_
      refine lv_aload_n hx hb dX6_goodHours_35 rfl (lv_at hl 0 rfl) ?_
      refine gC_th_goals hx hb hts hin hown hK hw lk15 dX6_goodHours_36 ?_
      refine lv_iload hx hb dX6_goodHours_39 (lv_at hl 3 rfl) ?_
      refine aC_th_goals hx hb hK hw h.1 dX6_goodHours_41 ?_
      replace h := h.2
      refine lv_iload_n hx hb dX6_goodHours_42 rfl (lv_at hl 1 rfl) ?_
      refine cSN_i (host := "WatchedHalls") (As := [.long (th_goals x4.toNatClampNeg), .int x2]) (rest := [.int x3]) ⟨hx, hb, hml, hown, hts⟩ hK hw (c_wh_holds (th_goals x4.toNatClampNeg) x2 h) ⟨va_cnB 2 hts (gw_X9_holds hB) rfl rfl rfl hK.2.1.2.2.2.2.2.2.2.2 (hts _ (hB _ m_59)) (by decide +kernel) ⟨Nat.le_of_ble_eq_true rfl, Nat.le_of_ble_eq_true rfl⟩, hts _ (hB _ m_394), trivial⟩ hl.1 ⟨Nat.zero_le _, Nat.zero_le _⟩ rfl rfl (Nat.le_of_ble_eq_true rfl) dX6_goodHours_43 (fun r43 _ H locs h hw => ?_)
      refine lv_if_eq (tgt := 53) hx hb dX6_goodHours_46 (by decide) (fun hc => ?_) (fun hc => ?_)
      · replace h := h.1 hc
        refine lv_iconst (v := 0) hx hb dX6_goodHours_53 (by decide) ?_
        refine lv_iadd hx hb dX6_goodHours_54 ?_
        refine lv_istore_n (lv' := [(3, .int (x3 + (0 : Int32))), (0, .ref (ad 6)), (2, .int x2), (4, .int x4)]) hx hb dX6_goodHours_55 rfl hl (by decide) rfl (fun ls hl => ?_)
        refine lv_iinc (v := (x4 + (1 : Int32))) (lv' := [(4, .int (x4 + (1 : Int32))), (3, .int (x3 + (0 : Int32))), (0, .ref (ad 6)), (2, .int x2)]) hx hb dX6_goodHours_56 hl (k := 3) rfl rfl (by decide) rfl (fun ls hl => ?_)
        refine lv_goto (tgt := 25) hx hb dX6_goodHours_59 (by decide) ?_
        exact ih _ _ _ _ h _ _ _ hw (lv_sub hl [2, 3, 1, 0] rfl)
      · replace h := h.2 hc
        refine lv_iconst (v := 1) hx hb dX6_goodHours_49 (by decide) ?_
        refine lv_goto (tgt := 54) hx hb dX6_goodHours_50 (by decide) ?_
        refine lv_iadd hx hb dX6_goodHours_54 ?_
        refine lv_istore_n (lv' := [(3, .int (x3 + (1 : Int32))), (0, .ref (ad 6)), (2, .int x2), (4, .int x4)]) hx hb dX6_goodHours_55 rfl hl (by decide) rfl (fun ls hl => ?_)
        refine lv_iinc (v := (x4 + (1 : Int32))) (lv' := [(4, .int (x4 + (1 : Int32))), (3, .int (x3 + (1 : Int32))), (0, .ref (ad 6)), (2, .int x2)]) hx hb dX6_goodHours_56 hl (k := 3) rfl rfl (by decide) rfl (fun ls hl => ?_)
        refine lv_goto (tgt := 25) hx hb dX6_goodHours_59 (by decide) ?_
        exact ih _ _ _ _ h _ _ _ hw (lv_sub hl [2, 3, 1, 0] rfl)
  unfold P_th_goodHours at h
  have he : entryFrame m args 5 = entryFrame m ([.ref (ad 6), .int x1, .int x2] : List Value).toArray 5 := by rw [hav]
  refine W.eq he ?_
  have hl := lv_entry ([.ref (ad 6), .int x1, .int x2]) (n := 5) (Nat.le_of_ble_eq_true rfl)
  rw [lg_entry_eq]
  generalize (lg_sl ([.ref (ad 6), .int x1, .int x2]) ++ List.replicate (5 - (lg_sl ([.ref (ad 6), .int x1, .int x2])).length) Slot.unset).toArray = ls at hl ⊢
  have hl : lv_has ls 5 [(0, .ref (ad 6)), (1, .int x1), (2, .int x2)] := hl
  refine lv_aload_n hx hb dX6_goodHours_0 rfl (lv_at hl 0 rfl) ?_
  refine lv_iload_n hx hb dX6_goodHours_1 rfl (lv_at hl 2 rfl) ?_
  refine lv_iconst (v := 1) hx hb dX6_goodHours_2 (by decide) ?_
  refine cV_v (b := (ad 6)) (As := [.int x2, .int (1 : Int32)]) (rest := []) ⟨hx, hb, hml, hown, hts⟩ hK hw (c_th_narrowTo x2 (1 : Int32) h) (cwV 2 hts (gd_RX6_128 hB) rfl rfl rfl (by decide +kernel) ⟨Nat.le_of_ble_eq_true rfl, Nat.le_of_ble_eq_true rfl⟩) (rC_th hK hw) hl.1 ⟨Nat.zero_le _, Nat.zero_le _⟩ rfl rfl (Nat.le_of_ble_eq_true rfl) dX6_goodHours_3 (fun th_goals_3 H locs h hw => ?_)
  refine lv_aload_n hx hb dX6_goodHours_6 rfl (lv_at hl 0 rfl) ?_
  refine cV_v (b := (ad 6)) (As := []) (rest := []) ⟨hx, hb, hml, hown, hts⟩ hK hw (c_th_leadBack h) (cwV 0 hts (gd_RX6_132 hB) rfl rfl rfl (by decide +kernel) ⟨Nat.le_of_ble_eq_true rfl, Nat.le_of_ble_eq_true rfl⟩) (rC_th hK hw) hl.1 ⟨Nat.zero_le _, Nat.zero_le _⟩ rfl rfl (Nat.le_of_ble_eq_true rfl) dX6_goodHours_7 (fun th_goals_7 H locs h hw => ?_)
  refine lv_aload_n hx hb dX6_goodHours_10 rfl (lv_at hl 0 rfl) ?_
  refine lv_iload_n hx hb dX6_goodHours_11 rfl (lv_at hl 1 rfl) ?_
  refine lv_iconst (v := 0) hx hb dX6_goodHours_12 (by decide) ?_
  refine cV_v (b := (ad 6)) (As := [.int x1, .int (0 : Int32)]) (rest := []) ⟨hx, hb, hml, hown, hts⟩ hK hw (c_th_narrowTo x1 (0 : Int32) h) (cwV 2 hts (gd_RX6_128 hB) rfl rfl rfl (by decide +kernel) ⟨Nat.le_of_ble_eq_true rfl, Nat.le_of_ble_eq_true rfl⟩) (rC_th hK hw) hl.1 ⟨Nat.zero_le _, Nat.zero_le _⟩ rfl rfl (Nat.le_of_ble_eq_true rfl) dX6_goodHours_13 (fun th_goals_13 H locs h hw => ?_)
  refine lv_aload_n hx hb dX6_goodHours_16 rfl (lv_at hl 0 rfl) ?_
  refine cV_v (b := (ad 6)) (As := []) (rest := []) ⟨hx, hb, hml, hown, hts⟩ hK hw (c_th_leadBack h) (cwV 0 hts (gd_RX6_132 hB) rfl rfl rfl (by decide +kernel) ⟨Nat.le_of_ble_eq_true rfl, Nat.le_of_ble_eq_true rfl⟩) (rC_th hK hw) hl.1 ⟨Nat.zero_le _, Nat.zero_le _⟩ rfl rfl (Nat.le_of_ble_eq_true rfl) dX6_goodHours_17 (fun th_goals_17 H locs h hw => ?_)
  refine lv_iconst (v := 0) hx hb dX6_goodHours_20 (by decide) ?_
  refine lv_istore_n (lv' := [(3, .int (0 : Int32)), (0, .ref (ad 6)), (1, .int x1), (2, .int x2)]) hx hb dX6_goodHours_21 rfl hl (by decide) rfl (fun ls hl => ?_)
  refine lv_iconst (v := 0) hx hb dX6_goodHours_22 (by decide) ?_
  refine lv_istore (lv' := [(4, .int (0 : Int32)), (3, .int (0 : Int32)), (0, .ref (ad 6)), (1, .int x1), (2, .int x2)]) hx hb dX6_goodHours_23 hl (by decide) rfl (fun ls hl => ?_)
  obtain ⟨n25, h⟩ := h
  exact J25  n25 _ _ _ _ h _ _ _ hw (lv_sub hl [2, 4, 1, 0] rfl)
def rm_to_search : Room := { frames := 3, cells := 0, slots := 0, locals := 68 }
set_option maxHeartbeats 4000000 in
set_option maxRecDepth 100000 in
theorem c_to_search {l : Launch} {D : va_G} {cI cL cZ : ClassId} {mx my : Nat} {A : Nat → Prop} {ad : Nat → Nat} {ga_sightings th_unseen th_goals tr_visited : Nat → Int64} {ga_bestShifts gr_kinds gr_before gr_columns gr_rows pi_cells pi_facings pi_sets po_needs ro_cells ro_lengths ro_shifts tr_marks wh_places : Nat → Int32} {ga_commonLength gr_width gr_height gr_size pi_size si_sightLaw si_sightRange th_commonLength tr_size : Int32} {ga_allTimes gr_floorCells gr_clearCells gr_standCells gr_firstColumn gr_lastColumn : Int64} (x1 : Int32) {Q : Int32 → (Nat → Int32) → (Nat → Int64) → Int32 → Prop} (h : P_to_search gr_width gr_height gr_columns gr_rows gr_standCells pi_sets pi_size tr_marks tr_visited tr_size x1 Q) : Met l yX7_search wsX7_search rm_to_search (va_Pc [.ref (ad 7), .int x1] (WC D cI cL cZ mx my A (wdC cI cL cZ ad ga_sightings ga_bestShifts ga_commonLength ga_allTimes gr_width gr_height gr_size gr_kinds gr_before gr_columns gr_rows gr_floorCells gr_clearCells gr_standCells gr_firstColumn gr_lastColumn pi_cells pi_facings pi_sets pi_size po_needs ro_cells ro_lengths ro_shifts si_sightLaw si_sightRange th_unseen th_goals th_commonLength tr_marks tr_visited tr_size wh_places))) (va_Qi (fun (r : Int32) (u : (Nat → Int32) × (Nat → Int64) × Int32) => Q r u.1 u.2.1 u.2.2) (fun (u : (Nat → Int32) × (Nat → Int64) × Int32) t => PW D A (wdC cI cL cZ ad ga_sightings ga_bestShifts ga_commonLength ga_allTimes gr_width gr_height gr_size gr_kinds gr_before gr_columns gr_rows gr_floorCells gr_clearCells gr_standCells gr_firstColumn gr_lastColumn pi_cells pi_facings pi_sets pi_size po_needs ro_cells ro_lengths ro_shifts si_sightLaw si_sightRange th_unseen th_goals th_commonLength u.1 u.2.1 u.2.2 wh_places) t.heap) A) 0 0 A := by
  refine Met.ofW (cc := cX7_search) (maxL := 7) (ret := (some .int)) (by decide) rfl ?_
  intro p e s m args below meth c s₁ B hml hv
  obtain ⟨hav, hP0, hD0, hK⟩ := hv
  have hx := B.exec
  have hb := B.bytes
  have hr := B.returns
  have hts := atoms_spec (ws := wsX7_search) B.pre
  have hown : s.vm.findClass RX7 = some m.cls := findClass_of_methodNamed B.named
  have hlocks := B.notSynchronized
  have hB : ∀ w ∈ BIG, w ∈ wsX7_search := fun _ h => List.mem_cons_of_mem _ h
  have hin : ∀ w ∈ wsX70, w ∈ wsX7_search := fun w h => hB w (inB_X7 w h)
  have lk9 := hts _ (hB _ m_262)
  have lk15 := hts _ (hB _ m_263)
  have lk19 := hts _ (hB _ m_264)
  obtain ⟨Z, hZ⟩ : ∃ Z : State → Prop, Z = MQ below (va_Qi (fun (r : Int32) (u : (Nat → Int32) × (Nat → Int64) × Int32) => Q r u.1 u.2.1 u.2.2) (fun (u : (Nat → Int32) × (Nat → Int64) × Int32) t => PW D A (wdC cI cL cZ ad ga_sightings ga_bestShifts ga_commonLength ga_allTimes gr_width gr_height gr_size gr_kinds gr_before gr_columns gr_rows gr_floorCells gr_clearCells gr_standCells gr_firstColumn gr_lastColumn pi_cells pi_facings pi_sets pi_size po_needs ro_cells ro_lengths ro_shifts si_sightLaw si_sightRange th_unseen th_goals th_commonLength u.1 u.2.1 u.2.2 wh_places) t.heap) A) args s 0 0 A := ⟨_, rfl⟩
  rw [← hZ]
  have hw : SW D A s.heap (wdC cI cL cZ ad ga_sightings ga_bestShifts ga_commonLength ga_allTimes gr_width gr_height gr_size gr_kinds gr_before gr_columns gr_rows gr_floorCells gr_clearCells gr_standCells gr_firstColumn gr_lastColumn pi_cells pi_facings pi_sets pi_size po_needs ro_cells ro_lengths ro_shifts si_sightLaw si_sightRange th_unseen th_goals th_commonLength tr_marks tr_visited tr_size wh_places) s.heap [] := ⟨hP0, hD0, va_S.rf⟩
  clear hP0 hD0 B
  have J86 : ∀ (k27 : (Nat → Int32) → (Nat → Int64) → Int32 → Int32 → Int32 → Prop) (hk27 : ∀ (tr_marks : (Nat → Int32)) (tr_visited : (Nat → Int64)) (tr_size : Int32) (x1 : Int32) (x2 : Int32) , k27 tr_marks tr_visited tr_size x1 x2 → ∀ (H : Heap) (locs : List Loc) (ls : Array Slot), SW D A s.heap (wdC cI cL cZ ad ga_sightings ga_bestShifts ga_commonLength ga_allTimes gr_width gr_height gr_size gr_kinds gr_before gr_columns gr_rows gr_floorCells gr_clearCells gr_standCells gr_firstColumn gr_lastColumn pi_cells pi_facings pi_sets pi_size po_needs ro_cells ro_lengths ro_shifts si_sightLaw si_sightRange th_unseen th_goals th_commonLength tr_marks tr_visited tr_size wh_places) H locs → lv_has ls 7 [(0, .ref (ad 7)), (1, .int x1), (2, .int x2)] → W p l e (headSpec wsX7_search rm_to_search).room s m args below meth c H locs 0 0 Z (F0 m 27 ls [])) (n : Nat) (tr_marks : (Nat → Int32)) (tr_visited : (Nat → Int64)) (tr_size : Int32) (x1 : Int32) (x2 : Int32) (x3 : Int32) (x4 : Int32) (x5 : Int32) , L_to_search_86 gr_width gr_height gr_columns gr_rows gr_standCells pi_sets pi_size Q k27 n tr_marks tr_visited tr_size x1 x2 x3 x4 x5 → ∀ (H : Heap) (locs : List Loc) (ls : Array Slot), SW D A s.heap (wdC cI cL cZ ad ga_sightings ga_bestShifts ga_commonLength ga_allTimes gr_width gr_height gr_size gr_kinds gr_before gr_columns gr_rows gr_floorCells gr_clearCells gr_standCells gr_firstColumn gr_lastColumn pi_cells pi_facings pi_sets pi_size po_needs ro_cells ro_lengths ro_shifts si_sightLaw si_sightRange th_unseen th_goals th_commonLength tr_marks tr_visited tr_size wh_places) H locs → lv_has ls 7 [(0, .ref (ad 7)), (1, .int x1), (2, .int x2), (3, .int x3), (4, .int x4), (5, .int x5)] → W p l e (headSpec wsX7_search rm_to_search).room s m args below meth c H locs 0 0 Z (F0 m 86 ls []) := by
    intro k27 hk27 n
    induction n with
    | zero => intro tr_marks tr_visited tr_size x1 x2 x3 x4 x5 h; exact h.elim
    | succ n ih =>
    intro tr_marks tr_visited tr_size x1 x2 x3 x4 x5 h H locs ls hw hl
    unfold L_to_search_86 at h
    refine lv_iload hx hb dX7_search_86 (lv_at hl 5 rfl) ?_
    refine lv_iconst (v := 4) hx hb dX7_search_88 (by decide) ?_
    refine lv_icmp_ge (tgt := 140) hx hb dX7_search_89 (by decide) (fun hc => ?_) (fun hc => ?_)
    · replace h := h.1 hc
      refine lv_iinc (v := (x2 + (1 : Int32))) (lv' := [(2, .int (x2 + (1 : Int32))), (0, .ref (ad 7)), (1, .int x1), (3, .int x3), (4, .int x4), (5, .int x5)]) hx hb dX7_search_140 hl (k := 2) rfl rfl (by decide) rfl (fun ls hl => ?_)
      refine lv_goto (tgt := 27) hx hb dX7_search_143 (by decide) ?_
      exact hk27 _ _ _ _ _ h _ _ _ hw (lv_sub hl [1, 2, 0] rfl)
    · replace h := h.2 hc
      refine lv_aload_n hx hb dX7_search_92 rfl (lv_at hl 0 rfl) ?_
      refine gC_to_grid hx hb hts hin hown hK hw lk9 dX7_search_93 ?_
      refine lv_iload_n hx hb dX7_search_96 rfl (lv_at hl 3 rfl) ?_
      refine lv_iload hx hb dX7_search_97 (lv_at hl 5 rfl) ?_
      refine cV_i (b := (ad 1)) (As := [.int x3, .int x5]) (rest := []) ⟨hx, hb, hml, hown, hts⟩ hK hw (c_gr_placeAfter x3 x5 h) (cwV 2 hts (gd_RX7_61 hB) rfl rfl rfl (by decide +kernel) ⟨Nat.le_of_ble_eq_true rfl, Nat.le_of_ble_eq_true rfl⟩) (rC_gr hK hw) hl.1 ⟨Nat.zero_le _, Nat.zero_le _⟩ rfl rfl (Nat.le_of_ble_eq_true rfl) dX7_search_99 (fun r99 _ H locs h hw => ?_)
      refine lv_istore (lv' := [(6, .int r99), (0, .ref (ad 7)), (1, .int x1), (2, .int x2), (3, .int x3), (4, .int x4), (5, .int x5)]) hx hb dX7_search_102 hl (by decide) rfl (fun ls hl => ?_)
      refine lv_iload hx hb dX7_search_104 (lv_at hl 0 rfl) ?_
      refine lv_iconst (v := (-1)) hx hb dX7_search_106 (by decide) ?_
      refine lv_icmp_eq (tgt := 134) hx hb dX7_search_107 (by decide) (fun hc => ?_) (fun hc => ?_)
      · replace h := h.1 hc
        refine lv_iinc (v := (x5 + (1 : Int32))) (lv' := [(5, .int (x5 + (1 : Int32))), (6, .int r99), (0, .ref (ad 7)), (1, .int x1), (2, .int x2), (3, .int x3), (4, .int x4)]) hx hb dX7_search_134 hl (k := 6) rfl rfl (by decide) rfl (fun ls hl => ?_)
        refine lv_goto (tgt := 86) hx hb dX7_search_137 (by decide) ?_
        exact ih _ _ _ _ _ _ _ _ h _ _ _ hw (lv_sub hl [2, 3, 4, 5, 6, 0] rfl)
      · replace h := h.2 hc
        refine lv_aload_n hx hb dX7_search_110 rfl (lv_at hl 1 rfl) ?_
        refine gC_to_trail hx hb hts hin hown hK hw lk19 dX7_search_111 ?_
        refine lv_iload hx hb dX7_search_114 (lv_at hl 5 rfl) ?_
        refine lv_aload_n hx hb dX7_search_116 rfl (lv_at hl 1 rfl) ?_
        refine gC_to_pictures hx hb hts hin hown hK hw lk15 dX7_search_117 ?_
        refine lv_iload hx hb dX7_search_120 (lv_at hl 0 rfl) ?_
        refine cV_i (b := (ad 2)) (As := [.int r99]) (rest := [.int x4, .ref (ad 8)]) ⟨hx, hb, hml, hown, hts⟩ hK hw (c_pi_setAt r99 h) (cwV 1 hts (gd_RX7_39 hB) rfl rfl rfl (by decide +kernel) ⟨Nat.le_of_ble_eq_true rfl, Nat.le_of_ble_eq_true rfl⟩) (rC_pi hK hw) hl.1 ⟨Nat.zero_le _, Nat.zero_le _⟩ rfl rfl (Nat.le_of_ble_eq_true rfl) dX7_search_122 (fun r122 _ H locs h hw => ?_)
        refine lv_ior hx hb dX7_search_125 ?_
        refine lv_iload hx hb dX7_search_126 (lv_at hl 0 rfl) ?_
        refine lv_iload hx hb dX7_search_128 (lv_at hl 6 rfl) ?_
        refine lv_iload_n hx hb dX7_search_130 rfl (lv_at hl 3 rfl) ?_
        refine cV_v (b := (ad 8)) (As := [.int (x4 ||| r122), .int r99, .int x5, .int x2]) (rest := []) ⟨hx, hb, hml, hown, hts⟩ hK hw (c_tr_visit (x4 ||| r122) r99 x5 x2 h) (cwV 4 hts (gd_RX7_44 hB) rfl rfl rfl (by decide +kernel) ⟨Nat.le_of_ble_eq_true rfl, Nat.le_of_ble_eq_true rfl⟩) (rC_tr hK hw) hl.1 ⟨Nat.zero_le _, Nat.zero_le _⟩ rfl rfl (Nat.le_of_ble_eq_true rfl) dX7_search_131 (fun u131 H locs h hw => ?_)
        obtain ⟨tr_marks_131, tr_visited_131, tr_size_131⟩ := u131
        refine lv_iinc (v := (x5 + (1 : Int32))) (lv' := [(5, .int (x5 + (1 : Int32))), (6, .int r99), (0, .ref (ad 7)), (1, .int x1), (2, .int x2), (3, .int x3), (4, .int x4)]) hx hb dX7_search_134 hl (k := 6) rfl rfl (by decide) rfl (fun ls hl => ?_)
        refine lv_goto (tgt := 86) hx hb dX7_search_137 (by decide) ?_
        exact ih _ _ _ _ _ _ _ _ h _ _ _ hw (lv_sub hl [2, 3, 4, 5, 6, 0] rfl)
  have J27 : ∀ (n : Nat) (tr_marks : (Nat → Int32)) (tr_visited : (Nat → Int64)) (tr_size : Int32) (x1 : Int32) (x2 : Int32) , L_to_search_27 gr_width gr_height gr_columns gr_rows gr_standCells pi_sets pi_size Q n tr_marks tr_visited tr_size x1 x2 → ∀ (H : Heap) (locs : List Loc) (ls : Array Slot), SW D A s.heap (wdC cI cL cZ ad ga_sightings ga_bestShifts ga_commonLength ga_allTimes gr_width gr_height gr_size gr_kinds gr_before gr_columns gr_rows gr_floorCells gr_clearCells gr_standCells gr_firstColumn gr_lastColumn pi_cells pi_facings pi_sets pi_size po_needs ro_cells ro_lengths ro_shifts si_sightLaw si_sightRange th_unseen th_goals th_commonLength tr_marks tr_visited tr_size wh_places) H locs → lv_has ls 7 [(0, .ref (ad 7)), (1, .int x1), (2, .int x2)] → W p l e (headSpec wsX7_search rm_to_search).room s m args below meth c H locs 0 0 Z (F0 m 27 ls []) := by
    intro  n
    induction n with
    | zero => intro tr_marks tr_visited tr_size x1 x2 h; exact h.elim
    | succ n ih =>
    intro tr_marks tr_visited tr_size x1 x2 h H locs ls hw hl
    unfold L_to_search_27 at h
    refine lv_iload_n hx hb dX7_search_27 rfl (lv_at hl 2 rfl) ?_
    refine lv_sipush (v := 16384) hx hb dX7_search_28 (by decide) ?_
    refine lv_icmp_ge (tgt := 146) hx hb dX7_search_31 (by decide) (fun hc => ?_) (fun hc => ?_)
    · replace h := h.1 hc
      refine lv_iconst (v := (-1)) hx hb dX7_search_146 (by decide) ?_
      rw [hZ]
      exact rt_i (tr_marks, tr_visited, tr_size) hx hb hr hlocks hw h dX7_search_147
    · replace h := h.2 hc
      refine lv_iload_n hx hb dX7_search_34 rfl (lv_at hl 2 rfl) ?_
      refine lv_aload_n hx hb dX7_search_35 rfl (lv_at hl 0 rfl) ?_
      refine gC_to_trail hx hb hts hin hown hK hw lk19 dX7_search_36 ?_
      refine cV_i (b := (ad 8)) (As := []) (rest := [.int x2]) ⟨hx, hb, hml, hown, hts⟩ hK hw (c_tr_size h) (cwV 0 hts (gd_RX7_48 hB) rfl rfl rfl (by decide +kernel) ⟨Nat.le_of_ble_eq_true rfl, Nat.le_of_ble_eq_true rfl⟩) (rC_tr hK hw) hl.1 ⟨Nat.zero_le _, Nat.zero_le _⟩ rfl rfl (Nat.le_of_ble_eq_true rfl) dX7_search_39 (fun r39 _ H locs h hw => ?_)
      refine lv_icmp_ge (tgt := 146) hx hb dX7_search_42 (by decide) (fun hc => ?_) (fun hc => ?_)
      · replace h := h.1 hc
        refine lv_iconst (v := (-1)) hx hb dX7_search_146 (by decide) ?_
        rw [hZ]
        exact rt_i (tr_marks, tr_visited, tr_size) hx hb hr hlocks hw h dX7_search_147
      · replace h := h.2 hc
        refine lv_aload_n hx hb dX7_search_45 rfl (lv_at hl 0 rfl) ?_
        refine gC_to_trail hx hb hts hin hown hK hw lk19 dX7_search_46 ?_
        refine lv_iload_n hx hb dX7_search_49 rfl (lv_at hl 2 rfl) ?_
        refine cV_i (b := (ad 8)) (As := [.int x2]) (rest := []) ⟨hx, hb, hml, hown, hts⟩ hK hw (c_tr_cellAt x2 h) (cwV 1 hts (gd_RX7_52 hB) rfl rfl rfl (by decide +kernel) ⟨Nat.le_of_ble_eq_true rfl, Nat.le_of_ble_eq_true rfl⟩) (rC_tr hK hw) hl.1 ⟨Nat.zero_le _, Nat.zero_le _⟩ rfl rfl (Nat.le_of_ble_eq_true rfl) dX7_search_50 (fun r50 _ H locs h hw => ?_)
        refine lv_istore_n (lv' := [(3, .int r50), (0, .ref (ad 7)), (1, .int x1), (2, .int x2)]) hx hb dX7_search_53 rfl hl (by decide) rfl (fun ls hl => ?_)
        refine lv_aload_n hx hb dX7_search_54 rfl (lv_at hl 1 rfl) ?_
        refine gC_to_trail hx hb hts hin hown hK hw lk19 dX7_search_55 ?_
        refine lv_iload_n hx hb dX7_search_58 rfl (lv_at hl 3 rfl) ?_
        refine cV_i (b := (ad 8)) (As := [.int x2]) (rest := []) ⟨hx, hb, hml, hown, hts⟩ hK hw (c_tr_layerAt x2 h) (cwV 1 hts (gd_RX7_55 hB) rfl rfl rfl (by decide +kernel) ⟨Nat.le_of_ble_eq_true rfl, Nat.le_of_ble_eq_true rfl⟩) (rC_tr hK hw) hl.1 ⟨Nat.zero_le _, Nat.zero_le _⟩ rfl rfl (Nat.le_of_ble_eq_true rfl) dX7_search_59 (fun r59 _ H locs h hw => ?_)
        refine lv_istore (lv' := [(4, .int r59), (3, .int r50), (0, .ref (ad 7)), (1, .int x1), (2, .int x2)]) hx hb dX7_search_62 hl (by decide) rfl (fun ls hl => ?_)
        refine lv_iload_n hx hb dX7_search_64 rfl (lv_at hl 1 rfl) ?_
        refine lv_iload_n hx hb dX7_search_65 rfl (lv_at hl 3 rfl) ?_
        refine lv_icmp_ne (tgt := 83) hx hb dX7_search_66 (by decide) (fun hc => ?_) (fun hc => ?_)
        · replace h := h.2 hc
          refine lv_iconst (v := 0) hx hb dX7_search_83 (by decide) ?_
          refine lv_istore (lv' := [(5, .int (0 : Int32)), (4, .int r59), (3, .int r50), (0, .ref (ad 7)), (1, .int x1), (2, .int x2)]) hx hb dX7_search_84 hl (by decide) rfl (fun ls hl => ?_)
          obtain ⟨n86, h⟩ := h
          exact J86 (L_to_search_27 gr_width gr_height gr_columns gr_rows gr_standCells pi_sets pi_size Q n) ih n86 _ _ _ _ _ _ _ _ h _ _ _ hw (lv_sub hl [3, 4, 5, 2, 1, 0] rfl)
        · replace h := h.1 hc
          refine lv_iload hx hb dX7_search_69 (lv_at hl 0 rfl) ?_
          refine lv_aload_n hx hb dX7_search_71 rfl (lv_at hl 2 rfl) ?_
          refine gC_to_pictures hx hb hts hin hown hK hw lk15 dX7_search_72 ?_
          refine cV_i (b := (ad 2)) (As := []) (rest := [.int r59]) ⟨hx, hb, hml, hown, hts⟩ hK hw (c_pi_all h) (cwV 0 hts (gd_RX7_58 hB) rfl rfl rfl (by decide +kernel) ⟨Nat.le_of_ble_eq_true rfl, Nat.le_of_ble_eq_true rfl⟩) (rC_pi hK hw) hl.1 ⟨Nat.zero_le _, Nat.zero_le _⟩ rfl rfl (Nat.le_of_ble_eq_true rfl) dX7_search_75 (fun r75 _ H locs h hw => ?_)
          refine lv_icmp_ne (tgt := 83) hx hb dX7_search_78 (by decide) (fun hc => ?_) (fun hc => ?_)
          · replace h := h.2 hc
            refine lv_iconst (v := 0) hx hb dX7_search_83 (by decide) ?_
            refine lv_istore (lv' := [(5, .int (0 : Int32)), (4, .int r59), (3, .int r50), (0, .ref (ad 7)), (1, .int x1), (2, .int x2)]) hx hb dX7_search_84 hl (by decide) rfl (fun ls hl => ?_)
            obtain ⟨n86, h⟩ := h
            exact J86 (L_to_search_27 gr_width gr_height gr_columns gr_rows gr_standCells pi_sets pi_size Q n) ih n86 _ _ _ _ _ _ _ _ h _ _ _ hw (lv_sub hl [3, 4, 5, 2, 1, 0] rfl)
          · replace h := h.1 hc
            refine lv_iload_n hx hb dX7_search_81 rfl (lv_at hl 4 rfl) ?_
            rw [hZ]
            exact rt_i (tr_marks, tr_visited, tr_size) hx hb hr hlocks hw h dX7_search_82
  unfold P_to_search at h
  have he : entryFrame m args 7 = entryFrame m ([.ref (ad 7), .int x1] : List Value).toArray 7 := by rw [hav]
  refine W.eq he ?_
  have hl := lv_entry ([.ref (ad 7), .int x1]) (n := 7) (Nat.le_of_ble_eq_true rfl)
  rw [lg_entry_eq]
  generalize (lg_sl ([.ref (ad 7), .int x1]) ++ List.replicate (7 - (lg_sl ([.ref (ad 7), .int x1])).length) Slot.unset).toArray = ls at hl ⊢
  have hl : lv_has ls 7 [(0, .ref (ad 7)), (1, .int x1)] := hl
  refine lv_aload_n hx hb dX7_search_0 rfl (lv_at hl 0 rfl) ?_
  refine gC_to_trail hx hb hts hin hown hK hw lk19 dX7_search_1 ?_
  refine cV_v (b := (ad 8)) (As := []) (rest := []) ⟨hx, hb, hml, hown, hts⟩ hK hw (c_tr_clear h) (cwV 0 hts (gd_RX7_36 hB) rfl rfl rfl (by decide +kernel) ⟨Nat.le_of_ble_eq_true rfl, Nat.le_of_ble_eq_true rfl⟩) (rC_tr hK hw) hl.1 ⟨Nat.zero_le _, Nat.zero_le _⟩ rfl rfl (Nat.le_of_ble_eq_true rfl) dX7_search_4 (fun u4 H locs h hw => ?_)
  obtain ⟨tr_visited_4, tr_size_4⟩ := u4
  refine lv_aload_n hx hb dX7_search_7 rfl (lv_at hl 0 rfl) ?_
  refine gC_to_trail hx hb hts hin hown hK hw lk19 dX7_search_8 ?_
  refine lv_aload_n hx hb dX7_search_11 rfl (lv_at hl 0 rfl) ?_
  refine gC_to_pictures hx hb hts hin hown hK hw lk15 dX7_search_12 ?_
  refine lv_iload_n hx hb dX7_search_15 rfl (lv_at hl 1 rfl) ?_
  refine cV_i (b := (ad 2)) (As := [.int x1]) (rest := [.ref (ad 8)]) ⟨hx, hb, hml, hown, hts⟩ hK hw (c_pi_setAt x1 h) (cwV 1 hts (gd_RX7_39 hB) rfl rfl rfl (by decide +kernel) ⟨Nat.le_of_ble_eq_true rfl, Nat.le_of_ble_eq_true rfl⟩) (rC_pi hK hw) hl.1 ⟨Nat.zero_le _, Nat.zero_le _⟩ rfl rfl (Nat.le_of_ble_eq_true rfl) dX7_search_16 (fun r16 _ H locs h hw => ?_)
  refine lv_iload_n hx hb dX7_search_19 rfl (lv_at hl 1 rfl) ?_
  refine lv_iconst (v := 4) hx hb dX7_search_20 (by decide) ?_
  refine lv_iconst (v := 0) hx hb dX7_search_21 (by decide) ?_
  refine cV_v (b := (ad 8)) (As := [.int r16, .int x1, .int (4 : Int32), .int (0 : Int32)]) (rest := []) ⟨hx, hb, hml, hown, hts⟩ hK hw (c_tr_visit r16 x1 (4 : Int32) (0 : Int32) h) (cwV 4 hts (gd_RX7_44 hB) rfl rfl rfl (by decide +kernel) ⟨Nat.le_of_ble_eq_true rfl, Nat.le_of_ble_eq_true rfl⟩) (rC_tr hK hw) hl.1 ⟨Nat.zero_le _, Nat.zero_le _⟩ rfl rfl (Nat.le_of_ble_eq_true rfl) dX7_search_22 (fun u22 H locs h hw => ?_)
  obtain ⟨tr_marks_22, tr_visited_22, tr_size_22⟩ := u22
  refine lv_iconst (v := 0) hx hb dX7_search_25 (by decide) ?_
  refine lv_istore_n (lv' := [(2, .int (0 : Int32)), (0, .ref (ad 7)), (1, .int x1)]) hx hb dX7_search_26 rfl hl (by decide) rfl (fun ls hl => ?_)
  obtain ⟨n27, h⟩ := h
  exact J27  n27 _ _ _ _ _ h _ _ _ hw (lv_sub hl [1, 2, 0] rfl)
