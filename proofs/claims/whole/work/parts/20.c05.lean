def rm_po_leastHelper : Room := { frames := 1, cells := 0, slots := 0, locals := 21 }
set_option maxHeartbeats 4000000 in
set_option maxRecDepth 100000 in
theorem c_po_leastHelper {l : Launch} {D : va_G} {cI cL cZ : ClassId} {mx my : Nat} {A : Nat → Prop} {ad : Nat → Nat} {ga_sightings th_unseen th_goals tr_visited : Nat → Int64} {ga_bestShifts gr_kinds gr_before gr_columns gr_rows pi_cells pi_facings pi_sets po_needs ro_cells ro_lengths ro_shifts tr_marks wh_places : Nat → Int32} {ga_commonLength gr_width gr_height gr_size pi_size si_sightLaw si_sightRange th_commonLength tr_size : Int32} {ga_allTimes gr_floorCells gr_clearCells gr_standCells gr_firstColumn gr_lastColumn : Int64} (x1 : Int32) {Q : Int32 → Prop} (h : P_po_leastHelper gr_size pi_sets po_needs x1 Q) : Met l yX3_leastHelper wsX3_leastHelper rm_po_leastHelper (va_Pc [.ref (ad 3), .int x1] (WC D cI cL cZ mx my A (wdC cI cL cZ ad ga_sightings ga_bestShifts ga_commonLength ga_allTimes gr_width gr_height gr_size gr_kinds gr_before gr_columns gr_rows gr_floorCells gr_clearCells gr_standCells gr_firstColumn gr_lastColumn pi_cells pi_facings pi_sets pi_size po_needs ro_cells ro_lengths ro_shifts si_sightLaw si_sightRange th_unseen th_goals th_commonLength tr_marks tr_visited tr_size wh_places))) (va_Qi (fun (r : Int32) (u : Unit) => Q r) (fun (u : Unit) t => PW D A (wdC cI cL cZ ad ga_sightings ga_bestShifts ga_commonLength ga_allTimes gr_width gr_height gr_size gr_kinds gr_before gr_columns gr_rows gr_floorCells gr_clearCells gr_standCells gr_firstColumn gr_lastColumn pi_cells pi_facings pi_sets pi_size po_needs ro_cells ro_lengths ro_shifts si_sightLaw si_sightRange th_unseen th_goals th_commonLength tr_marks tr_visited tr_size wh_places) t.heap) A) 0 0 A := by
  refine Met.ofW (cc := cX3_leastHelper) (maxL := 3) (ret := (some .int)) (by decide) rfl ?_
  intro p e s m args below meth c s₁ B hml hv
  obtain ⟨hav, hP0, hD0, hK⟩ := hv
  have hx := B.exec
  have hb := B.bytes
  have hr := B.returns
  have hts := atoms_spec (ws := wsX3_leastHelper) B.pre
  have hown : s.vm.findClass RX3 = some m.cls := findClass_of_methodNamed B.named
  have hlocks := B.notSynchronized
  have hB : ∀ w ∈ BIG, w ∈ wsX3_leastHelper := fun _ h => List.mem_cons_of_mem _ h
  have hin : ∀ w ∈ wsX30, w ∈ wsX3_leastHelper := fun w h => hB w (inB_X3 w h)
  have lk9 := hts _ (hB _ m_206)
  have lk15 := hts _ (hB _ m_204)
  have lk19 := hts _ (hB _ m_205)
  obtain ⟨Z, hZ⟩ : ∃ Z : State → Prop, Z = MQ below (va_Qi (fun (r : Int32) (u : Unit) => Q r) (fun (u : Unit) t => PW D A (wdC cI cL cZ ad ga_sightings ga_bestShifts ga_commonLength ga_allTimes gr_width gr_height gr_size gr_kinds gr_before gr_columns gr_rows gr_floorCells gr_clearCells gr_standCells gr_firstColumn gr_lastColumn pi_cells pi_facings pi_sets pi_size po_needs ro_cells ro_lengths ro_shifts si_sightLaw si_sightRange th_unseen th_goals th_commonLength tr_marks tr_visited tr_size wh_places) t.heap) A) args s 0 0 A := ⟨_, rfl⟩
  rw [← hZ]
  have hw : SW D A s.heap (wdC cI cL cZ ad ga_sightings ga_bestShifts ga_commonLength ga_allTimes gr_width gr_height gr_size gr_kinds gr_before gr_columns gr_rows gr_floorCells gr_clearCells gr_standCells gr_firstColumn gr_lastColumn pi_cells pi_facings pi_sets pi_size po_needs ro_cells ro_lengths ro_shifts si_sightLaw si_sightRange th_unseen th_goals th_commonLength tr_marks tr_visited tr_size wh_places) s.heap [] := ⟨hP0, hD0, va_S.rf⟩
  clear hP0 hD0 B
  have J2 : ∀ (n : Nat) (x1 : Int32) (x2 : Int32) , L_po_leastHelper_2 gr_size pi_sets po_needs Q n x1 x2 → ∀ (H : Heap) (locs : List Loc) (ls : Array Slot), SW D A s.heap (wdC cI cL cZ ad ga_sightings ga_bestShifts ga_commonLength ga_allTimes gr_width gr_height gr_size gr_kinds gr_before gr_columns gr_rows gr_floorCells gr_clearCells gr_standCells gr_firstColumn gr_lastColumn pi_cells pi_facings pi_sets pi_size po_needs ro_cells ro_lengths ro_shifts si_sightLaw si_sightRange th_unseen th_goals th_commonLength tr_marks tr_visited tr_size wh_places) H locs → lv_has ls 3 [(0, .ref (ad 3)), (1, .int x1), (2, .int x2)] → W p l e (headSpec wsX3_leastHelper rm_po_leastHelper).room s m args below meth c H locs 0 0 Z (F0 m 2 ls []) := by
    intro  n
    induction n with
    | zero => intro x1 x2 h; exact h.elim
    | succ n ih =>
    intro x1 x2 h H locs ls hw hl
    unfold L_po_leastHelper_2 at h
    refine lv_iload_n hx hb dX3_leastHelper_2 rfl (lv_at hl 2 rfl) ?_
    refine lv_aload_n hx hb dX3_leastHelper_3 rfl (lv_at hl 0 rfl) ?_
    refine gC_po_grid hx hb hts hin hown hK hw lk15 dX3_leastHelper_4 ?_
    refine cV_i (b := (ad 1)) (As := []) (rest := [.int x2]) ⟨hx, hb, hml, hown, hts⟩ hK hw (c_gr_size h) (cwV 0 hts (gd_RX3_33 hB) rfl rfl rfl (by decide +kernel) ⟨Nat.le_of_ble_eq_true rfl, Nat.le_of_ble_eq_true rfl⟩) (rC_gr hK hw) hl.1 ⟨Nat.zero_le _, Nat.zero_le _⟩ rfl rfl (Nat.le_of_ble_eq_true rfl) dX3_leastHelper_7 (fun r7 _ H locs h hw => ?_)
    refine lv_icmp_ge (tgt := 49) hx hb dX3_leastHelper_10 (by decide) (fun hc => ?_) (fun hc => ?_)
    · replace h := h.1 hc
      refine lv_bipush (v := (-9)) hx hb dX3_leastHelper_49 (by decide) ?_
      rw [hZ]
      exact rt_i () hx hb hr hlocks hw h dX3_leastHelper_51
    · replace h := h.2 hc
      refine lv_aload_n hx hb dX3_leastHelper_13 rfl (lv_at hl 0 rfl) ?_
      refine gC_po_needs hx hb hts hin hown hK hw lk9 dX3_leastHelper_14 ?_
      refine lv_iload_n hx hb dX3_leastHelper_17 rfl (lv_at hl 1 rfl) ?_
      refine lv_aload_n hx hb dX3_leastHelper_18 rfl (lv_at hl 0 rfl) ?_
      refine gC_po_pictures hx hb hts hin hown hK hw lk19 dX3_leastHelper_19 ?_
      refine lv_iload_n hx hb dX3_leastHelper_22 rfl (lv_at hl 2 rfl) ?_
      refine cV_i (b := (ad 2)) (As := [.int x2]) (rest := [.int x1, .ref (ad 19)]) ⟨hx, hb, hml, hown, hts⟩ hK hw (c_pi_setAt x2 h) (cwV 1 hts (gd_RX3_38 hB) rfl rfl rfl (by decide +kernel) ⟨Nat.le_of_ble_eq_true rfl, Nat.le_of_ble_eq_true rfl⟩) (rC_pi hK hw) hl.1 ⟨Nat.zero_le _, Nat.zero_le _⟩ rfl rfl (Nat.le_of_ble_eq_true rfl) dX3_leastHelper_23 (fun r23 _ H locs h hw => ?_)
      refine lv_iconst (v := (-1)) hx hb dX3_leastHelper_26 (by decide) ?_
      refine lv_ixor hx hb dX3_leastHelper_27 ?_
      refine lv_iand hx hb dX3_leastHelper_28 ?_
      refine aC_po_needs hx hb hK hw h.1 dX3_leastHelper_29 ?_
      replace h := h.2
      refine lv_aload_n hx hb dX3_leastHelper_30 rfl (lv_at hl 0 rfl) ?_
      refine gC_po_needs hx hb hts hin hown hK hw lk9 dX3_leastHelper_31 ?_
      refine lv_iload_n hx hb dX3_leastHelper_34 rfl (lv_at hl 1 rfl) ?_
      refine aC_po_needs hx hb hK hw h.1 dX3_leastHelper_35 ?_
      replace h := h.2
      refine lv_iconst (v := 1) hx hb dX3_leastHelper_36 (by decide) ?_
      refine lv_isub hx hb dX3_leastHelper_37 ?_
      refine lv_icmp_ne (tgt := 43) hx hb dX3_leastHelper_38 (by decide) (fun hc => ?_) (fun hc => ?_)
      · replace h := h.2 hc
        refine lv_iinc (v := (x2 + (1 : Int32))) (lv' := [(2, .int (x2 + (1 : Int32))), (0, .ref (ad 3)), (1, .int x1)]) hx hb dX3_leastHelper_43 hl (k := 2) rfl rfl (by decide) rfl (fun ls hl => ?_)
        refine lv_goto (tgt := 2) hx hb dX3_leastHelper_46 (by decide) ?_
        exact ih _ _ h _ _ _ hw (lv_sub hl [1, 2, 0] rfl)
      · replace h := h.1 hc
        refine lv_iload_n hx hb dX3_leastHelper_41 rfl (lv_at hl 2 rfl) ?_
        rw [hZ]
        exact rt_i () hx hb hr hlocks hw h dX3_leastHelper_42
  unfold P_po_leastHelper at h
  have he : entryFrame m args 3 = entryFrame m ([.ref (ad 3), .int x1] : List Value).toArray 3 := by rw [hav]
  refine W.eq he ?_
  have hl := lv_entry ([.ref (ad 3), .int x1]) (n := 3) (Nat.le_of_ble_eq_true rfl)
  rw [lg_entry_eq]
  generalize (lg_sl ([.ref (ad 3), .int x1]) ++ List.replicate (3 - (lg_sl ([.ref (ad 3), .int x1])).length) Slot.unset).toArray = ls at hl ⊢
  have hl : lv_has ls 3 [(0, .ref (ad 3)), (1, .int x1)] := hl
  refine lv_iconst (v := 0) hx hb dX3_leastHelper_0 (by decide) ?_
  refine lv_istore_n (lv' := [(2, .int (0 : Int32)), (0, .ref (ad 3)), (1, .int x1)]) hx hb dX3_leastHelper_1 rfl hl (by decide) rfl (fun ls hl => ?_)
  obtain ⟨n2, h⟩ := h
  exact J2  n2 _ _ h _ _ _ hw (lv_sub hl [1, 2, 0] rfl)
def rm_po_cellOf : Room := { frames := 2, cells := 0, slots := 0, locals := 43 }
set_option maxHeartbeats 4000000 in
set_option maxRecDepth 100000 in
theorem c_po_cellOf {l : Launch} {D : va_G} {cI cL cZ : ClassId} {mx my : Nat} {A : Nat → Prop} {ad : Nat → Nat} {ga_sightings th_unseen th_goals tr_visited : Nat → Int64} {ga_bestShifts gr_kinds gr_before gr_columns gr_rows pi_cells pi_facings pi_sets po_needs ro_cells ro_lengths ro_shifts tr_marks wh_places : Nat → Int32} {ga_commonLength gr_width gr_height gr_size pi_size si_sightLaw si_sightRange th_commonLength tr_size : Int32} {ga_allTimes gr_floorCells gr_clearCells gr_standCells gr_firstColumn gr_lastColumn : Int64} (x1 : Int32) {Q : Int32 → Prop} (h : P_po_cellOf gr_size pi_sets pi_size po_needs x1 Q) : Met l yX3_cellOf wsX3_cellOf rm_po_cellOf (va_Pc [.ref (ad 3), .int x1] (WC D cI cL cZ mx my A (wdC cI cL cZ ad ga_sightings ga_bestShifts ga_commonLength ga_allTimes gr_width gr_height gr_size gr_kinds gr_before gr_columns gr_rows gr_floorCells gr_clearCells gr_standCells gr_firstColumn gr_lastColumn pi_cells pi_facings pi_sets pi_size po_needs ro_cells ro_lengths ro_shifts si_sightLaw si_sightRange th_unseen th_goals th_commonLength tr_marks tr_visited tr_size wh_places))) (va_Qi (fun (r : Int32) (u : Unit) => Q r) (fun (u : Unit) t => PW D A (wdC cI cL cZ ad ga_sightings ga_bestShifts ga_commonLength ga_allTimes gr_width gr_height gr_size gr_kinds gr_before gr_columns gr_rows gr_floorCells gr_clearCells gr_standCells gr_firstColumn gr_lastColumn pi_cells pi_facings pi_sets pi_size po_needs ro_cells ro_lengths ro_shifts si_sightLaw si_sightRange th_unseen th_goals th_commonLength tr_marks tr_visited tr_size wh_places) t.heap) A) 0 0 A := by
  refine Met.ofW (cc := cX3_cellOf) (maxL := 5) (ret := (some .int)) (by decide) rfl ?_
  intro p e s m args below meth c s₁ B hml hv
  obtain ⟨hav, hP0, hD0, hK⟩ := hv
  have hx := B.exec
  have hb := B.bytes
  have hr := B.returns
  have hts := atoms_spec (ws := wsX3_cellOf) B.pre
  have hown : s.vm.findClass RX3 = some m.cls := findClass_of_methodNamed B.named
  have hlocks := B.notSynchronized
  have hB : ∀ w ∈ BIG, w ∈ wsX3_cellOf := fun _ h => List.mem_cons_of_mem _ h
  have hin : ∀ w ∈ wsX30, w ∈ wsX3_cellOf := fun w h => hB w (inB_X3 w h)
  have lk19 := hts _ (hB _ m_205)
  obtain ⟨Z, hZ⟩ : ∃ Z : State → Prop, Z = MQ below (va_Qi (fun (r : Int32) (u : Unit) => Q r) (fun (u : Unit) t => PW D A (wdC cI cL cZ ad ga_sightings ga_bestShifts ga_commonLength ga_allTimes gr_width gr_height gr_size gr_kinds gr_before gr_columns gr_rows gr_floorCells gr_clearCells gr_standCells gr_firstColumn gr_lastColumn pi_cells pi_facings pi_sets pi_size po_needs ro_cells ro_lengths ro_shifts si_sightLaw si_sightRange th_unseen th_goals th_commonLength tr_marks tr_visited tr_size wh_places) t.heap) A) args s 0 0 A := ⟨_, rfl⟩
  rw [← hZ]
  have hw : SW D A s.heap (wdC cI cL cZ ad ga_sightings ga_bestShifts ga_commonLength ga_allTimes gr_width gr_height gr_size gr_kinds gr_before gr_columns gr_rows gr_floorCells gr_clearCells gr_standCells gr_firstColumn gr_lastColumn pi_cells pi_facings pi_sets pi_size po_needs ro_cells ro_lengths ro_shifts si_sightLaw si_sightRange th_unseen th_goals th_commonLength tr_marks tr_visited tr_size wh_places) s.heap [] := ⟨hP0, hD0, va_S.rf⟩
  clear hP0 hD0 B
  have J29 : ∀ (n : Nat) (x1 : Int32) (x2 : Int32) (x3 : Int32) (x4 : Int32) , L_po_cellOf_29 gr_size pi_sets po_needs Q n x1 x2 x3 x4 → ∀ (H : Heap) (locs : List Loc) (ls : Array Slot), SW D A s.heap (wdC cI cL cZ ad ga_sightings ga_bestShifts ga_commonLength ga_allTimes gr_width gr_height gr_size gr_kinds gr_before gr_columns gr_rows gr_floorCells gr_clearCells gr_standCells gr_firstColumn gr_lastColumn pi_cells pi_facings pi_sets pi_size po_needs ro_cells ro_lengths ro_shifts si_sightLaw si_sightRange th_unseen th_goals th_commonLength tr_marks tr_visited tr_size wh_places) H locs → lv_has ls 5 [(0, .ref (ad 3)), (1, .int x1), (2, .int x2), (3, .int x3), (4, .int x4)] → W p l e (headSpec wsX3_cellOf rm_po_cellOf).room s m args below meth c H locs 0 0 Z (F0 m 29 ls []) := by
    intro  n
    induction n with
    | zero => intro x1 x2 x3 x4 h; exact h.elim
    | succ n ih =>
    intro x1 x2 x3 x4 h H locs ls hw hl
    unfold L_po_cellOf_29 at h
    refine lv_iload hx hb dX3_cellOf_29 (lv_at hl 4 rfl) ?_
    refine lv_iload_n hx hb dX3_cellOf_31 rfl (lv_at hl 1 rfl) ?_
    refine lv_icmp_gt (tgt := 69) hx hb dX3_cellOf_32 (by decide) (fun hc => ?_) (fun hc => ?_)
    · replace h := h.1 hc
      refine lv_iload_n hx hb dX3_cellOf_69 rfl (lv_at hl 3 rfl) ?_
      rw [hZ]
      exact rt_i () hx hb hr hlocks hw h dX3_cellOf_70
    · replace h := h.2 hc
      refine lv_aload_n hx hb dX3_cellOf_35 rfl (lv_at hl 0 rfl) ?_
      refine lv_iload_n hx hb dX3_cellOf_36 rfl (lv_at hl 2 rfl) ?_
      refine cV_i (b := (ad 3)) (As := [.int x2]) (rest := []) ⟨hx, hb, hml, hown, hts⟩ hK hw (c_po_leastHelper x2 h) (cwV 1 hts (gd_RX3_48 hB) rfl rfl rfl (by decide +kernel) ⟨Nat.le_of_ble_eq_true rfl, Nat.le_of_ble_eq_true rfl⟩) (rC_po hK hw) hl.1 ⟨Nat.zero_le _, Nat.zero_le _⟩ rfl rfl (Nat.le_of_ble_eq_true rfl) dX3_cellOf_37 (fun r37 _ H locs h hw => ?_)
      refine lv_istore_n (lv' := [(3, .int r37), (0, .ref (ad 3)), (1, .int x1), (2, .int x2), (4, .int x4)]) hx hb dX3_cellOf_40 rfl hl (by decide) rfl (fun ls hl => ?_)
      refine lv_iload_n hx hb dX3_cellOf_41 rfl (lv_at hl 0 rfl) ?_
      refine lv_bipush (v := (-9)) hx hb dX3_cellOf_42 (by decide) ?_
      refine lv_icmp_ne (tgt := 50) hx hb dX3_cellOf_44 (by decide) (fun hc => ?_) (fun hc => ?_)
      · replace h := h.2 hc
        refine lv_iload_n hx hb dX3_cellOf_50 rfl (lv_at hl 3 rfl) ?_
        refine lv_aload_n hx hb dX3_cellOf_51 rfl (lv_at hl 1 rfl) ?_
        refine gC_po_pictures hx hb hts hin hown hK hw lk19 dX3_cellOf_52 ?_
        refine lv_iload_n hx hb dX3_cellOf_55 rfl (lv_at hl 0 rfl) ?_
        refine cV_i (b := (ad 2)) (As := [.int r37]) (rest := [.int x2]) ⟨hx, hb, hml, hown, hts⟩ hK hw (c_pi_setAt r37 h) (cwV 1 hts (gd_RX3_38 hB) rfl rfl rfl (by decide +kernel) ⟨Nat.le_of_ble_eq_true rfl, Nat.le_of_ble_eq_true rfl⟩) (rC_pi hK hw) hl.1 ⟨Nat.zero_le _, Nat.zero_le _⟩ rfl rfl (Nat.le_of_ble_eq_true rfl) dX3_cellOf_56 (fun r56 _ H locs h hw => ?_)
        refine lv_iconst (v := (-1)) hx hb dX3_cellOf_59 (by decide) ?_
        refine lv_ixor hx hb dX3_cellOf_60 ?_
        refine lv_iand hx hb dX3_cellOf_61 ?_
        refine lv_topi (fun x2_62 ex2_62 => ?_)
        replace h := h x2_62 ex2_62
        refine lv_istore_n (lv' := [(2, .int x2_62), (3, .int r37), (0, .ref (ad 3)), (1, .int x1), (4, .int x4)]) hx hb dX3_cellOf_62 rfl hl (by decide) rfl (fun ls hl => ?_)
        refine lv_iinc (v := (x4 + (1 : Int32))) (lv' := [(4, .int (x4 + (1 : Int32))), (2, .int x2_62), (3, .int r37), (0, .ref (ad 3)), (1, .int x1)]) hx hb dX3_cellOf_63 hl (k := 4) rfl rfl (by decide) rfl (fun ls hl => ?_)
        refine lv_goto (tgt := 29) hx hb dX3_cellOf_66 (by decide) ?_
        exact ih _ _ _ _ h _ _ _ hw (lv_sub hl [3, 4, 1, 2, 0] rfl)
      · replace h := h.1 hc
        refine lv_bipush (v := (-9)) hx hb dX3_cellOf_47 (by decide) ?_
        rw [hZ]
        exact rt_i () hx hb hr hlocks hw h dX3_cellOf_49
  unfold P_po_cellOf at h
  have he : entryFrame m args 5 = entryFrame m ([.ref (ad 3), .int x1] : List Value).toArray 5 := by rw [hav]
  refine W.eq he ?_
  have hl := lv_entry ([.ref (ad 3), .int x1]) (n := 5) (Nat.le_of_ble_eq_true rfl)
  rw [lg_entry_eq]
  generalize (lg_sl ([.ref (ad 3), .int x1]) ++ List.replicate (5 - (lg_sl ([.ref (ad 3), .int x1])).length) Slot.unset).toArray = ls at hl ⊢
  have hl : lv_has ls 5 [(0, .ref (ad 3)), (1, .int x1)] := hl
  refine lv_iload_n hx hb dX3_cellOf_0 rfl (lv_at hl 1 rfl) ?_
  refine lv_if_lt (tgt := 12) hx hb dX3_cellOf_1 (by decide) (fun hc => ?_) (fun hc => ?_)
  · replace h := h.1 hc
    refine lv_bipush (v := (-9)) hx hb dX3_cellOf_12 (by decide) ?_
    rw [hZ]
    exact rt_i () hx hb hr hlocks hw h dX3_cellOf_14
  · replace h := h.2 hc
    refine lv_iload_n hx hb dX3_cellOf_4 rfl (lv_at hl 1 rfl) ?_
    refine lv_aload_n hx hb dX3_cellOf_5 rfl (lv_at hl 0 rfl) ?_
    refine cV_i (b := (ad 3)) (As := []) (rest := [.int x1]) ⟨hx, hb, hml, hown, hts⟩ hK hw (c_po_size h) (cwV 0 hts (gd_RX3_47 hB) rfl rfl rfl (by decide +kernel) ⟨Nat.le_of_ble_eq_true rfl, Nat.le_of_ble_eq_true rfl⟩) (rC_po hK hw) hl.1 ⟨Nat.zero_le _, Nat.zero_le _⟩ rfl rfl (Nat.le_of_ble_eq_true rfl) dX3_cellOf_6 (fun r6 _ H locs h hw => ?_)
    refine lv_icmp_lt (tgt := 15) hx hb dX3_cellOf_9 (by decide) (fun hc => ?_) (fun hc => ?_)
    · replace h := h.1 hc
      refine lv_aload_n hx hb dX3_cellOf_15 rfl (lv_at hl 0 rfl) ?_
      refine gC_po_pictures hx hb hts hin hown hK hw lk19 dX3_cellOf_16 ?_
      refine cV_i (b := (ad 2)) (As := []) (rest := []) ⟨hx, hb, hml, hown, hts⟩ hK hw (c_pi_all h) (cwV 0 hts (gd_RX3_23 hB) rfl rfl rfl (by decide +kernel) ⟨Nat.le_of_ble_eq_true rfl, Nat.le_of_ble_eq_true rfl⟩) (rC_pi hK hw) hl.1 ⟨Nat.zero_le _, Nat.zero_le _⟩ rfl rfl (Nat.le_of_ble_eq_true rfl) dX3_cellOf_19 (fun r19 _ H locs h hw => ?_)
      refine lv_istore_n (lv' := [(2, .int r19), (0, .ref (ad 3)), (1, .int x1)]) hx hb dX3_cellOf_22 rfl hl (by decide) rfl (fun ls hl => ?_)
      refine lv_bipush (v := (-9)) hx hb dX3_cellOf_23 (by decide) ?_
      refine lv_istore_n (lv' := [(3, .int (-9 : Int32)), (2, .int r19), (0, .ref (ad 3)), (1, .int x1)]) hx hb dX3_cellOf_25 rfl hl (by decide) rfl (fun ls hl => ?_)
      refine lv_iconst (v := 0) hx hb dX3_cellOf_26 (by decide) ?_
      refine lv_istore (lv' := [(4, .int (0 : Int32)), (3, .int (-9 : Int32)), (2, .int r19), (0, .ref (ad 3)), (1, .int x1)]) hx hb dX3_cellOf_27 hl (by decide) rfl (fun ls hl => ?_)
      obtain ⟨n29, h⟩ := h
      exact J29  n29 _ _ _ _ h _ _ _ hw (lv_sub hl [3, 4, 2, 1, 0] rfl)
    · replace h := h.2 hc
      refine lv_bipush (v := (-9)) hx hb dX3_cellOf_12 (by decide) ?_
      rw [hZ]
      exact rt_i () hx hb hr hlocks hw h dX3_cellOf_14
def rm_ro_clear : Room := { frames := 1, cells := 0, slots := 0, locals := 23 }
set_option maxHeartbeats 4000000 in
set_option maxRecDepth 100000 in
theorem c_ro_clear {l : Launch} {D : va_G} {cI cL cZ : ClassId} {mx my : Nat} {A : Nat → Prop} {ad : Nat → Nat} {ga_sightings th_unseen th_goals tr_visited : Nat → Int64} {ga_bestShifts gr_kinds gr_before gr_columns gr_rows pi_cells pi_facings pi_sets po_needs ro_cells ro_lengths ro_shifts tr_marks wh_places : Nat → Int32} {ga_commonLength gr_width gr_height gr_size pi_size si_sightLaw si_sightRange th_commonLength tr_size : Int32} {ga_allTimes gr_floorCells gr_clearCells gr_standCells gr_firstColumn gr_lastColumn : Int64}  {Q : (Nat → Int32) → (Nat → Int32) → Prop} (h : P_ro_clear ro_lengths ro_shifts Q) : Met l yX4_clear wsX4_clear rm_ro_clear (va_Pc [.ref (ad 4)] (WC D cI cL cZ mx my A (wdC cI cL cZ ad ga_sightings ga_bestShifts ga_commonLength ga_allTimes gr_width gr_height gr_size gr_kinds gr_before gr_columns gr_rows gr_floorCells gr_clearCells gr_standCells gr_firstColumn gr_lastColumn pi_cells pi_facings pi_sets pi_size po_needs ro_cells ro_lengths ro_shifts si_sightLaw si_sightRange th_unseen th_goals th_commonLength tr_marks tr_visited tr_size wh_places))) (va_Qv (fun (u : (Nat → Int32) × (Nat → Int32)) => Q u.1 u.2) (fun (u : (Nat → Int32) × (Nat → Int32)) t => PW D A (wdC cI cL cZ ad ga_sightings ga_bestShifts ga_commonLength ga_allTimes gr_width gr_height gr_size gr_kinds gr_before gr_columns gr_rows gr_floorCells gr_clearCells gr_standCells gr_firstColumn gr_lastColumn pi_cells pi_facings pi_sets pi_size po_needs ro_cells u.1 u.2 si_sightLaw si_sightRange th_unseen th_goals th_commonLength tr_marks tr_visited tr_size wh_places) t.heap) A) 0 0 A := by
  refine Met.ofW (cc := cX4_clear) (maxL := 1) (ret := none) (by decide) rfl ?_
  intro p e s m args below meth c s₁ B hml hv
  obtain ⟨hav, hP0, hD0, hK⟩ := hv
  have hx := B.exec
  have hb := B.bytes
  have hr := B.returns
  have hts := atoms_spec (ws := wsX4_clear) B.pre
  have hown : s.vm.findClass RX4 = some m.cls := findClass_of_methodNamed B.named
  have hlocks := B.notSynchronized
  have hB : ∀ w ∈ BIG, w ∈ wsX4_clear := fun _ h => List.mem_cons_of_mem _ h
  have hin : ∀ w ∈ wsX40, w ∈ wsX4_clear := fun w h => hB w (inB_X4 w h)
  have lk15 := hts _ (hB _ m_189)
  have lk18 := hts _ (hB _ m_190)
  obtain ⟨Z, hZ⟩ : ∃ Z : State → Prop, Z = MQ below (va_Qv (fun (u : (Nat → Int32) × (Nat → Int32)) => Q u.1 u.2) (fun (u : (Nat → Int32) × (Nat → Int32)) t => PW D A (wdC cI cL cZ ad ga_sightings ga_bestShifts ga_commonLength ga_allTimes gr_width gr_height gr_size gr_kinds gr_before gr_columns gr_rows gr_floorCells gr_clearCells gr_standCells gr_firstColumn gr_lastColumn pi_cells pi_facings pi_sets pi_size po_needs ro_cells u.1 u.2 si_sightLaw si_sightRange th_unseen th_goals th_commonLength tr_marks tr_visited tr_size wh_places) t.heap) A) args s 0 0 A := ⟨_, rfl⟩
  rw [← hZ]
  have hw : SW D A s.heap (wdC cI cL cZ ad ga_sightings ga_bestShifts ga_commonLength ga_allTimes gr_width gr_height gr_size gr_kinds gr_before gr_columns gr_rows gr_floorCells gr_clearCells gr_standCells gr_firstColumn gr_lastColumn pi_cells pi_facings pi_sets pi_size po_needs ro_cells ro_lengths ro_shifts si_sightLaw si_sightRange th_unseen th_goals th_commonLength tr_marks tr_visited tr_size wh_places) s.heap [] := ⟨hP0, hD0, va_S.rf⟩
  clear hP0 hD0 B
  unfold P_ro_clear at h
  have he : entryFrame m args 1 = entryFrame m ([.ref (ad 4)] : List Value).toArray 1 := by rw [hav]
  refine W.eq he ?_
  have hl := lv_entry ([.ref (ad 4)]) (n := 1) (Nat.le_of_ble_eq_true rfl)
  rw [lg_entry_eq]
  generalize (lg_sl ([.ref (ad 4)]) ++ List.replicate (1 - (lg_sl ([.ref (ad 4)])).length) Slot.unset).toArray = ls at hl ⊢
  have hl : lv_has ls 1 [(0, .ref (ad 4))] := hl
  refine lv_aload_n hx hb dX4_clear_0 rfl (lv_at hl 0 rfl) ?_
  refine gC_ro_lengths hx hb hts hin hown hK hw lk15 dX4_clear_1 ?_
  refine lv_iconst (v := 0) hx hb dX4_clear_4 (by decide) ?_
  refine cS_v (As := [.ref (ad 21), .int (0 : Int32)]) (rest := []) ⟨hx, hb, hml, hown, hts⟩ hK hw (c_fill_i (q0 := 21) (0 : Int32) rfl (by decide)) (va_cwS 2 hts (gd_RX4_21 hB) rfl rfl rfl (by decide +kernel) ⟨Nat.le_of_ble_eq_true rfl, Nat.le_of_ble_eq_true rfl⟩) hl.1 ⟨Nat.zero_le _, Nat.zero_le _⟩ rfl rfl (Nat.le_of_ble_eq_true rfl) dX4_clear_5 (fun _ H locs _ hw => ?_)
  have hw : SW D A s.heap (wdC cI cL cZ ad ga_sightings ga_bestShifts ga_commonLength ga_allTimes gr_width gr_height gr_size gr_kinds gr_before gr_columns gr_rows gr_floorCells gr_clearCells gr_standCells gr_firstColumn gr_lastColumn pi_cells pi_facings pi_sets pi_size po_needs ro_cells (filli 4 (0 : Int32) ro_lengths) ro_shifts si_sightLaw si_sightRange th_unseen th_goals th_commonLength tr_marks tr_visited tr_size wh_places) H locs := hw
  refine lv_aload_n hx hb dX4_clear_8 rfl (lv_at hl 0 rfl) ?_
  refine gC_ro_shifts hx hb hts hin hown hK hw lk18 dX4_clear_9 ?_
  refine lv_iconst (v := 0) hx hb dX4_clear_12 (by decide) ?_
  refine cS_v (As := [.ref (ad 22), .int (0 : Int32)]) (rest := []) ⟨hx, hb, hml, hown, hts⟩ hK hw (c_fill_i (q0 := 22) (0 : Int32) rfl (by decide)) (va_cwS 2 hts (gd_RX4_21 hB) rfl rfl rfl (by decide +kernel) ⟨Nat.le_of_ble_eq_true rfl, Nat.le_of_ble_eq_true rfl⟩) hl.1 ⟨Nat.zero_le _, Nat.zero_le _⟩ rfl rfl (Nat.le_of_ble_eq_true rfl) dX4_clear_13 (fun _ H locs _ hw => ?_)
  have hw : SW D A s.heap (wdC cI cL cZ ad ga_sightings ga_bestShifts ga_commonLength ga_allTimes gr_width gr_height gr_size gr_kinds gr_before gr_columns gr_rows gr_floorCells gr_clearCells gr_standCells gr_firstColumn gr_lastColumn pi_cells pi_facings pi_sets pi_size po_needs ro_cells (filli 4 (0 : Int32) ro_lengths) (filli 4 (0 : Int32) ro_shifts) si_sightLaw si_sightRange th_unseen th_goals th_commonLength tr_marks tr_visited tr_size wh_places) H locs := hw
  rw [hZ]
  exact rt_v ((filli 4 (0 : Int32) ro_lengths), (filli 4 (0 : Int32) ro_shifts)) hx hb hr hlocks hw h dX4_clear_16
def rm_ro_firstOf : Room := { frames := 1, cells := 0, slots := 0, locals := 22 }
set_option maxHeartbeats 4000000 in
set_option maxRecDepth 100000 in
theorem c_ro_firstOf {l : Launch} {D : va_G} {cI cL cZ : ClassId} {mx my : Nat} {A : Nat → Prop} {ad : Nat → Nat} {ga_sightings th_unseen th_goals tr_visited : Nat → Int64} {ga_bestShifts gr_kinds gr_before gr_columns gr_rows pi_cells pi_facings pi_sets po_needs ro_cells ro_lengths ro_shifts tr_marks wh_places : Nat → Int32} {ga_commonLength gr_width gr_height gr_size pi_size si_sightLaw si_sightRange th_commonLength tr_size : Int32} {ga_allTimes gr_floorCells gr_clearCells gr_standCells gr_firstColumn gr_lastColumn : Int64} (x1 : Int32) {Q : Int32 → Prop} (h : P_ro_firstOf ro_cells ro_lengths x1 Q) : Met l yX4_firstOf wsX4_firstOf rm_ro_firstOf (va_Pc [.ref (ad 4), .int x1] (WC D cI cL cZ mx my A (wdC cI cL cZ ad ga_sightings ga_bestShifts ga_commonLength ga_allTimes gr_width gr_height gr_size gr_kinds gr_before gr_columns gr_rows gr_floorCells gr_clearCells gr_standCells gr_firstColumn gr_lastColumn pi_cells pi_facings pi_sets pi_size po_needs ro_cells ro_lengths ro_shifts si_sightLaw si_sightRange th_unseen th_goals th_commonLength tr_marks tr_visited tr_size wh_places))) (va_Qi (fun (r : Int32) (u : Unit) => Q r) (fun (u : Unit) t => PW D A (wdC cI cL cZ ad ga_sightings ga_bestShifts ga_commonLength ga_allTimes gr_width gr_height gr_size gr_kinds gr_before gr_columns gr_rows gr_floorCells gr_clearCells gr_standCells gr_firstColumn gr_lastColumn pi_cells pi_facings pi_sets pi_size po_needs ro_cells ro_lengths ro_shifts si_sightLaw si_sightRange th_unseen th_goals th_commonLength tr_marks tr_visited tr_size wh_places) t.heap) A) 0 0 A := by
  refine Met.ofW (cc := cX4_firstOf) (maxL := 2) (ret := (some .int)) (by decide) rfl ?_
  intro p e s m args below meth c s₁ B hml hv
  obtain ⟨hav, hP0, hD0, hK⟩ := hv
  have hx := B.exec
  have hb := B.bytes
  have hr := B.returns
  have hts := atoms_spec (ws := wsX4_firstOf) B.pre
  have hown : s.vm.findClass RX4 = some m.cls := findClass_of_methodNamed B.named
  have hlocks := B.notSynchronized
  have hB : ∀ w ∈ BIG, w ∈ wsX4_firstOf := fun _ h => List.mem_cons_of_mem _ h
  have hin : ∀ w ∈ wsX40, w ∈ wsX4_firstOf := fun w h => hB w (inB_X4 w h)
  have lk15 := hts _ (hB _ m_189)
  obtain ⟨Z, hZ⟩ : ∃ Z : State → Prop, Z = MQ below (va_Qi (fun (r : Int32) (u : Unit) => Q r) (fun (u : Unit) t => PW D A (wdC cI cL cZ ad ga_sightings ga_bestShifts ga_commonLength ga_allTimes gr_width gr_height gr_size gr_kinds gr_before gr_columns gr_rows gr_floorCells gr_clearCells gr_standCells gr_firstColumn gr_lastColumn pi_cells pi_facings pi_sets pi_size po_needs ro_cells ro_lengths ro_shifts si_sightLaw si_sightRange th_unseen th_goals th_commonLength tr_marks tr_visited tr_size wh_places) t.heap) A) args s 0 0 A := ⟨_, rfl⟩
  rw [← hZ]
  have hw : SW D A s.heap (wdC cI cL cZ ad ga_sightings ga_bestShifts ga_commonLength ga_allTimes gr_width gr_height gr_size gr_kinds gr_before gr_columns gr_rows gr_floorCells gr_clearCells gr_standCells gr_firstColumn gr_lastColumn pi_cells pi_facings pi_sets pi_size po_needs ro_cells ro_lengths ro_shifts si_sightLaw si_sightRange th_unseen th_goals th_commonLength tr_marks tr_visited tr_size wh_places) s.heap [] := ⟨hP0, hD0, va_S.rf⟩
  clear hP0 hD0 B
  unfold P_ro_firstOf at h
  have he : entryFrame m args 2 = entryFrame m ([.ref (ad 4), .int x1] : List Value).toArray 2 := by rw [hav]
  refine W.eq he ?_
  have hl := lv_entry ([.ref (ad 4), .int x1]) (n := 2) (Nat.le_of_ble_eq_true rfl)
  rw [lg_entry_eq]
  generalize (lg_sl ([.ref (ad 4), .int x1]) ++ List.replicate (2 - (lg_sl ([.ref (ad 4), .int x1])).length) Slot.unset).toArray = ls at hl ⊢
  have hl : lv_has ls 2 [(0, .ref (ad 4)), (1, .int x1)] := hl
  refine lv_aload_n hx hb dX4_firstOf_0 rfl (lv_at hl 0 rfl) ?_
  refine gC_ro_lengths hx hb hts hin hown hK hw lk15 dX4_firstOf_1 ?_
  refine lv_iload_n hx hb dX4_firstOf_4 rfl (lv_at hl 1 rfl) ?_
  refine aC_ro_lengths hx hb hK hw h.1 dX4_firstOf_5 ?_
  replace h := h.2
  refine lv_if_ne (tgt := 14) hx hb dX4_firstOf_6 (by decide) (fun hc => ?_) (fun hc => ?_)
  · replace h := h.2 hc
    refine lv_aload_n hx hb dX4_firstOf_14 rfl (lv_at hl 0 rfl) ?_
    refine lv_iload_n hx hb dX4_firstOf_15 rfl (lv_at hl 1 rfl) ?_
    refine lv_iconst (v := 0) hx hb dX4_firstOf_16 (by decide) ?_
    refine cV_i (b := (ad 4)) (As := [.int x1, .int (0 : Int32)]) (rest := []) ⟨hx, hb, hml, hown, hts⟩ hK hw (c_ro_cellOf x1 (0 : Int32) h) (cwV 2 hts (gd_RX4_27 hB) rfl rfl rfl (by decide +kernel) ⟨Nat.le_of_ble_eq_true rfl, Nat.le_of_ble_eq_true rfl⟩) (rC_ro hK hw) hl.1 ⟨Nat.zero_le _, Nat.zero_le _⟩ rfl rfl (Nat.le_of_ble_eq_true rfl) dX4_firstOf_17 (fun r17 _ H locs h hw => ?_)
    rw [hZ]
    exact rt_i () hx hb hr hlocks hw h dX4_firstOf_20
  · replace h := h.1 hc
    refine lv_bipush (v := (-9)) hx hb dX4_firstOf_9 (by decide) ?_
    refine lv_goto (tgt := 20) hx hb dX4_firstOf_11 (by decide) ?_
    rw [hZ]
    exact rt_i () hx hb hr hlocks hw h dX4_firstOf_20
def rm_ro_lastOf : Room := { frames := 1, cells := 0, slots := 0, locals := 22 }
set_option maxHeartbeats 4000000 in
set_option maxRecDepth 100000 in
theorem c_ro_lastOf {l : Launch} {D : va_G} {cI cL cZ : ClassId} {mx my : Nat} {A : Nat → Prop} {ad : Nat → Nat} {ga_sightings th_unseen th_goals tr_visited : Nat → Int64} {ga_bestShifts gr_kinds gr_before gr_columns gr_rows pi_cells pi_facings pi_sets po_needs ro_cells ro_lengths ro_shifts tr_marks wh_places : Nat → Int32} {ga_commonLength gr_width gr_height gr_size pi_size si_sightLaw si_sightRange th_commonLength tr_size : Int32} {ga_allTimes gr_floorCells gr_clearCells gr_standCells gr_firstColumn gr_lastColumn : Int64} (x1 : Int32) {Q : Int32 → Prop} (h : P_ro_lastOf ro_cells ro_lengths x1 Q) : Met l yX4_lastOf wsX4_lastOf rm_ro_lastOf (va_Pc [.ref (ad 4), .int x1] (WC D cI cL cZ mx my A (wdC cI cL cZ ad ga_sightings ga_bestShifts ga_commonLength ga_allTimes gr_width gr_height gr_size gr_kinds gr_before gr_columns gr_rows gr_floorCells gr_clearCells gr_standCells gr_firstColumn gr_lastColumn pi_cells pi_facings pi_sets pi_size po_needs ro_cells ro_lengths ro_shifts si_sightLaw si_sightRange th_unseen th_goals th_commonLength tr_marks tr_visited tr_size wh_places))) (va_Qi (fun (r : Int32) (u : Unit) => Q r) (fun (u : Unit) t => PW D A (wdC cI cL cZ ad ga_sightings ga_bestShifts ga_commonLength ga_allTimes gr_width gr_height gr_size gr_kinds gr_before gr_columns gr_rows gr_floorCells gr_clearCells gr_standCells gr_firstColumn gr_lastColumn pi_cells pi_facings pi_sets pi_size po_needs ro_cells ro_lengths ro_shifts si_sightLaw si_sightRange th_unseen th_goals th_commonLength tr_marks tr_visited tr_size wh_places) t.heap) A) 0 0 A := by
  refine Met.ofW (cc := cX4_lastOf) (maxL := 2) (ret := (some .int)) (by decide) rfl ?_
  intro p e s m args below meth c s₁ B hml hv
  obtain ⟨hav, hP0, hD0, hK⟩ := hv
  have hx := B.exec
  have hb := B.bytes
  have hr := B.returns
  have hts := atoms_spec (ws := wsX4_lastOf) B.pre
  have hown : s.vm.findClass RX4 = some m.cls := findClass_of_methodNamed B.named
  have hlocks := B.notSynchronized
  have hB : ∀ w ∈ BIG, w ∈ wsX4_lastOf := fun _ h => List.mem_cons_of_mem _ h
  have hin : ∀ w ∈ wsX40, w ∈ wsX4_lastOf := fun w h => hB w (inB_X4 w h)
  have lk15 := hts _ (hB _ m_189)
  obtain ⟨Z, hZ⟩ : ∃ Z : State → Prop, Z = MQ below (va_Qi (fun (r : Int32) (u : Unit) => Q r) (fun (u : Unit) t => PW D A (wdC cI cL cZ ad ga_sightings ga_bestShifts ga_commonLength ga_allTimes gr_width gr_height gr_size gr_kinds gr_before gr_columns gr_rows gr_floorCells gr_clearCells gr_standCells gr_firstColumn gr_lastColumn pi_cells pi_facings pi_sets pi_size po_needs ro_cells ro_lengths ro_shifts si_sightLaw si_sightRange th_unseen th_goals th_commonLength tr_marks tr_visited tr_size wh_places) t.heap) A) args s 0 0 A := ⟨_, rfl⟩
  rw [← hZ]
  have hw : SW D A s.heap (wdC cI cL cZ ad ga_sightings ga_bestShifts ga_commonLength ga_allTimes gr_width gr_height gr_size gr_kinds gr_before gr_columns gr_rows gr_floorCells gr_clearCells gr_standCells gr_firstColumn gr_lastColumn pi_cells pi_facings pi_sets pi_size po_needs ro_cells ro_lengths ro_shifts si_sightLaw si_sightRange th_unseen th_goals th_commonLength tr_marks tr_visited tr_size wh_places) s.heap [] := ⟨hP0, hD0, va_S.rf⟩
  clear hP0 hD0 B
  unfold P_ro_lastOf at h
  have he : entryFrame m args 2 = entryFrame m ([.ref (ad 4), .int x1] : List Value).toArray 2 := by rw [hav]
  refine W.eq he ?_
  have hl := lv_entry ([.ref (ad 4), .int x1]) (n := 2) (Nat.le_of_ble_eq_true rfl)
  rw [lg_entry_eq]
  generalize (lg_sl ([.ref (ad 4), .int x1]) ++ List.replicate (2 - (lg_sl ([.ref (ad 4), .int x1])).length) Slot.unset).toArray = ls at hl ⊢
  have hl : lv_has ls 2 [(0, .ref (ad 4)), (1, .int x1)] := hl
  refine lv_aload_n hx hb dX4_lastOf_0 rfl (lv_at hl 0 rfl) ?_
  refine gC_ro_lengths hx hb hts hin hown hK hw lk15 dX4_lastOf_1 ?_
  refine lv_iload_n hx hb dX4_lastOf_4 rfl (lv_at hl 1 rfl) ?_
  refine aC_ro_lengths hx hb hK hw h.1 dX4_lastOf_5 ?_
  replace h := h.2
  refine lv_if_ne (tgt := 14) hx hb dX4_lastOf_6 (by decide) (fun hc => ?_) (fun hc => ?_)
  · replace h := h.2 hc
    refine lv_aload_n hx hb dX4_lastOf_14 rfl (lv_at hl 0 rfl) ?_
    refine lv_iload_n hx hb dX4_lastOf_15 rfl (lv_at hl 1 rfl) ?_
    refine lv_aload_n hx hb dX4_lastOf_16 rfl (lv_at hl 0 rfl) ?_
    refine gC_ro_lengths hx hb hts hin hown hK hw lk15 dX4_lastOf_17 ?_
    refine lv_iload_n hx hb dX4_lastOf_20 rfl (lv_at hl 1 rfl) ?_
    refine aC_ro_lengths hx hb hK hw h.1 dX4_lastOf_21 ?_
    replace h := h.2
    refine lv_iconst (v := 1) hx hb dX4_lastOf_22 (by decide) ?_
    refine lv_isub hx hb dX4_lastOf_23 ?_
    refine cV_i (b := (ad 4)) (As := [.int x1, .int ((ro_lengths x1.toNatClampNeg) - (1 : Int32))]) (rest := []) ⟨hx, hb, hml, hown, hts⟩ hK hw (c_ro_cellOf x1 ((ro_lengths x1.toNatClampNeg) - (1 : Int32)) h) (cwV 2 hts (gd_RX4_27 hB) rfl rfl rfl (by decide +kernel) ⟨Nat.le_of_ble_eq_true rfl, Nat.le_of_ble_eq_true rfl⟩) (rC_ro hK hw) hl.1 ⟨Nat.zero_le _, Nat.zero_le _⟩ rfl rfl (Nat.le_of_ble_eq_true rfl) dX4_lastOf_24 (fun r24 _ H locs h hw => ?_)
    rw [hZ]
    exact rt_i () hx hb hr hlocks hw h dX4_lastOf_27
  · replace h := h.1 hc
    refine lv_bipush (v := (-9)) hx hb dX4_lastOf_9 (by decide) ?_
    refine lv_goto (tgt := 27) hx hb dX4_lastOf_11 (by decide) ?_
    rw [hZ]
    exact rt_i () hx hb hr hlocks hw h dX4_lastOf_27
def rm_ro_lengthen : Room := { frames := 0, cells := 0, slots := 0, locals := 0 }
set_option maxHeartbeats 4000000 in
set_option maxRecDepth 100000 in
theorem c_ro_lengthen {l : Launch} {D : va_G} {cI cL cZ : ClassId} {mx my : Nat} {A : Nat → Prop} {ad : Nat → Nat} {ga_sightings th_unseen th_goals tr_visited : Nat → Int64} {ga_bestShifts gr_kinds gr_before gr_columns gr_rows pi_cells pi_facings pi_sets po_needs ro_cells ro_lengths ro_shifts tr_marks wh_places : Nat → Int32} {ga_commonLength gr_width gr_height gr_size pi_size si_sightLaw si_sightRange th_commonLength tr_size : Int32} {ga_allTimes gr_floorCells gr_clearCells gr_standCells gr_firstColumn gr_lastColumn : Int64} (x1 : Int32) (x2 : Int32) {Q : Int32 → (Nat → Int32) → (Nat → Int32) → Prop} (h : P_ro_lengthen ro_cells ro_lengths x1 x2 Q) : Met l yX4_lengthen wsX4_lengthen rm_ro_lengthen (va_Pc [.ref (ad 4), .int x1, .int x2] (WC D cI cL cZ mx my A (wdC cI cL cZ ad ga_sightings ga_bestShifts ga_commonLength ga_allTimes gr_width gr_height gr_size gr_kinds gr_before gr_columns gr_rows gr_floorCells gr_clearCells gr_standCells gr_firstColumn gr_lastColumn pi_cells pi_facings pi_sets pi_size po_needs ro_cells ro_lengths ro_shifts si_sightLaw si_sightRange th_unseen th_goals th_commonLength tr_marks tr_visited tr_size wh_places))) (va_Qi (fun (r : Int32) (u : (Nat → Int32) × (Nat → Int32)) => Q r u.1 u.2) (fun (u : (Nat → Int32) × (Nat → Int32)) t => PW D A (wdC cI cL cZ ad ga_sightings ga_bestShifts ga_commonLength ga_allTimes gr_width gr_height gr_size gr_kinds gr_before gr_columns gr_rows gr_floorCells gr_clearCells gr_standCells gr_firstColumn gr_lastColumn pi_cells pi_facings pi_sets pi_size po_needs u.1 u.2 ro_shifts si_sightLaw si_sightRange th_unseen th_goals th_commonLength tr_marks tr_visited tr_size wh_places) t.heap) A) 0 0 A := by
  refine Met.ofW (cc := cX4_lengthen) (maxL := 3) (ret := (some .int)) (by decide) rfl ?_
  intro p e s m args below meth c s₁ B hml hv
  obtain ⟨hav, hP0, hD0, hK⟩ := hv
  have hx := B.exec
  have hb := B.bytes
  have hr := B.returns
  have hts := atoms_spec (ws := wsX4_lengthen) B.pre
  have hown : s.vm.findClass RX4 = some m.cls := findClass_of_methodNamed B.named
  have hlocks := B.notSynchronized
  have hB : ∀ w ∈ BIG, w ∈ wsX4_lengthen := fun _ h => List.mem_cons_of_mem _ h
  have hin : ∀ w ∈ wsX40, w ∈ wsX4_lengthen := fun w h => hB w (inB_X4 w h)
  have lk9 := hts _ (hB _ m_188)
  have lk15 := hts _ (hB _ m_189)
  obtain ⟨Z, hZ⟩ : ∃ Z : State → Prop, Z = MQ below (va_Qi (fun (r : Int32) (u : (Nat → Int32) × (Nat → Int32)) => Q r u.1 u.2) (fun (u : (Nat → Int32) × (Nat → Int32)) t => PW D A (wdC cI cL cZ ad ga_sightings ga_bestShifts ga_commonLength ga_allTimes gr_width gr_height gr_size gr_kinds gr_before gr_columns gr_rows gr_floorCells gr_clearCells gr_standCells gr_firstColumn gr_lastColumn pi_cells pi_facings pi_sets pi_size po_needs u.1 u.2 ro_shifts si_sightLaw si_sightRange th_unseen th_goals th_commonLength tr_marks tr_visited tr_size wh_places) t.heap) A) args s 0 0 A := ⟨_, rfl⟩
  rw [← hZ]
  have hw : SW D A s.heap (wdC cI cL cZ ad ga_sightings ga_bestShifts ga_commonLength ga_allTimes gr_width gr_height gr_size gr_kinds gr_before gr_columns gr_rows gr_floorCells gr_clearCells gr_standCells gr_firstColumn gr_lastColumn pi_cells pi_facings pi_sets pi_size po_needs ro_cells ro_lengths ro_shifts si_sightLaw si_sightRange th_unseen th_goals th_commonLength tr_marks tr_visited tr_size wh_places) s.heap [] := ⟨hP0, hD0, va_S.rf⟩
  clear hP0 hD0 B
  unfold P_ro_lengthen at h
  have he : entryFrame m args 3 = entryFrame m ([.ref (ad 4), .int x1, .int x2] : List Value).toArray 3 := by rw [hav]
  refine W.eq he ?_
  have hl := lv_entry ([.ref (ad 4), .int x1, .int x2]) (n := 3) (Nat.le_of_ble_eq_true rfl)
  rw [lg_entry_eq]
  generalize (lg_sl ([.ref (ad 4), .int x1, .int x2]) ++ List.replicate (3 - (lg_sl ([.ref (ad 4), .int x1, .int x2])).length) Slot.unset).toArray = ls at hl ⊢
  have hl : lv_has ls 3 [(0, .ref (ad 4)), (1, .int x1), (2, .int x2)] := hl
  refine lv_aload_n hx hb dX4_lengthen_0 rfl (lv_at hl 0 rfl) ?_
  refine gC_ro_lengths hx hb hts hin hown hK hw lk15 dX4_lengthen_1 ?_
  refine lv_iload_n hx hb dX4_lengthen_4 rfl (lv_at hl 1 rfl) ?_
  refine aC_ro_lengths hx hb hK hw h.1 dX4_lengthen_5 ?_
  replace h := h.2
  refine lv_bipush (v := 6) hx hb dX4_lengthen_6 (by decide) ?_
  refine lv_icmp_lt (tgt := 14) hx hb dX4_lengthen_8 (by decide) (fun hc => ?_) (fun hc => ?_)
  · replace h := h.1 hc
    refine lv_aload_n hx hb dX4_lengthen_14 rfl (lv_at hl 0 rfl) ?_
    refine gC_ro_cells hx hb hts hin hown hK hw lk9 dX4_lengthen_15 ?_
    refine lv_iload_n hx hb dX4_lengthen_18 rfl (lv_at hl 1 rfl) ?_
    refine lv_bipush (v := 6) hx hb dX4_lengthen_19 (by decide) ?_
    refine lv_imul hx hb dX4_lengthen_21 ?_
    refine lv_aload_n hx hb dX4_lengthen_22 rfl (lv_at hl 0 rfl) ?_
    refine gC_ro_lengths hx hb hts hin hown hK hw lk15 dX4_lengthen_23 ?_
    refine lv_iload_n hx hb dX4_lengthen_26 rfl (lv_at hl 1 rfl) ?_
    refine aC_ro_lengths hx hb hK hw h.1 dX4_lengthen_27 ?_
    replace h := h.2
    refine lv_iadd hx hb dX4_lengthen_28 ?_
    refine lv_iload_n hx hb dX4_lengthen_29 rfl (lv_at hl 2 rfl) ?_
    refine tC_ro_cells hx hb hK hw h.1 dX4_lengthen_30 (fun H locs hw => ?_)
    replace h := h.2
    refine lv_aload_n hx hb dX4_lengthen_31 rfl (lv_at hl 0 rfl) ?_
    refine gC_ro_lengths hx hb hts hin hown hK hw lk15 dX4_lengthen_32 ?_
    refine lv_iload_n hx hb dX4_lengthen_35 rfl (lv_at hl 1 rfl) ?_
    refine lv_dup2_11 hx hb dX4_lengthen_36 rfl rfl ?_
    refine aC_ro_lengths hx hb hK hw h.1 dX4_lengthen_37 ?_
    replace h := h.2
    refine lv_iconst (v := 1) hx hb dX4_lengthen_38 (by decide) ?_
    refine lv_iadd hx hb dX4_lengthen_39 ?_
    refine tC_ro_lengths hx hb hK hw h.1 dX4_lengthen_40 (fun H locs hw => ?_)
    replace h := h.2
    refine lv_aload_n hx hb dX4_lengthen_41 rfl (lv_at hl 0 rfl) ?_
    refine gC_ro_lengths hx hb hts hin hown hK hw lk15 dX4_lengthen_42 ?_
    refine lv_iload_n hx hb dX4_lengthen_45 rfl (lv_at hl 1 rfl) ?_
    refine aC_ro_lengths hx hb hK hw h.1 dX4_lengthen_46 ?_
    replace h := h.2
    rw [hZ]
    exact rt_i ((upd ro_cells ((x1 * (6 : Int32)) + (ro_lengths x1.toNatClampNeg)).toNatClampNeg x2), (upd ro_lengths x1.toNatClampNeg ((ro_lengths x1.toNatClampNeg) + (1 : Int32)))) hx hb hr hlocks hw h dX4_lengthen_47
  · replace h := h.2 hc
    refine lv_bipush (v := (-4)) hx hb dX4_lengthen_11 (by decide) ?_
    rw [hZ]
    exact rt_i (ro_cells, ro_lengths) hx hb hr hlocks hw h dX4_lengthen_13
def rm_ro_drop : Room := { frames := 0, cells := 0, slots := 0, locals := 0 }
set_option maxHeartbeats 4000000 in
set_option maxRecDepth 100000 in
theorem c_ro_drop {l : Launch} {D : va_G} {cI cL cZ : ClassId} {mx my : Nat} {A : Nat → Prop} {ad : Nat → Nat} {ga_sightings th_unseen th_goals tr_visited : Nat → Int64} {ga_bestShifts gr_kinds gr_before gr_columns gr_rows pi_cells pi_facings pi_sets po_needs ro_cells ro_lengths ro_shifts tr_marks wh_places : Nat → Int32} {ga_commonLength gr_width gr_height gr_size pi_size si_sightLaw si_sightRange th_commonLength tr_size : Int32} {ga_allTimes gr_floorCells gr_clearCells gr_standCells gr_firstColumn gr_lastColumn : Int64} (x1 : Int32) {Q : Int32 → (Nat → Int32) → Prop} (h : P_ro_drop ro_lengths x1 Q) : Met l yX4_drop wsX4_drop rm_ro_drop (va_Pc [.ref (ad 4), .int x1] (WC D cI cL cZ mx my A (wdC cI cL cZ ad ga_sightings ga_bestShifts ga_commonLength ga_allTimes gr_width gr_height gr_size gr_kinds gr_before gr_columns gr_rows gr_floorCells gr_clearCells gr_standCells gr_firstColumn gr_lastColumn pi_cells pi_facings pi_sets pi_size po_needs ro_cells ro_lengths ro_shifts si_sightLaw si_sightRange th_unseen th_goals th_commonLength tr_marks tr_visited tr_size wh_places))) (va_Qi (fun (r : Int32) (u : (Nat → Int32)) => Q r u) (fun (u : (Nat → Int32)) t => PW D A (wdC cI cL cZ ad ga_sightings ga_bestShifts ga_commonLength ga_allTimes gr_width gr_height gr_size gr_kinds gr_before gr_columns gr_rows gr_floorCells gr_clearCells gr_standCells gr_firstColumn gr_lastColumn pi_cells pi_facings pi_sets pi_size po_needs ro_cells u ro_shifts si_sightLaw si_sightRange th_unseen th_goals th_commonLength tr_marks tr_visited tr_size wh_places) t.heap) A) 0 0 A := by
  refine Met.ofW (cc := cX4_drop) (maxL := 3) (ret := (some .int)) (by decide) rfl ?_
  intro p e s m args below meth c s₁ B hml hv
  obtain ⟨hav, hP0, hD0, hK⟩ := hv
  have hx := B.exec
  have hb := B.bytes
  have hr := B.returns
  have hts := atoms_spec (ws := wsX4_drop) B.pre
  have hown : s.vm.findClass RX4 = some m.cls := findClass_of_methodNamed B.named
  have hlocks := B.notSynchronized
  have hB : ∀ w ∈ BIG, w ∈ wsX4_drop := fun _ h => List.mem_cons_of_mem _ h
  have hin : ∀ w ∈ wsX40, w ∈ wsX4_drop := fun w h => hB w (inB_X4 w h)
  have lk15 := hts _ (hB _ m_189)
  obtain ⟨Z, hZ⟩ : ∃ Z : State → Prop, Z = MQ below (va_Qi (fun (r : Int32) (u : (Nat → Int32)) => Q r u) (fun (u : (Nat → Int32)) t => PW D A (wdC cI cL cZ ad ga_sightings ga_bestShifts ga_commonLength ga_allTimes gr_width gr_height gr_size gr_kinds gr_before gr_columns gr_rows gr_floorCells gr_clearCells gr_standCells gr_firstColumn gr_lastColumn pi_cells pi_facings pi_sets pi_size po_needs ro_cells u ro_shifts si_sightLaw si_sightRange th_unseen th_goals th_commonLength tr_marks tr_visited tr_size wh_places) t.heap) A) args s 0 0 A := ⟨_, rfl⟩
  rw [← hZ]
  have hw : SW D A s.heap (wdC cI cL cZ ad ga_sightings ga_bestShifts ga_commonLength ga_allTimes gr_width gr_height gr_size gr_kinds gr_before gr_columns gr_rows gr_floorCells gr_clearCells gr_standCells gr_firstColumn gr_lastColumn pi_cells pi_facings pi_sets pi_size po_needs ro_cells ro_lengths ro_shifts si_sightLaw si_sightRange th_unseen th_goals th_commonLength tr_marks tr_visited tr_size wh_places) s.heap [] := ⟨hP0, hD0, va_S.rf⟩
  clear hP0 hD0 B
  unfold P_ro_drop at h
  have he : entryFrame m args 3 = entryFrame m ([.ref (ad 4), .int x1] : List Value).toArray 3 := by rw [hav]
  refine W.eq he ?_
  have hl := lv_entry ([.ref (ad 4), .int x1]) (n := 3) (Nat.le_of_ble_eq_true rfl)
  rw [lg_entry_eq]
  generalize (lg_sl ([.ref (ad 4), .int x1]) ++ List.replicate (3 - (lg_sl ([.ref (ad 4), .int x1])).length) Slot.unset).toArray = ls at hl ⊢
  have hl : lv_has ls 3 [(0, .ref (ad 4)), (1, .int x1)] := hl
  refine lv_aload_n hx hb dX4_drop_0 rfl (lv_at hl 0 rfl) ?_
  refine gC_ro_lengths hx hb hts hin hown hK hw lk15 dX4_drop_1 ?_
  refine lv_iload_n hx hb dX4_drop_4 rfl (lv_at hl 1 rfl) ?_
  refine aC_ro_lengths hx hb hK hw h.1 dX4_drop_5 ?_
  replace h := h.2
  refine lv_topi (fun x2_6 ex2_6 => ?_)
  replace h := h x2_6 ex2_6
  refine lv_istore_n (lv' := [(2, .int x2_6), (0, .ref (ad 4)), (1, .int x1)]) hx hb dX4_drop_6 rfl hl (by decide) rfl (fun ls hl => ?_)
  refine lv_aload_n hx hb dX4_drop_7 rfl (lv_at hl 1 rfl) ?_
  refine gC_ro_lengths hx hb hts hin hown hK hw lk15 dX4_drop_8 ?_
  refine lv_iload_n hx hb dX4_drop_11 rfl (lv_at hl 2 rfl) ?_
  refine lv_iconst (v := 0) hx hb dX4_drop_12 (by decide) ?_
  refine tC_ro_lengths hx hb hK hw h.1 dX4_drop_13 (fun H locs hw => ?_)
  replace h := h.2
  refine lv_iload_n hx hb dX4_drop_14 rfl (lv_at hl 0 rfl) ?_
  rw [hZ]
  exact rt_i (upd ro_lengths x1.toNatClampNeg (0 : Int32)) hx hb hr hlocks hw h dX4_drop_15
def rm_ro_placeAt : Room := { frames := 1, cells := 0, slots := 0, locals := 22 }
set_option maxHeartbeats 4000000 in
set_option maxRecDepth 100000 in
theorem c_ro_placeAt {l : Launch} {D : va_G} {cI cL cZ : ClassId} {mx my : Nat} {A : Nat → Prop} {ad : Nat → Nat} {ga_sightings th_unseen th_goals tr_visited : Nat → Int64} {ga_bestShifts gr_kinds gr_before gr_columns gr_rows pi_cells pi_facings pi_sets po_needs ro_cells ro_lengths ro_shifts tr_marks wh_places : Nat → Int32} {ga_commonLength gr_width gr_height gr_size pi_size si_sightLaw si_sightRange th_commonLength tr_size : Int32} {ga_allTimes gr_floorCells gr_clearCells gr_standCells gr_firstColumn gr_lastColumn : Int64} (x1 : Int32) (x2 : Int32) {Q : Int32 → Prop} (h : P_ro_placeAt ro_cells ro_lengths ro_shifts x1 x2 Q) : Met l yX4_placeAt wsX4_placeAt rm_ro_placeAt (va_Pc [.ref (ad 4), .int x1, .int x2] (WC D cI cL cZ mx my A (wdC cI cL cZ ad ga_sightings ga_bestShifts ga_commonLength ga_allTimes gr_width gr_height gr_size gr_kinds gr_before gr_columns gr_rows gr_floorCells gr_clearCells gr_standCells gr_firstColumn gr_lastColumn pi_cells pi_facings pi_sets pi_size po_needs ro_cells ro_lengths ro_shifts si_sightLaw si_sightRange th_unseen th_goals th_commonLength tr_marks tr_visited tr_size wh_places))) (va_Qi (fun (r : Int32) (u : Unit) => Q r) (fun (u : Unit) t => PW D A (wdC cI cL cZ ad ga_sightings ga_bestShifts ga_commonLength ga_allTimes gr_width gr_height gr_size gr_kinds gr_before gr_columns gr_rows gr_floorCells gr_clearCells gr_standCells gr_firstColumn gr_lastColumn pi_cells pi_facings pi_sets pi_size po_needs ro_cells ro_lengths ro_shifts si_sightLaw si_sightRange th_unseen th_goals th_commonLength tr_marks tr_visited tr_size wh_places) t.heap) A) 0 0 A := by
  refine Met.ofW (cc := cX4_placeAt) (maxL := 4) (ret := (some .int)) (by decide) rfl ?_
  intro p e s m args below meth c s₁ B hml hv
  obtain ⟨hav, hP0, hD0, hK⟩ := hv
  have hx := B.exec
  have hb := B.bytes
  have hr := B.returns
  have hts := atoms_spec (ws := wsX4_placeAt) B.pre
  have hown : s.vm.findClass RX4 = some m.cls := findClass_of_methodNamed B.named
  have hlocks := B.notSynchronized
  have hB : ∀ w ∈ BIG, w ∈ wsX4_placeAt := fun _ h => List.mem_cons_of_mem _ h
  have hin : ∀ w ∈ wsX40, w ∈ wsX4_placeAt := fun w h => hB w (inB_X4 w h)
  have lk15 := hts _ (hB _ m_189)
  have lk18 := hts _ (hB _ m_190)
  obtain ⟨Z, hZ⟩ : ∃ Z : State → Prop, Z = MQ below (va_Qi (fun (r : Int32) (u : Unit) => Q r) (fun (u : Unit) t => PW D A (wdC cI cL cZ ad ga_sightings ga_bestShifts ga_commonLength ga_allTimes gr_width gr_height gr_size gr_kinds gr_before gr_columns gr_rows gr_floorCells gr_clearCells gr_standCells gr_firstColumn gr_lastColumn pi_cells pi_facings pi_sets pi_size po_needs ro_cells ro_lengths ro_shifts si_sightLaw si_sightRange th_unseen th_goals th_commonLength tr_marks tr_visited tr_size wh_places) t.heap) A) args s 0 0 A := ⟨_, rfl⟩
  rw [← hZ]
  have hw : SW D A s.heap (wdC cI cL cZ ad ga_sightings ga_bestShifts ga_commonLength ga_allTimes gr_width gr_height gr_size gr_kinds gr_before gr_columns gr_rows gr_floorCells gr_clearCells gr_standCells gr_firstColumn gr_lastColumn pi_cells pi_facings pi_sets pi_size po_needs ro_cells ro_lengths ro_shifts si_sightLaw si_sightRange th_unseen th_goals th_commonLength tr_marks tr_visited tr_size wh_places) s.heap [] := ⟨hP0, hD0, va_S.rf⟩
  clear hP0 hD0 B
  unfold P_ro_placeAt at h
  have he : entryFrame m args 4 = entryFrame m ([.ref (ad 4), .int x1, .int x2] : List Value).toArray 4 := by rw [hav]
  refine W.eq he ?_
  have hl := lv_entry ([.ref (ad 4), .int x1, .int x2]) (n := 4) (Nat.le_of_ble_eq_true rfl)
  rw [lg_entry_eq]
  generalize (lg_sl ([.ref (ad 4), .int x1, .int x2]) ++ List.replicate (4 - (lg_sl ([.ref (ad 4), .int x1, .int x2])).length) Slot.unset).toArray = ls at hl ⊢
  have hl : lv_has ls 4 [(0, .ref (ad 4)), (1, .int x1), (2, .int x2)] := hl
  refine lv_aload_n hx hb dX4_placeAt_0 rfl (lv_at hl 0 rfl) ?_
  refine gC_ro_lengths hx hb hts hin hown hK hw lk15 dX4_placeAt_1 ?_
  refine lv_iload_n hx hb dX4_placeAt_4 rfl (lv_at hl 1 rfl) ?_
  refine aC_ro_lengths hx hb hK hw h.1 dX4_placeAt_5 ?_
  replace h := h.2
  refine lv_topi (fun x3_6 ex3_6 => ?_)
  replace h := h x3_6 ex3_6
  refine lv_istore_n (lv' := [(3, .int x3_6), (0, .ref (ad 4)), (1, .int x1), (2, .int x2)]) hx hb dX4_placeAt_6 rfl hl (by decide) rfl (fun ls hl => ?_)
  refine lv_iload_n hx hb dX4_placeAt_7 rfl (lv_at hl 0 rfl) ?_
  refine lv_if_ne (tgt := 16) hx hb dX4_placeAt_8 (by decide) (fun hc => ?_) (fun hc => ?_)
  · replace h := h.2 hc
    refine lv_aload_n hx hb dX4_placeAt_16 rfl (lv_at hl 1 rfl) ?_
    refine lv_iload_n hx hb dX4_placeAt_17 rfl (lv_at hl 2 rfl) ?_
    refine lv_iload_n hx hb dX4_placeAt_18 rfl (lv_at hl 3 rfl) ?_
    refine lv_aload_n hx hb dX4_placeAt_19 rfl (lv_at hl 1 rfl) ?_
    refine gC_ro_shifts hx hb hts hin hown hK hw lk18 dX4_placeAt_20 ?_
    refine lv_iload_n hx hb dX4_placeAt_23 rfl (lv_at hl 2 rfl) ?_
    refine aC_ro_shifts hx hb hK hw h.1 dX4_placeAt_24 ?_
    replace h := h.2
    refine lv_iadd hx hb dX4_placeAt_25 ?_
    refine lv_iload_n hx hb dX4_placeAt_26 rfl (lv_at hl 0 rfl) ?_
    refine lv_irem hx hb dX4_placeAt_27 h.1 ?_
    replace h := h.2
    refine cV_i (b := (ad 4)) (As := [.int x1, .int ((x2 + (ro_shifts x1.toNatClampNeg)) - (x2 + (ro_shifts x1.toNatClampNeg)) / x3_6 * x3_6)]) (rest := []) ⟨hx, hb, hml, hown, hts⟩ hK hw (c_ro_cellOf x1 ((x2 + (ro_shifts x1.toNatClampNeg)) - (x2 + (ro_shifts x1.toNatClampNeg)) / x3_6 * x3_6) h) (cwV 2 hts (gd_RX4_27 hB) rfl rfl rfl (by decide +kernel) ⟨Nat.le_of_ble_eq_true rfl, Nat.le_of_ble_eq_true rfl⟩) (rC_ro hK hw) hl.1 ⟨Nat.zero_le _, Nat.zero_le _⟩ rfl rfl (Nat.le_of_ble_eq_true rfl) dX4_placeAt_28 (fun r28 _ H locs h hw => ?_)
    rw [hZ]
    exact rt_i () hx hb hr hlocks hw h dX4_placeAt_31
  · replace h := h.1 hc
    refine lv_bipush (v := (-9)) hx hb dX4_placeAt_11 (by decide) ?_
    refine lv_goto (tgt := 31) hx hb dX4_placeAt_13 (by decide) ?_
    rw [hZ]
    exact rt_i () hx hb hr hlocks hw h dX4_placeAt_31
def rm_ro_howMany : Room := { frames := 0, cells := 0, slots := 0, locals := 0 }
set_option maxHeartbeats 4000000 in
set_option maxRecDepth 100000 in
theorem c_ro_howMany {l : Launch} {D : va_G} {cI cL cZ : ClassId} {mx my : Nat} {A : Nat → Prop} {ad : Nat → Nat} {ga_sightings th_unseen th_goals tr_visited : Nat → Int64} {ga_bestShifts gr_kinds gr_before gr_columns gr_rows pi_cells pi_facings pi_sets po_needs ro_cells ro_lengths ro_shifts tr_marks wh_places : Nat → Int32} {ga_commonLength gr_width gr_height gr_size pi_size si_sightLaw si_sightRange th_commonLength tr_size : Int32} {ga_allTimes gr_floorCells gr_clearCells gr_standCells gr_firstColumn gr_lastColumn : Int64}  {Q : Int32 → Prop} (h : P_ro_howMany ro_lengths Q) : Met l yX4_howMany wsX4_howMany rm_ro_howMany (va_Pc [.ref (ad 4)] (WC D cI cL cZ mx my A (wdC cI cL cZ ad ga_sightings ga_bestShifts ga_commonLength ga_allTimes gr_width gr_height gr_size gr_kinds gr_before gr_columns gr_rows gr_floorCells gr_clearCells gr_standCells gr_firstColumn gr_lastColumn pi_cells pi_facings pi_sets pi_size po_needs ro_cells ro_lengths ro_shifts si_sightLaw si_sightRange th_unseen th_goals th_commonLength tr_marks tr_visited tr_size wh_places))) (va_Qi (fun (r : Int32) (u : Unit) => Q r) (fun (u : Unit) t => PW D A (wdC cI cL cZ ad ga_sightings ga_bestShifts ga_commonLength ga_allTimes gr_width gr_height gr_size gr_kinds gr_before gr_columns gr_rows gr_floorCells gr_clearCells gr_standCells gr_firstColumn gr_lastColumn pi_cells pi_facings pi_sets pi_size po_needs ro_cells ro_lengths ro_shifts si_sightLaw si_sightRange th_unseen th_goals th_commonLength tr_marks tr_visited tr_size wh_places) t.heap) A) 0 0 A := by
  refine Met.ofW (cc := cX4_howMany) (maxL := 3) (ret := (some .int)) (by decide) rfl ?_
  intro p e s m args below meth c s₁ B hml hv
  obtain ⟨hav, hP0, hD0, hK⟩ := hv
  have hx := B.exec
  have hb := B.bytes
  have hr := B.returns
  have hts := atoms_spec (ws := wsX4_howMany) B.pre
  have hown : s.vm.findClass RX4 = some m.cls := findClass_of_methodNamed B.named
  have hlocks := B.notSynchronized
  have hB : ∀ w ∈ BIG, w ∈ wsX4_howMany := fun _ h => List.mem_cons_of_mem _ h
  have hin : ∀ w ∈ wsX40, w ∈ wsX4_howMany := fun w h => hB w (inB_X4 w h)
  have lk15 := hts _ (hB _ m_189)
  obtain ⟨Z, hZ⟩ : ∃ Z : State → Prop, Z = MQ below (va_Qi (fun (r : Int32) (u : Unit) => Q r) (fun (u : Unit) t => PW D A (wdC cI cL cZ ad ga_sightings ga_bestShifts ga_commonLength ga_allTimes gr_width gr_height gr_size gr_kinds gr_before gr_columns gr_rows gr_floorCells gr_clearCells gr_standCells gr_firstColumn gr_lastColumn pi_cells pi_facings pi_sets pi_size po_needs ro_cells ro_lengths ro_shifts si_sightLaw si_sightRange th_unseen th_goals th_commonLength tr_marks tr_visited tr_size wh_places) t.heap) A) args s 0 0 A := ⟨_, rfl⟩
  rw [← hZ]
  have hw : SW D A s.heap (wdC cI cL cZ ad ga_sightings ga_bestShifts ga_commonLength ga_allTimes gr_width gr_height gr_size gr_kinds gr_before gr_columns gr_rows gr_floorCells gr_clearCells gr_standCells gr_firstColumn gr_lastColumn pi_cells pi_facings pi_sets pi_size po_needs ro_cells ro_lengths ro_shifts si_sightLaw si_sightRange th_unseen th_goals th_commonLength tr_marks tr_visited tr_size wh_places) s.heap [] := ⟨hP0, hD0, va_S.rf⟩
  clear hP0 hD0 B
  have J4 : ∀ (n : Nat) (x1 : Int32) (x2 : Int32) , L_ro_howMany_4 ro_lengths Q n x1 x2 → ∀ (H : Heap) (locs : List Loc) (ls : Array Slot), SW D A s.heap (wdC cI cL cZ ad ga_sightings ga_bestShifts ga_commonLength ga_allTimes gr_width gr_height gr_size gr_kinds gr_before gr_columns gr_rows gr_floorCells gr_clearCells gr_standCells gr_firstColumn gr_lastColumn pi_cells pi_facings pi_sets pi_size po_needs ro_cells ro_lengths ro_shifts si_sightLaw si_sightRange th_unseen th_goals th_commonLength tr_marks tr_visited tr_size wh_places) H locs → lv_has ls 3 [(0, .ref (ad 4)), (1, .int x1), (2, .int x2)] → W p l e (headSpec wsX4_howMany rm_ro_howMany).room s m args below meth c H locs 0 0 Z (F0 m 4 ls []) := by
    intro  n
    induction n with
    | zero => intro x1 x2 h; exact h.elim
    | succ n ih =>
    intro x1 x2 h H locs ls hw hl
    unfold L_ro_howMany_4 at h
    refine lv_iload_n hx hb dX4_howMany_4 rfl (lv_at hl 2 rfl) ?_
    refine lv_iconst (v := 4) hx hb dX4_howMany_5 (by decide) ?_
    refine lv_icmp_ge (tgt := 32) hx hb dX4_howMany_6 (by decide) (fun hc => ?_) (fun hc => ?_)
    · replace h := h.1 hc
      refine lv_iload_n hx hb dX4_howMany_32 rfl (lv_at hl 1 rfl) ?_
      rw [hZ]
      exact rt_i () hx hb hr hlocks hw h dX4_howMany_33
    · replace h := h.2 hc
      refine lv_iload_n hx hb dX4_howMany_9 rfl (lv_at hl 1 rfl) ?_
      refine lv_aload_n hx hb dX4_howMany_10 rfl (lv_at hl 0 rfl) ?_
      refine gC_ro_lengths hx hb hts hin hown hK hw lk15 dX4_howMany_11 ?_
      refine lv_iload_n hx hb dX4_howMany_14 rfl (lv_at hl 2 rfl) ?_
      refine aC_ro_lengths hx hb hK hw h.1 dX4_howMany_15 ?_
      replace h := h.2
      refine lv_if_le (tgt := 23) hx hb dX4_howMany_16 (by decide) (fun hc => ?_) (fun hc => ?_)
      · replace h := h.1 hc
        refine lv_iconst (v := 0) hx hb dX4_howMany_23 (by decide) ?_
        refine lv_iadd hx hb dX4_howMany_24 ?_
        refine lv_istore_n (lv' := [(1, .int (x1 + (0 : Int32))), (0, .ref (ad 4)), (2, .int x2)]) hx hb dX4_howMany_25 rfl hl (by decide) rfl (fun ls hl => ?_)
        refine lv_iinc (v := (x2 + (1 : Int32))) (lv' := [(2, .int (x2 + (1 : Int32))), (1, .int (x1 + (0 : Int32))), (0, .ref (ad 4))]) hx hb dX4_howMany_26 hl (k := 2) rfl rfl (by decide) rfl (fun ls hl => ?_)
        refine lv_goto (tgt := 4) hx hb dX4_howMany_29 (by decide) ?_
        exact ih _ _ h _ _ _ hw (lv_sub hl [2, 1, 0] rfl)
      · replace h := h.2 hc
        refine lv_iconst (v := 1) hx hb dX4_howMany_19 (by decide) ?_
        refine lv_goto (tgt := 24) hx hb dX4_howMany_20 (by decide) ?_
        refine lv_iadd hx hb dX4_howMany_24 ?_
        refine lv_istore_n (lv' := [(1, .int (x1 + (1 : Int32))), (0, .ref (ad 4)), (2, .int x2)]) hx hb dX4_howMany_25 rfl hl (by decide) rfl (fun ls hl => ?_)
        refine lv_iinc (v := (x2 + (1 : Int32))) (lv' := [(2, .int (x2 + (1 : Int32))), (1, .int (x1 + (1 : Int32))), (0, .ref (ad 4))]) hx hb dX4_howMany_26 hl (k := 2) rfl rfl (by decide) rfl (fun ls hl => ?_)
        refine lv_goto (tgt := 4) hx hb dX4_howMany_29 (by decide) ?_
        exact ih _ _ h _ _ _ hw (lv_sub hl [2, 1, 0] rfl)
  unfold P_ro_howMany at h
  have he : entryFrame m args 3 = entryFrame m ([.ref (ad 4)] : List Value).toArray 3 := by rw [hav]
  refine W.eq he ?_
  have hl := lv_entry ([.ref (ad 4)]) (n := 3) (Nat.le_of_ble_eq_true rfl)
  rw [lg_entry_eq]
  generalize (lg_sl ([.ref (ad 4)]) ++ List.replicate (3 - (lg_sl ([.ref (ad 4)])).length) Slot.unset).toArray = ls at hl ⊢
  have hl : lv_has ls 3 [(0, .ref (ad 4))] := hl
  refine lv_iconst (v := 0) hx hb dX4_howMany_0 (by decide) ?_
  refine lv_istore_n (lv' := [(1, .int (0 : Int32)), (0, .ref (ad 4))]) hx hb dX4_howMany_1 rfl hl (by decide) rfl (fun ls hl => ?_)
  refine lv_iconst (v := 0) hx hb dX4_howMany_2 (by decide) ?_
  refine lv_istore_n (lv' := [(2, .int (0 : Int32)), (1, .int (0 : Int32)), (0, .ref (ad 4))]) hx hb dX4_howMany_3 rfl hl (by decide) rfl (fun ls hl => ?_)
  obtain ⟨n4, h⟩ := h
  exact J4  n4 _ _ h _ _ _ hw (lv_sub hl [2, 1, 0] rfl)
def rm_ro_relocate : Room := { frames := 0, cells := 0, slots := 0, locals := 0 }
set_option maxHeartbeats 4000000 in
set_option maxRecDepth 100000 in
theorem c_ro_relocate {l : Launch} {D : va_G} {cI cL cZ : ClassId} {mx my : Nat} {A : Nat → Prop} {ad : Nat → Nat} {ga_sightings th_unseen th_goals tr_visited : Nat → Int64} {ga_bestShifts gr_kinds gr_before gr_columns gr_rows pi_cells pi_facings pi_sets po_needs ro_cells ro_lengths ro_shifts tr_marks wh_places : Nat → Int32} {ga_commonLength gr_width gr_height gr_size pi_size si_sightLaw si_sightRange th_commonLength tr_size : Int32} {ga_allTimes gr_floorCells gr_clearCells gr_standCells gr_firstColumn gr_lastColumn : Int64}  {Q : (Nat → Int32) → Prop} (h : P_ro_relocate ro_cells ro_lengths wh_places Q) : Met l yX4_relocate wsX4_relocate rm_ro_relocate (va_Pc [.ref (ad 4), .ref (ad 27)] (WC D cI cL cZ mx my A (wdC cI cL cZ ad ga_sightings ga_bestShifts ga_commonLength ga_allTimes gr_width gr_height gr_size gr_kinds gr_before gr_columns gr_rows gr_floorCells gr_clearCells gr_standCells gr_firstColumn gr_lastColumn pi_cells pi_facings pi_sets pi_size po_needs ro_cells ro_lengths ro_shifts si_sightLaw si_sightRange th_unseen th_goals th_commonLength tr_marks tr_visited tr_size wh_places))) (va_Qv (fun (u : (Nat → Int32)) => Q u) (fun (u : (Nat → Int32)) t => PW D A (wdC cI cL cZ ad ga_sightings ga_bestShifts ga_commonLength ga_allTimes gr_width gr_height gr_size gr_kinds gr_before gr_columns gr_rows gr_floorCells gr_clearCells gr_standCells gr_firstColumn gr_lastColumn pi_cells pi_facings pi_sets pi_size po_needs u ro_lengths ro_shifts si_sightLaw si_sightRange th_unseen th_goals th_commonLength tr_marks tr_visited tr_size wh_places) t.heap) A) 0 0 A := by
  refine Met.ofW (cc := cX4_relocate) (maxL := 4) (ret := none) (by decide) rfl ?_
  intro p e s m args below meth c s₁ B hml hv
  obtain ⟨hav, hP0, hD0, hK⟩ := hv
  have hx := B.exec
  have hb := B.bytes
  have hr := B.returns
  have hts := atoms_spec (ws := wsX4_relocate) B.pre
  have hown : s.vm.findClass RX4 = some m.cls := findClass_of_methodNamed B.named
  have hlocks := B.notSynchronized
  have hB : ∀ w ∈ BIG, w ∈ wsX4_relocate := fun _ h => List.mem_cons_of_mem _ h
  have hin : ∀ w ∈ wsX40, w ∈ wsX4_relocate := fun w h => hB w (inB_X4 w h)
  have lk9 := hts _ (hB _ m_188)
  have lk15 := hts _ (hB _ m_189)
  obtain ⟨Z, hZ⟩ : ∃ Z : State → Prop, Z = MQ below (va_Qv (fun (u : (Nat → Int32)) => Q u) (fun (u : (Nat → Int32)) t => PW D A (wdC cI cL cZ ad ga_sightings ga_bestShifts ga_commonLength ga_allTimes gr_width gr_height gr_size gr_kinds gr_before gr_columns gr_rows gr_floorCells gr_clearCells gr_standCells gr_firstColumn gr_lastColumn pi_cells pi_facings pi_sets pi_size po_needs u ro_lengths ro_shifts si_sightLaw si_sightRange th_unseen th_goals th_commonLength tr_marks tr_visited tr_size wh_places) t.heap) A) args s 0 0 A := ⟨_, rfl⟩
  rw [← hZ]
  have hw : SW D A s.heap (wdC cI cL cZ ad ga_sightings ga_bestShifts ga_commonLength ga_allTimes gr_width gr_height gr_size gr_kinds gr_before gr_columns gr_rows gr_floorCells gr_clearCells gr_standCells gr_firstColumn gr_lastColumn pi_cells pi_facings pi_sets pi_size po_needs ro_cells ro_lengths ro_shifts si_sightLaw si_sightRange th_unseen th_goals th_commonLength tr_marks tr_visited tr_size wh_places) s.heap [] := ⟨hP0, hD0, va_S.rf⟩
  clear hP0 hD0 B
  have J9 : ∀ (k2 : (Nat → Int32) → Int32 → Prop) (hk2 : ∀ (ro_cells : (Nat → Int32)) (x2 : Int32) , k2 ro_cells x2 → ∀ (H : Heap) (locs : List Loc) (ls : Array Slot), SW D A s.heap (wdC cI cL cZ ad ga_sightings ga_bestShifts ga_commonLength ga_allTimes gr_width gr_height gr_size gr_kinds gr_before gr_columns gr_rows gr_floorCells gr_clearCells gr_standCells gr_firstColumn gr_lastColumn pi_cells pi_facings pi_sets pi_size po_needs ro_cells ro_lengths ro_shifts si_sightLaw si_sightRange th_unseen th_goals th_commonLength tr_marks tr_visited tr_size wh_places) H locs → lv_has ls 4 [(0, .ref (ad 4)), (1, .ref (ad 27)), (2, .int x2)] → W p l e (headSpec wsX4_relocate rm_ro_relocate).room s m args below meth c H locs 0 0 Z (F0 m 2 ls [])) (n : Nat) (ro_cells : (Nat → Int32)) (x2 : Int32) (x3 : Int32) , L_ro_relocate_9 ro_lengths wh_places Q k2 n ro_cells x2 x3 → ∀ (H : Heap) (locs : List Loc) (ls : Array Slot), SW D A s.heap (wdC cI cL cZ ad ga_sightings ga_bestShifts ga_commonLength ga_allTimes gr_width gr_height gr_size gr_kinds gr_before gr_columns gr_rows gr_floorCells gr_clearCells gr_standCells gr_firstColumn gr_lastColumn pi_cells pi_facings pi_sets pi_size po_needs ro_cells ro_lengths ro_shifts si_sightLaw si_sightRange th_unseen th_goals th_commonLength tr_marks tr_visited tr_size wh_places) H locs → lv_has ls 4 [(0, .ref (ad 4)), (1, .ref (ad 27)), (2, .int x2), (3, .int x3)] → W p l e (headSpec wsX4_relocate rm_ro_relocate).room s m args below meth c H locs 0 0 Z (F0 m 9 ls []) := by
    intro k2 hk2 n
    induction n with
    | zero => intro ro_cells x2 x3 h; exact h.elim
    | succ n ih =>
    intro ro_cells x2 x3 h H locs ls hw hl
    unfold L_ro_relocate_9 at h
    refine lv_iload_n hx hb dX4_relocate_9 rfl (lv_at hl 3 rfl) ?_
    refine lv_aload_n hx hb dX4_relocate_10 rfl (lv_at hl 0 rfl) ?_
    refine gC_ro_lengths hx hb hts hin hown hK hw lk15 dX4_relocate_11 ?_
    refine lv_iload_n hx hb dX4_relocate_14 rfl (lv_at hl 2 rfl) ?_
    refine aC_ro_lengths hx hb hK hw h.1 dX4_relocate_15 ?_
    replace h := h.2
    refine lv_icmp_ge (tgt := 49) hx hb dX4_relocate_16 (by decide) (fun hc => ?_) (fun hc => ?_)
    · replace h := h.1 hc
      refine lv_iinc (v := (x2 + (1 : Int32))) (lv' := [(2, .int (x2 + (1 : Int32))), (0, .ref (ad 4)), (1, .ref (ad 27)), (3, .int x3)]) hx hb dX4_relocate_49 hl (k := 2) rfl rfl (by decide) rfl (fun ls hl => ?_)
      refine lv_goto (tgt := 2) hx hb dX4_relocate_52 (by decide) ?_
      exact hk2 _ _ h _ _ _ hw (lv_sub hl [1, 2, 0] rfl)
    · replace h := h.2 hc
      refine lv_aload_n hx hb dX4_relocate_19 rfl (lv_at hl 0 rfl) ?_
      refine gC_ro_cells hx hb hts hin hown hK hw lk9 dX4_relocate_20 ?_
      refine lv_iload_n hx hb dX4_relocate_23 rfl (lv_at hl 2 rfl) ?_
      refine lv_bipush (v := 6) hx hb dX4_relocate_24 (by decide) ?_
      refine lv_imul hx hb dX4_relocate_26 ?_
      refine lv_iload_n hx hb dX4_relocate_27 rfl (lv_at hl 3 rfl) ?_
      refine lv_iadd hx hb dX4_relocate_28 ?_
      refine lv_aload_n hx hb dX4_relocate_29 rfl (lv_at hl 1 rfl) ?_
      refine lv_aload_n hx hb dX4_relocate_30 rfl (lv_at hl 0 rfl) ?_
      refine gC_ro_cells hx hb hts hin hown hK hw lk9 dX4_relocate_31 ?_
      refine lv_iload_n hx hb dX4_relocate_34 rfl (lv_at hl 2 rfl) ?_
      refine lv_bipush (v := 6) hx hb dX4_relocate_35 (by decide) ?_
      refine lv_imul hx hb dX4_relocate_37 ?_
      refine lv_iload_n hx hb dX4_relocate_38 rfl (lv_at hl 3 rfl) ?_
      refine lv_iadd hx hb dX4_relocate_39 ?_
      refine aC_ro_cells hx hb hK hw h.1 dX4_relocate_40 ?_
      replace h := h.2
      refine aC_wh_places hx hb hK hw h.1 dX4_relocate_41 ?_
      replace h := h.2
      refine tC_ro_cells hx hb hK hw h.1 dX4_relocate_42 (fun H locs hw => ?_)
      replace h := h.2
      refine lv_iinc (v := (x3 + (1 : Int32))) (lv' := [(3, .int (x3 + (1 : Int32))), (0, .ref (ad 4)), (1, .ref (ad 27)), (2, .int x2)]) hx hb dX4_relocate_43 hl (k := 3) rfl rfl (by decide) rfl (fun ls hl => ?_)
      refine lv_goto (tgt := 9) hx hb dX4_relocate_46 (by decide) ?_
      exact ih _ _ _ h _ _ _ hw (lv_sub hl [1, 2, 3, 0] rfl)
  have J2 : ∀ (n : Nat) (ro_cells : (Nat → Int32)) (x2 : Int32) , L_ro_relocate_2 ro_lengths wh_places Q n ro_cells x2 → ∀ (H : Heap) (locs : List Loc) (ls : Array Slot), SW D A s.heap (wdC cI cL cZ ad ga_sightings ga_bestShifts ga_commonLength ga_allTimes gr_width gr_height gr_size gr_kinds gr_before gr_columns gr_rows gr_floorCells gr_clearCells gr_standCells gr_firstColumn gr_lastColumn pi_cells pi_facings pi_sets pi_size po_needs ro_cells ro_lengths ro_shifts si_sightLaw si_sightRange th_unseen th_goals th_commonLength tr_marks tr_visited tr_size wh_places) H locs → lv_has ls 4 [(0, .ref (ad 4)), (1, .ref (ad 27)), (2, .int x2)] → W p l e (headSpec wsX4_relocate rm_ro_relocate).room s m args below meth c H locs 0 0 Z (F0 m 2 ls []) := by
    intro  n
    induction n with
    | zero => intro ro_cells x2 h; exact h.elim
    | succ n ih =>
    intro ro_cells x2 h H locs ls hw hl
    unfold L_ro_relocate_2 at h
    refine lv_iload_n hx hb dX4_relocate_2 rfl (lv_at hl 2 rfl) ?_
    refine lv_iconst (v := 4) hx hb dX4_relocate_3 (by decide) ?_
    refine lv_icmp_ge (tgt := 55) hx hb dX4_relocate_4 (by decide) (fun hc => ?_) (fun hc => ?_)
    · replace h := h.1 hc
      rw [hZ]
      exact rt_v ro_cells hx hb hr hlocks hw h dX4_relocate_55
    · replace h := h.2 hc
      refine lv_iconst (v := 0) hx hb dX4_relocate_7 (by decide) ?_
      refine lv_istore_n (lv' := [(3, .int (0 : Int32)), (0, .ref (ad 4)), (1, .ref (ad 27)), (2, .int x2)]) hx hb dX4_relocate_8 rfl hl (by decide) rfl (fun ls hl => ?_)
      obtain ⟨n9, h⟩ := h
      exact J9 (L_ro_relocate_2 ro_lengths wh_places Q n) ih n9 _ _ _ h _ _ _ hw (lv_sub hl [1, 2, 3, 0] rfl)
  unfold P_ro_relocate at h
  have he : entryFrame m args 4 = entryFrame m ([.ref (ad 4), .ref (ad 27)] : List Value).toArray 4 := by rw [hav]
  refine W.eq he ?_
  have hl := lv_entry ([.ref (ad 4), .ref (ad 27)]) (n := 4) (Nat.le_of_ble_eq_true rfl)
  rw [lg_entry_eq]
  generalize (lg_sl ([.ref (ad 4), .ref (ad 27)]) ++ List.replicate (4 - (lg_sl ([.ref (ad 4), .ref (ad 27)])).length) Slot.unset).toArray = ls at hl ⊢
  have hl : lv_has ls 4 [(0, .ref (ad 4)), (1, .ref (ad 27))] := hl
  refine lv_iconst (v := 0) hx hb dX4_relocate_0 (by decide) ?_
  refine lv_istore_n (lv' := [(2, .int (0 : Int32)), (0, .ref (ad 4)), (1, .ref (ad 27))]) hx hb dX4_relocate_1 rfl hl (by decide) rfl (fun ls hl => ?_)
  obtain ⟨n2, h⟩ := h
  exact J2  n2 _ _ h _ _ _ hw (lv_sub hl [1, 2, 0] rfl)
def rm_si_changeLaw : Room := { frames := 0, cells := 0, slots := 0, locals := 0 }
set_option maxHeartbeats 4000000 in
set_option maxRecDepth 100000 in
theorem c_si_changeLaw {l : Launch} {D : va_G} {cI cL cZ : ClassId} {mx my : Nat} {A : Nat → Prop} {ad : Nat → Nat} {ga_sightings th_unseen th_goals tr_visited : Nat → Int64} {ga_bestShifts gr_kinds gr_before gr_columns gr_rows pi_cells pi_facings pi_sets po_needs ro_cells ro_lengths ro_shifts tr_marks wh_places : Nat → Int32} {ga_commonLength gr_width gr_height gr_size pi_size si_sightLaw si_sightRange th_commonLength tr_size : Int32} {ga_allTimes gr_floorCells gr_clearCells gr_standCells gr_firstColumn gr_lastColumn : Int64} (x1 : Int32) {Q : Int32 → Int32 → Prop} (h : P_si_changeLaw si_sightLaw x1 Q) : Met l yX5_changeLaw wsX5_changeLaw rm_si_changeLaw (va_Pc [.ref (ad 5), .int x1] (WC D cI cL cZ mx my A (wdC cI cL cZ ad ga_sightings ga_bestShifts ga_commonLength ga_allTimes gr_width gr_height gr_size gr_kinds gr_before gr_columns gr_rows gr_floorCells gr_clearCells gr_standCells gr_firstColumn gr_lastColumn pi_cells pi_facings pi_sets pi_size po_needs ro_cells ro_lengths ro_shifts si_sightLaw si_sightRange th_unseen th_goals th_commonLength tr_marks tr_visited tr_size wh_places))) (va_Qi (fun (r : Int32) (u : Int32) => Q r u) (fun (u : Int32) t => PW D A (wdC cI cL cZ ad ga_sightings ga_bestShifts ga_commonLength ga_allTimes gr_width gr_height gr_size gr_kinds gr_before gr_columns gr_rows gr_floorCells gr_clearCells gr_standCells gr_firstColumn gr_lastColumn pi_cells pi_facings pi_sets pi_size po_needs ro_cells ro_lengths ro_shifts u si_sightRange th_unseen th_goals th_commonLength tr_marks tr_visited tr_size wh_places) t.heap) A) 0 0 A := by
  refine Met.ofW (cc := cX5_changeLaw) (maxL := 3) (ret := (some .int)) (by decide) rfl ?_
  intro p e s m args below meth c s₁ B hml hv
  obtain ⟨hav, hP0, hD0, hK⟩ := hv
  have hx := B.exec
  have hb := B.bytes
  have hr := B.returns
  have hts := atoms_spec (ws := wsX5_changeLaw) B.pre
  have hown : s.vm.findClass RX5 = some m.cls := findClass_of_methodNamed B.named
  have hlocks := B.notSynchronized
  have hB : ∀ w ∈ BIG, w ∈ wsX5_changeLaw := fun _ h => List.mem_cons_of_mem _ h
  have hin : ∀ w ∈ wsX50, w ∈ wsX5_changeLaw := fun w h => hB w (inB_X5 w h)
  have lk9 := hts _ (hB _ m_148)
  obtain ⟨Z, hZ⟩ : ∃ Z : State → Prop, Z = MQ below (va_Qi (fun (r : Int32) (u : Int32) => Q r u) (fun (u : Int32) t => PW D A (wdC cI cL cZ ad ga_sightings ga_bestShifts ga_commonLength ga_allTimes gr_width gr_height gr_size gr_kinds gr_before gr_columns gr_rows gr_floorCells gr_clearCells gr_standCells gr_firstColumn gr_lastColumn pi_cells pi_facings pi_sets pi_size po_needs ro_cells ro_lengths ro_shifts u si_sightRange th_unseen th_goals th_commonLength tr_marks tr_visited tr_size wh_places) t.heap) A) args s 0 0 A := ⟨_, rfl⟩
  rw [← hZ]
  have hw : SW D A s.heap (wdC cI cL cZ ad ga_sightings ga_bestShifts ga_commonLength ga_allTimes gr_width gr_height gr_size gr_kinds gr_before gr_columns gr_rows gr_floorCells gr_clearCells gr_standCells gr_firstColumn gr_lastColumn pi_cells pi_facings pi_sets pi_size po_needs ro_cells ro_lengths ro_shifts si_sightLaw si_sightRange th_unseen th_goals th_commonLength tr_marks tr_visited tr_size wh_places) s.heap [] := ⟨hP0, hD0, va_S.rf⟩
  clear hP0 hD0 B
  unfold P_si_changeLaw at h
  have he : entryFrame m args 3 = entryFrame m ([.ref (ad 5), .int x1] : List Value).toArray 3 := by rw [hav]
  refine W.eq he ?_
  have hl := lv_entry ([.ref (ad 5), .int x1]) (n := 3) (Nat.le_of_ble_eq_true rfl)
  rw [lg_entry_eq]
  generalize (lg_sl ([.ref (ad 5), .int x1]) ++ List.replicate (3 - (lg_sl ([.ref (ad 5), .int x1])).length) Slot.unset).toArray = ls at hl ⊢
  have hl : lv_has ls 3 [(0, .ref (ad 5)), (1, .int x1)] := hl
  refine lv_aload_n hx hb dX5_changeLaw_0 rfl (lv_at hl 0 rfl) ?_
  refine gC_si_sightLaw hx hb hts hin hown hK hw lk9 dX5_changeLaw_1 ?_
  refine lv_istore_n (lv' := [(2, .int si_sightLaw), (0, .ref (ad 5)), (1, .int x1)]) hx hb dX5_changeLaw_4 rfl hl (by decide) rfl (fun ls hl => ?_)
  refine lv_aload_n hx hb dX5_changeLaw_5 rfl (lv_at hl 1 rfl) ?_
  refine lv_iload_n hx hb dX5_changeLaw_6 rfl (lv_at hl 2 rfl) ?_
  refine sC_si_sightLaw hx hb hts hin hown hK hw lk9 dX5_changeLaw_7 (fun H locs hw => ?_)
  refine lv_iload_n hx hb dX5_changeLaw_10 rfl (lv_at hl 0 rfl) ?_
  rw [hZ]
  exact rt_i x1 hx hb hr hlocks hw h dX5_changeLaw_11
def rm_si_changeRange : Room := { frames := 0, cells := 0, slots := 0, locals := 0 }
set_option maxHeartbeats 4000000 in
set_option maxRecDepth 100000 in
theorem c_si_changeRange {l : Launch} {D : va_G} {cI cL cZ : ClassId} {mx my : Nat} {A : Nat → Prop} {ad : Nat → Nat} {ga_sightings th_unseen th_goals tr_visited : Nat → Int64} {ga_bestShifts gr_kinds gr_before gr_columns gr_rows pi_cells pi_facings pi_sets po_needs ro_cells ro_lengths ro_shifts tr_marks wh_places : Nat → Int32} {ga_commonLength gr_width gr_height gr_size pi_size si_sightLaw si_sightRange th_commonLength tr_size : Int32} {ga_allTimes gr_floorCells gr_clearCells gr_standCells gr_firstColumn gr_lastColumn : Int64} (x1 : Int32) {Q : Int32 → Int32 → Prop} (h : P_si_changeRange si_sightRange x1 Q) : Met l yX5_changeRange wsX5_changeRange rm_si_changeRange (va_Pc [.ref (ad 5), .int x1] (WC D cI cL cZ mx my A (wdC cI cL cZ ad ga_sightings ga_bestShifts ga_commonLength ga_allTimes gr_width gr_height gr_size gr_kinds gr_before gr_columns gr_rows gr_floorCells gr_clearCells gr_standCells gr_firstColumn gr_lastColumn pi_cells pi_facings pi_sets pi_size po_needs ro_cells ro_lengths ro_shifts si_sightLaw si_sightRange th_unseen th_goals th_commonLength tr_marks tr_visited tr_size wh_places))) (va_Qi (fun (r : Int32) (u : Int32) => Q r u) (fun (u : Int32) t => PW D A (wdC cI cL cZ ad ga_sightings ga_bestShifts ga_commonLength ga_allTimes gr_width gr_height gr_size gr_kinds gr_before gr_columns gr_rows gr_floorCells gr_clearCells gr_standCells gr_firstColumn gr_lastColumn pi_cells pi_facings pi_sets pi_size po_needs ro_cells ro_lengths ro_shifts si_sightLaw u th_unseen th_goals th_commonLength tr_marks tr_visited tr_size wh_places) t.heap) A) 0 0 A := by
  refine Met.ofW (cc := cX5_changeRange) (maxL := 3) (ret := (some .int)) (by decide) rfl ?_
  intro p e s m args below meth c s₁ B hml hv
  obtain ⟨hav, hP0, hD0, hK⟩ := hv
  have hx := B.exec
  have hb := B.bytes
  have hr := B.returns
  have hts := atoms_spec (ws := wsX5_changeRange) B.pre
  have hown : s.vm.findClass RX5 = some m.cls := findClass_of_methodNamed B.named
  have hlocks := B.notSynchronized
  have hB : ∀ w ∈ BIG, w ∈ wsX5_changeRange := fun _ h => List.mem_cons_of_mem _ h
  have hin : ∀ w ∈ wsX50, w ∈ wsX5_changeRange := fun w h => hB w (inB_X5 w h)
  have lk15 := hts _ (hB _ m_149)
  obtain ⟨Z, hZ⟩ : ∃ Z : State → Prop, Z = MQ below (va_Qi (fun (r : Int32) (u : Int32) => Q r u) (fun (u : Int32) t => PW D A (wdC cI cL cZ ad ga_sightings ga_bestShifts ga_commonLength ga_allTimes gr_width gr_height gr_size gr_kinds gr_before gr_columns gr_rows gr_floorCells gr_clearCells gr_standCells gr_firstColumn gr_lastColumn pi_cells pi_facings pi_sets pi_size po_needs ro_cells ro_lengths ro_shifts si_sightLaw u th_unseen th_goals th_commonLength tr_marks tr_visited tr_size wh_places) t.heap) A) args s 0 0 A := ⟨_, rfl⟩
  rw [← hZ]
  have hw : SW D A s.heap (wdC cI cL cZ ad ga_sightings ga_bestShifts ga_commonLength ga_allTimes gr_width gr_height gr_size gr_kinds gr_before gr_columns gr_rows gr_floorCells gr_clearCells gr_standCells gr_firstColumn gr_lastColumn pi_cells pi_facings pi_sets pi_size po_needs ro_cells ro_lengths ro_shifts si_sightLaw si_sightRange th_unseen th_goals th_commonLength tr_marks tr_visited tr_size wh_places) s.heap [] := ⟨hP0, hD0, va_S.rf⟩
  clear hP0 hD0 B
  unfold P_si_changeRange at h
  have he : entryFrame m args 3 = entryFrame m ([.ref (ad 5), .int x1] : List Value).toArray 3 := by rw [hav]
  refine W.eq he ?_
  have hl := lv_entry ([.ref (ad 5), .int x1]) (n := 3) (Nat.le_of_ble_eq_true rfl)
  rw [lg_entry_eq]
  generalize (lg_sl ([.ref (ad 5), .int x1]) ++ List.replicate (3 - (lg_sl ([.ref (ad 5), .int x1])).length) Slot.unset).toArray = ls at hl ⊢
  have hl : lv_has ls 3 [(0, .ref (ad 5)), (1, .int x1)] := hl
  refine lv_aload_n hx hb dX5_changeRange_0 rfl (lv_at hl 0 rfl) ?_
  refine gC_si_sightRange hx hb hts hin hown hK hw lk15 dX5_changeRange_1 ?_
  refine lv_istore_n (lv' := [(2, .int si_sightRange), (0, .ref (ad 5)), (1, .int x1)]) hx hb dX5_changeRange_4 rfl hl (by decide) rfl (fun ls hl => ?_)
  refine lv_aload_n hx hb dX5_changeRange_5 rfl (lv_at hl 1 rfl) ?_
  refine lv_iload_n hx hb dX5_changeRange_6 rfl (lv_at hl 2 rfl) ?_
  refine sC_si_sightRange hx hb hts hin hown hK hw lk15 dX5_changeRange_7 (fun H locs hw => ?_)
  refine lv_iload_n hx hb dX5_changeRange_10 rfl (lv_at hl 0 rfl) ?_
  rw [hZ]
  exact rt_i x1 hx hb hr hlocks hw h dX5_changeRange_11
def rm_si_boardFrom : Room := { frames := 3, cells := 0, slots := 0, locals := 77 }
set_option maxHeartbeats 4000000 in
set_option maxRecDepth 100000 in
theorem c_si_boardFrom {l : Launch} {D : va_G} {cI cL cZ : ClassId} {mx my : Nat} {A : Nat → Prop} {ad : Nat → Nat} {ga_sightings th_unseen th_goals tr_visited : Nat → Int64} {ga_bestShifts gr_kinds gr_before gr_columns gr_rows pi_cells pi_facings pi_sets po_needs ro_cells ro_lengths ro_shifts tr_marks wh_places : Nat → Int32} {ga_commonLength gr_width gr_height gr_size pi_size si_sightLaw si_sightRange th_commonLength tr_size : Int32} {ga_allTimes gr_floorCells gr_clearCells gr_standCells gr_firstColumn gr_lastColumn : Int64} (x1 : Int32) {Q : Int64 → Prop} (h : P_si_boardFrom gr_width gr_size gr_columns gr_rows gr_floorCells gr_clearCells gr_standCells si_sightLaw si_sightRange x1 Q) : Met l yX5_boardFrom wsX5_boardFrom rm_si_boardFrom (va_Pc [.ref (ad 5), .int x1] (WC D cI cL cZ mx my A (wdC cI cL cZ ad ga_sightings ga_bestShifts ga_commonLength ga_allTimes gr_width gr_height gr_size gr_kinds gr_before gr_columns gr_rows gr_floorCells gr_clearCells gr_standCells gr_firstColumn gr_lastColumn pi_cells pi_facings pi_sets pi_size po_needs ro_cells ro_lengths ro_shifts si_sightLaw si_sightRange th_unseen th_goals th_commonLength tr_marks tr_visited tr_size wh_places))) (va_Ql (fun (r : Int64) (u : Unit) => Q r) (fun (u : Unit) t => PW D A (wdC cI cL cZ ad ga_sightings ga_bestShifts ga_commonLength ga_allTimes gr_width gr_height gr_size gr_kinds gr_before gr_columns gr_rows gr_floorCells gr_clearCells gr_standCells gr_firstColumn gr_lastColumn pi_cells pi_facings pi_sets pi_size po_needs ro_cells ro_lengths ro_shifts si_sightLaw si_sightRange th_unseen th_goals th_commonLength tr_marks tr_visited tr_size wh_places) t.heap) A) 0 0 A := by
  refine Met.ofW (cc := cX5_boardFrom) (maxL := 5) (ret := (some .long)) (by decide) rfl ?_
  intro p e s m args below meth c s₁ B hml hv
  obtain ⟨hav, hP0, hD0, hK⟩ := hv
  have hx := B.exec
  have hb := B.bytes
  have hr := B.returns
  have hts := atoms_spec (ws := wsX5_boardFrom) B.pre
  have hown : s.vm.findClass RX5 = some m.cls := findClass_of_methodNamed B.named
  have hlocks := B.notSynchronized
  have hB : ∀ w ∈ BIG, w ∈ wsX5_boardFrom := fun _ h => List.mem_cons_of_mem _ h
  have hin : ∀ w ∈ wsX50, w ∈ wsX5_boardFrom := fun w h => hB w (inB_X5 w h)
  have lk18 := hts _ (hB _ m_147)
  obtain ⟨Z, hZ⟩ : ∃ Z : State → Prop, Z = MQ below (va_Ql (fun (r : Int64) (u : Unit) => Q r) (fun (u : Unit) t => PW D A (wdC cI cL cZ ad ga_sightings ga_bestShifts ga_commonLength ga_allTimes gr_width gr_height gr_size gr_kinds gr_before gr_columns gr_rows gr_floorCells gr_clearCells gr_standCells gr_firstColumn gr_lastColumn pi_cells pi_facings pi_sets pi_size po_needs ro_cells ro_lengths ro_shifts si_sightLaw si_sightRange th_unseen th_goals th_commonLength tr_marks tr_visited tr_size wh_places) t.heap) A) args s 0 0 A := ⟨_, rfl⟩
  rw [← hZ]
  have hw : SW D A s.heap (wdC cI cL cZ ad ga_sightings ga_bestShifts ga_commonLength ga_allTimes gr_width gr_height gr_size gr_kinds gr_before gr_columns gr_rows gr_floorCells gr_clearCells gr_standCells gr_firstColumn gr_lastColumn pi_cells pi_facings pi_sets pi_size po_needs ro_cells ro_lengths ro_shifts si_sightLaw si_sightRange th_unseen th_goals th_commonLength tr_marks tr_visited tr_size wh_places) s.heap [] := ⟨hP0, hD0, va_S.rf⟩
  clear hP0 hD0 B
  have J5 : ∀ (n : Nat) (x1 : Int32) (x2 : Int64) (x4 : Int32) , L_si_boardFrom_5 gr_width gr_size gr_columns gr_rows gr_floorCells gr_clearCells gr_standCells si_sightLaw si_sightRange Q n x1 x2 x4 → ∀ (H : Heap) (locs : List Loc) (ls : Array Slot), SW D A s.heap (wdC cI cL cZ ad ga_sightings ga_bestShifts ga_commonLength ga_allTimes gr_width gr_height gr_size gr_kinds gr_before gr_columns gr_rows gr_floorCells gr_clearCells gr_standCells gr_firstColumn gr_lastColumn pi_cells pi_facings pi_sets pi_size po_needs ro_cells ro_lengths ro_shifts si_sightLaw si_sightRange th_unseen th_goals th_commonLength tr_marks tr_visited tr_size wh_places) H locs → lv_has ls 5 [(0, .ref (ad 5)), (1, .int x1), (2, .long x2), (4, .int x4)] → W p l e (headSpec wsX5_boardFrom rm_si_boardFrom).room s m args below meth c H locs 0 0 Z (F0 m 5 ls []) := by
    intro  n
    induction n with
    | zero => intro x1 x2 x4 h; exact h.elim
    | succ n ih =>
    intro x1 x2 x4 h H locs ls hw hl
    unfold L_si_boardFrom_5 at h
    refine lv_iload hx hb dX5_boardFrom_5 (lv_at hl 3 rfl) ?_
    refine lv_aload_n hx hb dX5_boardFrom_7 rfl (lv_at hl 0 rfl) ?_
    refine gC_si_grid hx hb hts hin hown hK hw lk18 dX5_boardFrom_8 ?_
    refine cV_i (b := (ad 1)) (As := []) (rest := [.int x4]) ⟨hx, hb, hml, hown, hts⟩ hK hw (c_gr_size h) (cwV 0 hts (gd_RX5_50 hB) rfl rfl rfl (by decide +kernel) ⟨Nat.le_of_ble_eq_true rfl, Nat.le_of_ble_eq_true rfl⟩) (rC_gr hK hw) hl.1 ⟨Nat.zero_le _, Nat.zero_le _⟩ rfl rfl (Nat.le_of_ble_eq_true rfl) dX5_boardFrom_11 (fun r11 _ H locs h hw => ?_)
    refine lv_icmp_ge (tgt := 44) hx hb dX5_boardFrom_14 (by decide) (fun hc => ?_) (fun hc => ?_)
    · replace h := h.1 hc
      refine lv_lload_n hx hb dX5_boardFrom_44 rfl (lv_at hl 2 rfl) ?_
      rw [hZ]
      exact rt_l () hx hb hr hlocks hw h dX5_boardFrom_45
    · replace h := h.2 hc
      refine lv_lload_n hx hb dX5_boardFrom_17 rfl (lv_at hl 2 rfl) ?_
      refine lv_aload_n hx hb dX5_boardFrom_18 rfl (lv_at hl 0 rfl) ?_
      refine lv_iload_n hx hb dX5_boardFrom_19 rfl (lv_at hl 1 rfl) ?_
      refine lv_iload hx hb dX5_boardFrom_20 (lv_at hl 3 rfl) ?_
      refine cV_i (b := (ad 5)) (As := [.int x1, .int x4]) (rest := [.long x2]) ⟨hx, hb, hml, hown, hts⟩ hK hw (c_si_reaches x1 x4 h) (cwV 2 hts (gd_RX5_54 hB) rfl rfl rfl (by decide +kernel) ⟨Nat.le_of_ble_eq_true rfl, Nat.le_of_ble_eq_true rfl⟩) (rC_si hK hw) hl.1 ⟨Nat.zero_le _, Nat.zero_le _⟩ rfl rfl (Nat.le_of_ble_eq_true rfl) dX5_boardFrom_22 (fun r22 _ H locs h hw => ?_)
      refine lv_if_eq (tgt := 35) hx hb dX5_boardFrom_25 (by decide) (fun hc => ?_) (fun hc => ?_)
      · replace h := h.1 hc
        refine lv_lconst (v := 0) hx hb dX5_boardFrom_35 (by decide) ?_
        refine lv_lor hx hb dX5_boardFrom_36 ?_
        refine lv_topl (fun x2_37 ex2_37 => ?_)
        replace h := h x2_37 ex2_37
        refine lv_lstore_n (lv' := [(2, .long x2_37), (0, .ref (ad 5)), (1, .int x1), (4, .int x4)]) hx hb dX5_boardFrom_37 rfl hl (by decide) rfl (fun ls hl => ?_)
        refine lv_iinc (v := (x4 + (1 : Int32))) (lv' := [(4, .int (x4 + (1 : Int32))), (2, .long x2_37), (0, .ref (ad 5)), (1, .int x1)]) hx hb dX5_boardFrom_38 hl (k := 3) rfl rfl (by decide) rfl (fun ls hl => ?_)
        refine lv_goto (tgt := 5) hx hb dX5_boardFrom_41 (by decide) ?_
        exact ih _ _ _ h _ _ _ hw (lv_sub hl [2, 3, 1, 0] rfl)
      · replace h := h.2 hc
        refine lv_lconst (v := 1) hx hb dX5_boardFrom_28 (by decide) ?_
        refine lv_iload hx hb dX5_boardFrom_29 (lv_at hl 3 rfl) ?_
        refine lv_lshl hx hb dX5_boardFrom_31 rfl ?_
        refine lv_goto (tgt := 36) hx hb dX5_boardFrom_32 (by decide) ?_
        refine lv_lor hx hb dX5_boardFrom_36 ?_
        refine lv_topl (fun x2_37 ex2_37 => ?_)
        replace h := h x2_37 ex2_37
        refine lv_lstore_n (lv' := [(2, .long x2_37), (0, .ref (ad 5)), (1, .int x1), (4, .int x4)]) hx hb dX5_boardFrom_37 rfl hl (by decide) rfl (fun ls hl => ?_)
        refine lv_iinc (v := (x4 + (1 : Int32))) (lv' := [(4, .int (x4 + (1 : Int32))), (2, .long x2_37), (0, .ref (ad 5)), (1, .int x1)]) hx hb dX5_boardFrom_38 hl (k := 3) rfl rfl (by decide) rfl (fun ls hl => ?_)
        refine lv_goto (tgt := 5) hx hb dX5_boardFrom_41 (by decide) ?_
        exact ih _ _ _ h _ _ _ hw (lv_sub hl [2, 3, 1, 0] rfl)
  unfold P_si_boardFrom at h
  have he : entryFrame m args 5 = entryFrame m ([.ref (ad 5), .int x1] : List Value).toArray 5 := by rw [hav]
  refine W.eq he ?_
  have hl := lv_entry ([.ref (ad 5), .int x1]) (n := 5) (Nat.le_of_ble_eq_true rfl)
  rw [lg_entry_eq]
  generalize (lg_sl ([.ref (ad 5), .int x1]) ++ List.replicate (5 - (lg_sl ([.ref (ad 5), .int x1])).length) Slot.unset).toArray = ls at hl ⊢
  have hl : lv_has ls 5 [(0, .ref (ad 5)), (1, .int x1)] := hl
  refine lv_lconst (v := 0) hx hb dX5_boardFrom_0 (by decide) ?_
  refine lv_lstore_n (lv' := [(2, .long (0 : Int64)), (0, .ref (ad 5)), (1, .int x1)]) hx hb dX5_boardFrom_1 rfl hl (by decide) rfl (fun ls hl => ?_)
  refine lv_iconst (v := 0) hx hb dX5_boardFrom_2 (by decide) ?_
  refine lv_istore (lv' := [(4, .int (0 : Int32)), (2, .long (0 : Int64)), (0, .ref (ad 5)), (1, .int x1)]) hx hb dX5_boardFrom_3 hl (by decide) rfl (fun ls hl => ?_)
  obtain ⟨n5, h⟩ := h
  exact J5  n5 _ _ _ h _ _ _ hw (lv_sub hl [2, 3, 1, 0] rfl)
def rm_jd_floorMod : Room := { frames := 0, cells := 0, slots := 0, locals := 0 }
set_option maxHeartbeats 4000000 in
set_option maxRecDepth 100000 in
theorem c_jd_floorMod {l : Launch} {D : va_G} {cI cL cZ : ClassId} {mx my : Nat} {A : Nat → Prop}  {w : va_W} (x0 : Int32) (x1 : Int32) {Q : Int32 → Prop} (h : P_jd_floorMod x0 x1 Q) : Met l yJ9_floorMod_7cf53 wsJ9_floorMod_7cf53 rm_jd_floorMod (va_Pc [.int x0, .int x1] (WC D cI cL cZ mx my A w)) (va_Qi (fun (r : Int32) (u : Unit) => Q r) (fun (u : Unit) t => PW D A w t.heap) A) 0 0 A := by
  refine Met_ofWF (cc := cJ9_floorMod_7cf53) (maxL := 3) (ret := (some .int)) (by decide +kernel) rfl ?_
  intro p e s m args below meth c s₁ B hml hv
  obtain ⟨hav, hP0, hD0, hK⟩ := hv
  have hx := B.exec
  have hb := B.bytes
  have hr := B.returns
  have hts := atoms_spec (ws := wsJ9_floorMod_7cf53) B.pre
  have hown : s.vm.findClass RJ9 = some m.cls := findClass_of_methodNamed B.named
  have hlocks := B.notSynchronized
  have hB : ∀ w ∈ BIG, w ∈ wsJ9_floorMod_7cf53 := fun _ h => List.mem_cons_of_mem _ h
  obtain ⟨Z, hZ⟩ : ∃ Z : State → Prop, Z = MQ below (va_Qi (fun (r : Int32) (u : Unit) => Q r) (fun (u : Unit) t => PW D A w t.heap) A) args s 0 0 A := ⟨_, rfl⟩
  rw [← hZ]
  have hw : SW D A s.heap w s.heap [] := ⟨hP0, hD0, va_S.rf⟩
  clear hP0 hD0 B
  unfold P_jd_floorMod at h
  have he : entryFrame m args 3 = entryFrame m ([.int x0, .int x1] : List Value).toArray 3 := by rw [hav]
  refine W.eq he ?_
  have hl := lv_entry ([.int x0, .int x1]) (n := 3) (Nat.le_of_ble_eq_true rfl)
  rw [lg_entry_eq]
  generalize (lg_sl ([.int x0, .int x1]) ++ List.replicate (3 - (lg_sl ([.int x0, .int x1])).length) Slot.unset).toArray = ls at hl ⊢
  have hl : lv_has ls 3 [(0, .int x0), (1, .int x1)] := hl
  refine lv_iload_n hx hb dJ9_floorMod_7cf53_0 rfl (lv_at hl 0 rfl) ?_
  refine lv_iload_n hx hb dJ9_floorMod_7cf53_1 rfl (lv_at hl 1 rfl) ?_
  refine lv_irem hx hb dJ9_floorMod_7cf53_2 h.1 ?_
  replace h := h.2
  refine lv_topi (fun x2_3 ex2_3 => ?_)
  replace h := h x2_3 ex2_3
  refine lv_istore_n (lv' := [(2, .int x2_3), (0, .int x0), (1, .int x1)]) hx hb dJ9_floorMod_7cf53_3 rfl hl (by decide) rfl (fun ls hl => ?_)
  refine lv_iload_n hx hb dJ9_floorMod_7cf53_4 rfl (lv_at hl 1 rfl) ?_
  refine lv_iload_n hx hb dJ9_floorMod_7cf53_5 rfl (lv_at hl 2 rfl) ?_
  refine lv_ixor hx hb dJ9_floorMod_7cf53_6 ?_
  refine lv_if_ge (tgt := 18) hx hb dJ9_floorMod_7cf53_7 (by decide) (fun hc => ?_) (fun hc => ?_)
  · replace h := h.1 hc
    refine lv_iload_n hx hb dJ9_floorMod_7cf53_18 rfl (lv_at hl 0 rfl) ?_
    rw [hZ]
    exact rt_i () hx hb hr hlocks hw h dJ9_floorMod_7cf53_19
  · replace h := h.2 hc
    refine lv_iload_n hx hb dJ9_floorMod_7cf53_10 rfl (lv_at hl 0 rfl) ?_
    refine lv_if_eq (tgt := 18) hx hb dJ9_floorMod_7cf53_11 (by decide) (fun hc => ?_) (fun hc => ?_)
    · replace h := h.1 hc
      refine lv_iload_n hx hb dJ9_floorMod_7cf53_18 rfl (lv_at hl 0 rfl) ?_
      rw [hZ]
      exact rt_i () hx hb hr hlocks hw h dJ9_floorMod_7cf53_19
    · replace h := h.2 hc
      refine lv_iload_n hx hb dJ9_floorMod_7cf53_14 rfl (lv_at hl 0 rfl) ?_
      refine lv_iload_n hx hb dJ9_floorMod_7cf53_15 rfl (lv_at hl 2 rfl) ?_
      refine lv_iadd hx hb dJ9_floorMod_7cf53_16 ?_
      rw [hZ]
      exact rt_i () hx hb hr hlocks hw h dJ9_floorMod_7cf53_17
