def rm_ga_firstWithRound : Room := { frames := 1, cells := 0, slots := 0, locals := 21 }
set_option maxHeartbeats 4000000 in
set_option maxRecDepth 100000 in
theorem c_ga_firstWithRound {l : Launch} {D : va_G} {cI cL cZ : ClassId} {mx my : Nat} {A : Nat → Prop} {ad : Nat → Nat} {ga_sightings th_unseen th_goals tr_visited : Nat → Int64} {ga_bestShifts gr_kinds gr_before gr_columns gr_rows pi_cells pi_facings pi_sets po_needs ro_cells ro_lengths ro_shifts tr_marks wh_places : Nat → Int32} {ga_commonLength gr_width gr_height gr_size pi_size si_sightLaw si_sightRange th_commonLength tr_size : Int32} {ga_allTimes gr_floorCells gr_clearCells gr_standCells gr_firstColumn gr_lastColumn : Int64}  {Q : Int32 → Prop} (h : P_ga_firstWithRound ro_lengths Q) : Met l yX0_firstWithRound wsX0_firstWithRound rm_ga_firstWithRound (va_Pc [.ref (ad 0)] (WC D cI cL cZ mx my A (wdC cI cL cZ ad ga_sightings ga_bestShifts ga_commonLength ga_allTimes gr_width gr_height gr_size gr_kinds gr_before gr_columns gr_rows gr_floorCells gr_clearCells gr_standCells gr_firstColumn gr_lastColumn pi_cells pi_facings pi_sets pi_size po_needs ro_cells ro_lengths ro_shifts si_sightLaw si_sightRange th_unseen th_goals th_commonLength tr_marks tr_visited tr_size wh_places))) (va_Qi (fun (r : Int32) (u : Unit) => Q r) (fun (u : Unit) t => PW D A (wdC cI cL cZ ad ga_sightings ga_bestShifts ga_commonLength ga_allTimes gr_width gr_height gr_size gr_kinds gr_before gr_columns gr_rows gr_floorCells gr_clearCells gr_standCells gr_firstColumn gr_lastColumn pi_cells pi_facings pi_sets pi_size po_needs ro_cells ro_lengths ro_shifts si_sightLaw si_sightRange th_unseen th_goals th_commonLength tr_marks tr_visited tr_size wh_places) t.heap) A) 0 0 A := by
  refine Met.ofW (cc := cX0_firstWithRound) (maxL := 2) (ret := (some .int)) (by decide) rfl ?_
  intro p e s m args below meth c s₁ B hml hv
  obtain ⟨hav, hP0, hD0, hK⟩ := hv
  have hx := B.exec
  have hb := B.bytes
  have hr := B.returns
  have hts := atoms_spec (ws := wsX0_firstWithRound) B.pre
  have hown : s.vm.findClass RX0 = some m.cls := findClass_of_methodNamed B.named
  have hlocks := B.notSynchronized
  have hB : ∀ w ∈ BIG, w ∈ wsX0_firstWithRound := fun _ h => List.mem_cons_of_mem _ h
  have hin : ∀ w ∈ wsX00, w ∈ wsX0_firstWithRound := fun w h => hB w (inB_X0 w h)
  have lk23 := hts _ (hB _ m_221)
  obtain ⟨Z, hZ⟩ : ∃ Z : State → Prop, Z = MQ below (va_Qi (fun (r : Int32) (u : Unit) => Q r) (fun (u : Unit) t => PW D A (wdC cI cL cZ ad ga_sightings ga_bestShifts ga_commonLength ga_allTimes gr_width gr_height gr_size gr_kinds gr_before gr_columns gr_rows gr_floorCells gr_clearCells gr_standCells gr_firstColumn gr_lastColumn pi_cells pi_facings pi_sets pi_size po_needs ro_cells ro_lengths ro_shifts si_sightLaw si_sightRange th_unseen th_goals th_commonLength tr_marks tr_visited tr_size wh_places) t.heap) A) args s 0 0 A := ⟨_, rfl⟩
  rw [← hZ]
  have hw : SW D A s.heap (wdC cI cL cZ ad ga_sightings ga_bestShifts ga_commonLength ga_allTimes gr_width gr_height gr_size gr_kinds gr_before gr_columns gr_rows gr_floorCells gr_clearCells gr_standCells gr_firstColumn gr_lastColumn pi_cells pi_facings pi_sets pi_size po_needs ro_cells ro_lengths ro_shifts si_sightLaw si_sightRange th_unseen th_goals th_commonLength tr_marks tr_visited tr_size wh_places) s.heap [] := ⟨hP0, hD0, va_S.rf⟩
  clear hP0 hD0 B
  have J2 : ∀ (n : Nat) (x1 : Int32) , L_ga_firstWithRound_2 ro_lengths Q n x1 → ∀ (H : Heap) (locs : List Loc) (ls : Array Slot), SW D A s.heap (wdC cI cL cZ ad ga_sightings ga_bestShifts ga_commonLength ga_allTimes gr_width gr_height gr_size gr_kinds gr_before gr_columns gr_rows gr_floorCells gr_clearCells gr_standCells gr_firstColumn gr_lastColumn pi_cells pi_facings pi_sets pi_size po_needs ro_cells ro_lengths ro_shifts si_sightLaw si_sightRange th_unseen th_goals th_commonLength tr_marks tr_visited tr_size wh_places) H locs → lv_has ls 2 [(0, .ref (ad 0)), (1, .int x1)] → W p l e (headSpec wsX0_firstWithRound rm_ga_firstWithRound).room s m args below meth c H locs 0 0 Z (F0 m 2 ls []) := by
    intro  n
    induction n with
    | zero => intro x1 h; exact h.elim
    | succ n ih =>
    intro x1 h H locs ls hw hl
    unfold L_ga_firstWithRound_2 at h
    refine lv_iload_n hx hb dX0_firstWithRound_2 rfl (lv_at hl 1 rfl) ?_
    refine lv_iconst (v := 4) hx hb dX0_firstWithRound_3 (by decide) ?_
    refine lv_icmp_ge (tgt := 26) hx hb dX0_firstWithRound_4 (by decide) (fun hc => ?_) (fun hc => ?_)
    · replace h := h.1 hc
      refine lv_iconst (v := 4) hx hb dX0_firstWithRound_26 (by decide) ?_
      rw [hZ]
      exact rt_i () hx hb hr hlocks hw h dX0_firstWithRound_27
    · replace h := h.2 hc
      refine lv_aload_n hx hb dX0_firstWithRound_7 rfl (lv_at hl 0 rfl) ?_
      refine gC_ga_rounds hx hb hts hin hown hK hw lk23 dX0_firstWithRound_8 ?_
      refine lv_iload_n hx hb dX0_firstWithRound_11 rfl (lv_at hl 1 rfl) ?_
      refine cV_i (b := (ad 4)) (As := [.int x1]) (rest := []) ⟨hx, hb, hml, hown, hts⟩ hK hw (c_ro_lengthOf x1 h) (cwV 1 hts (gd_RX0_49 hB) rfl rfl rfl (by decide +kernel) ⟨Nat.le_of_ble_eq_true rfl, Nat.le_of_ble_eq_true rfl⟩) (rC_ro hK hw) hl.1 ⟨Nat.zero_le _, Nat.zero_le _⟩ rfl rfl (Nat.le_of_ble_eq_true rfl) dX0_firstWithRound_12 (fun r12 _ H locs h hw => ?_)
      refine lv_if_le (tgt := 20) hx hb dX0_firstWithRound_15 (by decide) (fun hc => ?_) (fun hc => ?_)
      · replace h := h.1 hc
        refine lv_iinc (v := (x1 + (1 : Int32))) (lv' := [(1, .int (x1 + (1 : Int32))), (0, .ref (ad 0))]) hx hb dX0_firstWithRound_20 hl (k := 1) rfl rfl (by decide) rfl (fun ls hl => ?_)
        refine lv_goto (tgt := 2) hx hb dX0_firstWithRound_23 (by decide) ?_
        exact ih _ h _ _ _ hw (lv_sub hl [1, 0] rfl)
      · replace h := h.2 hc
        refine lv_iload_n hx hb dX0_firstWithRound_18 rfl (lv_at hl 1 rfl) ?_
        rw [hZ]
        exact rt_i () hx hb hr hlocks hw h dX0_firstWithRound_19
  unfold P_ga_firstWithRound at h
  have he : entryFrame m args 2 = entryFrame m ([.ref (ad 0)] : List Value).toArray 2 := by rw [hav]
  refine W.eq he ?_
  have hl := lv_entry ([.ref (ad 0)]) (n := 2) (Nat.le_of_ble_eq_true rfl)
  rw [lg_entry_eq]
  generalize (lg_sl ([.ref (ad 0)]) ++ List.replicate (2 - (lg_sl ([.ref (ad 0)])).length) Slot.unset).toArray = ls at hl ⊢
  have hl : lv_has ls 2 [(0, .ref (ad 0))] := hl
  refine lv_iconst (v := 0) hx hb dX0_firstWithRound_0 (by decide) ?_
  refine lv_istore_n (lv' := [(1, .int (0 : Int32)), (0, .ref (ad 0))]) hx hb dX0_firstWithRound_1 rfl hl (by decide) rfl (fun ls hl => ?_)
  obtain ⟨n2, h⟩ := h
  exact J2  n2 _ h _ _ _ hw (lv_sub hl [1, 0] rfl)
def rm_ga_keepShifts : Room := { frames := 1, cells := 0, slots := 0, locals := 21 }
set_option maxHeartbeats 4000000 in
set_option maxRecDepth 100000 in
theorem c_ga_keepShifts {l : Launch} {D : va_G} {cI cL cZ : ClassId} {mx my : Nat} {A : Nat → Prop} {ad : Nat → Nat} {ga_sightings th_unseen th_goals tr_visited : Nat → Int64} {ga_bestShifts gr_kinds gr_before gr_columns gr_rows pi_cells pi_facings pi_sets po_needs ro_cells ro_lengths ro_shifts tr_marks wh_places : Nat → Int32} {ga_commonLength gr_width gr_height gr_size pi_size si_sightLaw si_sightRange th_commonLength tr_size : Int32} {ga_allTimes gr_floorCells gr_clearCells gr_standCells gr_firstColumn gr_lastColumn : Int64}  {Q : (Nat → Int32) → Prop} (h : P_ga_keepShifts ga_bestShifts ro_shifts Q) : Met l yX0_keepShifts wsX0_keepShifts rm_ga_keepShifts (va_Pc [.ref (ad 0)] (WC D cI cL cZ mx my A (wdC cI cL cZ ad ga_sightings ga_bestShifts ga_commonLength ga_allTimes gr_width gr_height gr_size gr_kinds gr_before gr_columns gr_rows gr_floorCells gr_clearCells gr_standCells gr_firstColumn gr_lastColumn pi_cells pi_facings pi_sets pi_size po_needs ro_cells ro_lengths ro_shifts si_sightLaw si_sightRange th_unseen th_goals th_commonLength tr_marks tr_visited tr_size wh_places))) (va_Qv (fun (u : (Nat → Int32)) => Q u) (fun (u : (Nat → Int32)) t => PW D A (wdC cI cL cZ ad ga_sightings u ga_commonLength ga_allTimes gr_width gr_height gr_size gr_kinds gr_before gr_columns gr_rows gr_floorCells gr_clearCells gr_standCells gr_firstColumn gr_lastColumn pi_cells pi_facings pi_sets pi_size po_needs ro_cells ro_lengths ro_shifts si_sightLaw si_sightRange th_unseen th_goals th_commonLength tr_marks tr_visited tr_size wh_places) t.heap) A) 0 0 A := by
  refine Met.ofW (cc := cX0_keepShifts) (maxL := 2) (ret := none) (by decide) rfl ?_
  intro p e s m args below meth c s₁ B hml hv
  obtain ⟨hav, hP0, hD0, hK⟩ := hv
  have hx := B.exec
  have hb := B.bytes
  have hr := B.returns
  have hts := atoms_spec (ws := wsX0_keepShifts) B.pre
  have hown : s.vm.findClass RX0 = some m.cls := findClass_of_methodNamed B.named
  have hlocks := B.notSynchronized
  have hB : ∀ w ∈ BIG, w ∈ wsX0_keepShifts := fun _ h => List.mem_cons_of_mem _ h
  have hin : ∀ w ∈ wsX00, w ∈ wsX0_keepShifts := fun w h => hB w (inB_X0 w h)
  have lk15 := hts _ (hB _ m_223)
  have lk23 := hts _ (hB _ m_221)
  obtain ⟨Z, hZ⟩ : ∃ Z : State → Prop, Z = MQ below (va_Qv (fun (u : (Nat → Int32)) => Q u) (fun (u : (Nat → Int32)) t => PW D A (wdC cI cL cZ ad ga_sightings u ga_commonLength ga_allTimes gr_width gr_height gr_size gr_kinds gr_before gr_columns gr_rows gr_floorCells gr_clearCells gr_standCells gr_firstColumn gr_lastColumn pi_cells pi_facings pi_sets pi_size po_needs ro_cells ro_lengths ro_shifts si_sightLaw si_sightRange th_unseen th_goals th_commonLength tr_marks tr_visited tr_size wh_places) t.heap) A) args s 0 0 A := ⟨_, rfl⟩
  rw [← hZ]
  have hw : SW D A s.heap (wdC cI cL cZ ad ga_sightings ga_bestShifts ga_commonLength ga_allTimes gr_width gr_height gr_size gr_kinds gr_before gr_columns gr_rows gr_floorCells gr_clearCells gr_standCells gr_firstColumn gr_lastColumn pi_cells pi_facings pi_sets pi_size po_needs ro_cells ro_lengths ro_shifts si_sightLaw si_sightRange th_unseen th_goals th_commonLength tr_marks tr_visited tr_size wh_places) s.heap [] := ⟨hP0, hD0, va_S.rf⟩
  clear hP0 hD0 B
  have J2 : ∀ (n : Nat) (ga_bestShifts : (Nat → Int32)) (x1 : Int32) , L_ga_keepShifts_2 ro_shifts Q n ga_bestShifts x1 → ∀ (H : Heap) (locs : List Loc) (ls : Array Slot), SW D A s.heap (wdC cI cL cZ ad ga_sightings ga_bestShifts ga_commonLength ga_allTimes gr_width gr_height gr_size gr_kinds gr_before gr_columns gr_rows gr_floorCells gr_clearCells gr_standCells gr_firstColumn gr_lastColumn pi_cells pi_facings pi_sets pi_size po_needs ro_cells ro_lengths ro_shifts si_sightLaw si_sightRange th_unseen th_goals th_commonLength tr_marks tr_visited tr_size wh_places) H locs → lv_has ls 2 [(0, .ref (ad 0)), (1, .int x1)] → W p l e (headSpec wsX0_keepShifts rm_ga_keepShifts).room s m args below meth c H locs 0 0 Z (F0 m 2 ls []) := by
    intro  n
    induction n with
    | zero => intro ga_bestShifts x1 h; exact h.elim
    | succ n ih =>
    intro ga_bestShifts x1 h H locs ls hw hl
    unfold L_ga_keepShifts_2 at h
    refine lv_iload_n hx hb dX0_keepShifts_2 rfl (lv_at hl 1 rfl) ?_
    refine lv_iconst (v := 4) hx hb dX0_keepShifts_3 (by decide) ?_
    refine lv_icmp_ge (tgt := 27) hx hb dX0_keepShifts_4 (by decide) (fun hc => ?_) (fun hc => ?_)
    · replace h := h.1 hc
      rw [hZ]
      exact rt_v ga_bestShifts hx hb hr hlocks hw h dX0_keepShifts_27
    · replace h := h.2 hc
      refine lv_aload_n hx hb dX0_keepShifts_7 rfl (lv_at hl 0 rfl) ?_
      refine gC_ga_bestShifts hx hb hts hin hown hK hw lk15 dX0_keepShifts_8 ?_
      refine lv_iload_n hx hb dX0_keepShifts_11 rfl (lv_at hl 1 rfl) ?_
      refine lv_aload_n hx hb dX0_keepShifts_12 rfl (lv_at hl 0 rfl) ?_
      refine gC_ga_rounds hx hb hts hin hown hK hw lk23 dX0_keepShifts_13 ?_
      refine lv_iload_n hx hb dX0_keepShifts_16 rfl (lv_at hl 1 rfl) ?_
      refine cV_i (b := (ad 4)) (As := [.int x1]) (rest := [.int x1, .ref (ad 11)]) ⟨hx, hb, hml, hown, hts⟩ hK hw (c_ro_shiftOf x1 h) (cwV 1 hts (gd_RX0_61 hB) rfl rfl rfl (by decide +kernel) ⟨Nat.le_of_ble_eq_true rfl, Nat.le_of_ble_eq_true rfl⟩) (rC_ro hK hw) hl.1 ⟨Nat.zero_le _, Nat.zero_le _⟩ rfl rfl (Nat.le_of_ble_eq_true rfl) dX0_keepShifts_17 (fun r17 _ H locs h hw => ?_)
      refine tC_ga_bestShifts hx hb hK hw h.1 dX0_keepShifts_20 (fun H locs hw => ?_)
      replace h := h.2
      refine lv_iinc (v := (x1 + (1 : Int32))) (lv' := [(1, .int (x1 + (1 : Int32))), (0, .ref (ad 0))]) hx hb dX0_keepShifts_21 hl (k := 1) rfl rfl (by decide) rfl (fun ls hl => ?_)
      refine lv_goto (tgt := 2) hx hb dX0_keepShifts_24 (by decide) ?_
      exact ih _ _ h _ _ _ hw (lv_sub hl [1, 0] rfl)
  unfold P_ga_keepShifts at h
  have he : entryFrame m args 2 = entryFrame m ([.ref (ad 0)] : List Value).toArray 2 := by rw [hav]
  refine W.eq he ?_
  have hl := lv_entry ([.ref (ad 0)]) (n := 2) (Nat.le_of_ble_eq_true rfl)
  rw [lg_entry_eq]
  generalize (lg_sl ([.ref (ad 0)]) ++ List.replicate (2 - (lg_sl ([.ref (ad 0)])).length) Slot.unset).toArray = ls at hl ⊢
  have hl : lv_has ls 2 [(0, .ref (ad 0))] := hl
  refine lv_iconst (v := 0) hx hb dX0_keepShifts_0 (by decide) ?_
  refine lv_istore_n (lv' := [(1, .int (0 : Int32)), (0, .ref (ad 0))]) hx hb dX0_keepShifts_1 rfl hl (by decide) rfl (fun ls hl => ?_)
  obtain ⟨n2, h⟩ := h
  exact J2  n2 _ _ h _ _ _ hw (lv_sub hl [1, 0] rfl)
def rm_ro_changeShift : Room := { frames := 0, cells := 0, slots := 0, locals := 0 }
set_option maxHeartbeats 4000000 in
set_option maxRecDepth 100000 in
theorem c_ro_changeShift {l : Launch} {D : va_G} {cI cL cZ : ClassId} {mx my : Nat} {A : Nat → Prop} {ad : Nat → Nat} {ga_sightings th_unseen th_goals tr_visited : Nat → Int64} {ga_bestShifts gr_kinds gr_before gr_columns gr_rows pi_cells pi_facings pi_sets po_needs ro_cells ro_lengths ro_shifts tr_marks wh_places : Nat → Int32} {ga_commonLength gr_width gr_height gr_size pi_size si_sightLaw si_sightRange th_commonLength tr_size : Int32} {ga_allTimes gr_floorCells gr_clearCells gr_standCells gr_firstColumn gr_lastColumn : Int64} (x1 : Int32) (x2 : Int32) {Q : (Nat → Int32) → Prop} (h : P_ro_changeShift ro_shifts x1 x2 Q) : Met l yX4_changeShift wsX4_changeShift rm_ro_changeShift (va_Pc [.ref (ad 4), .int x1, .int x2] (WC D cI cL cZ mx my A (wdC cI cL cZ ad ga_sightings ga_bestShifts ga_commonLength ga_allTimes gr_width gr_height gr_size gr_kinds gr_before gr_columns gr_rows gr_floorCells gr_clearCells gr_standCells gr_firstColumn gr_lastColumn pi_cells pi_facings pi_sets pi_size po_needs ro_cells ro_lengths ro_shifts si_sightLaw si_sightRange th_unseen th_goals th_commonLength tr_marks tr_visited tr_size wh_places))) (va_Qv (fun (u : (Nat → Int32)) => Q u) (fun (u : (Nat → Int32)) t => PW D A (wdC cI cL cZ ad ga_sightings ga_bestShifts ga_commonLength ga_allTimes gr_width gr_height gr_size gr_kinds gr_before gr_columns gr_rows gr_floorCells gr_clearCells gr_standCells gr_firstColumn gr_lastColumn pi_cells pi_facings pi_sets pi_size po_needs ro_cells ro_lengths u si_sightLaw si_sightRange th_unseen th_goals th_commonLength tr_marks tr_visited tr_size wh_places) t.heap) A) 0 0 A := by
  refine Met.ofW (cc := cX4_changeShift) (maxL := 3) (ret := none) (by decide) rfl ?_
  intro p e s m args below meth c s₁ B hml hv
  obtain ⟨hav, hP0, hD0, hK⟩ := hv
  have hx := B.exec
  have hb := B.bytes
  have hr := B.returns
  have hts := atoms_spec (ws := wsX4_changeShift) B.pre
  have hown : s.vm.findClass RX4 = some m.cls := findClass_of_methodNamed B.named
  have hlocks := B.notSynchronized
  have hB : ∀ w ∈ BIG, w ∈ wsX4_changeShift := fun _ h => List.mem_cons_of_mem _ h
  have hin : ∀ w ∈ wsX40, w ∈ wsX4_changeShift := fun w h => hB w (inB_X4 w h)
  have lk18 := hts _ (hB _ m_190)
  obtain ⟨Z, hZ⟩ : ∃ Z : State → Prop, Z = MQ below (va_Qv (fun (u : (Nat → Int32)) => Q u) (fun (u : (Nat → Int32)) t => PW D A (wdC cI cL cZ ad ga_sightings ga_bestShifts ga_commonLength ga_allTimes gr_width gr_height gr_size gr_kinds gr_before gr_columns gr_rows gr_floorCells gr_clearCells gr_standCells gr_firstColumn gr_lastColumn pi_cells pi_facings pi_sets pi_size po_needs ro_cells ro_lengths u si_sightLaw si_sightRange th_unseen th_goals th_commonLength tr_marks tr_visited tr_size wh_places) t.heap) A) args s 0 0 A := ⟨_, rfl⟩
  rw [← hZ]
  have hw : SW D A s.heap (wdC cI cL cZ ad ga_sightings ga_bestShifts ga_commonLength ga_allTimes gr_width gr_height gr_size gr_kinds gr_before gr_columns gr_rows gr_floorCells gr_clearCells gr_standCells gr_firstColumn gr_lastColumn pi_cells pi_facings pi_sets pi_size po_needs ro_cells ro_lengths ro_shifts si_sightLaw si_sightRange th_unseen th_goals th_commonLength tr_marks tr_visited tr_size wh_places) s.heap [] := ⟨hP0, hD0, va_S.rf⟩
  clear hP0 hD0 B
  unfold P_ro_changeShift at h
  have he : entryFrame m args 3 = entryFrame m ([.ref (ad 4), .int x1, .int x2] : List Value).toArray 3 := by rw [hav]
  refine W.eq he ?_
  have hl := lv_entry ([.ref (ad 4), .int x1, .int x2]) (n := 3) (Nat.le_of_ble_eq_true rfl)
  rw [lg_entry_eq]
  generalize (lg_sl ([.ref (ad 4), .int x1, .int x2]) ++ List.replicate (3 - (lg_sl ([.ref (ad 4), .int x1, .int x2])).length) Slot.unset).toArray = ls at hl ⊢
  have hl : lv_has ls 3 [(0, .ref (ad 4)), (1, .int x1), (2, .int x2)] := hl
  refine lv_aload_n hx hb dX4_changeShift_0 rfl (lv_at hl 0 rfl) ?_
  refine gC_ro_shifts hx hb hts hin hown hK hw lk18 dX4_changeShift_1 ?_
  refine lv_iload_n hx hb dX4_changeShift_4 rfl (lv_at hl 1 rfl) ?_
  refine lv_iload_n hx hb dX4_changeShift_5 rfl (lv_at hl 2 rfl) ?_
  refine tC_ro_shifts hx hb hK hw h.1 dX4_changeShift_6 (fun H locs hw => ?_)
  replace h := h.2
  rw [hZ]
  exact rt_v (upd ro_shifts x1.toNatClampNeg x2) hx hb hr hlocks hw h dX4_changeShift_7
def rm_ga_shiftOn : Room := { frames := 1, cells := 0, slots := 0, locals := 22 }
set_option maxHeartbeats 4000000 in
set_option maxRecDepth 100000 in
theorem c_ga_shiftOn {l : Launch} {D : va_G} {cI cL cZ : ClassId} {mx my : Nat} {A : Nat → Prop} {ad : Nat → Nat} {ga_sightings th_unseen th_goals tr_visited : Nat → Int64} {ga_bestShifts gr_kinds gr_before gr_columns gr_rows pi_cells pi_facings pi_sets po_needs ro_cells ro_lengths ro_shifts tr_marks wh_places : Nat → Int32} {ga_commonLength gr_width gr_height gr_size pi_size si_sightLaw si_sightRange th_commonLength tr_size : Int32} {ga_allTimes gr_floorCells gr_clearCells gr_standCells gr_firstColumn gr_lastColumn : Int64} (x1 : Int32) {Q : (Nat → Int32) → Prop} (h : P_ga_shiftOn ro_lengths ro_shifts x1 Q) : Met l yX0_shiftOn wsX0_shiftOn rm_ga_shiftOn (va_Pc [.ref (ad 0), .int x1] (WC D cI cL cZ mx my A (wdC cI cL cZ ad ga_sightings ga_bestShifts ga_commonLength ga_allTimes gr_width gr_height gr_size gr_kinds gr_before gr_columns gr_rows gr_floorCells gr_clearCells gr_standCells gr_firstColumn gr_lastColumn pi_cells pi_facings pi_sets pi_size po_needs ro_cells ro_lengths ro_shifts si_sightLaw si_sightRange th_unseen th_goals th_commonLength tr_marks tr_visited tr_size wh_places))) (va_Qv (fun (u : (Nat → Int32)) => Q u) (fun (u : (Nat → Int32)) t => PW D A (wdC cI cL cZ ad ga_sightings ga_bestShifts ga_commonLength ga_allTimes gr_width gr_height gr_size gr_kinds gr_before gr_columns gr_rows gr_floorCells gr_clearCells gr_standCells gr_firstColumn gr_lastColumn pi_cells pi_facings pi_sets pi_size po_needs ro_cells ro_lengths u si_sightLaw si_sightRange th_unseen th_goals th_commonLength tr_marks tr_visited tr_size wh_places) t.heap) A) 0 0 A := by
  refine Met.ofW (cc := cX0_shiftOn) (maxL := 3) (ret := none) (by decide) rfl ?_
  intro p e s m args below meth c s₁ B hml hv
  obtain ⟨hav, hP0, hD0, hK⟩ := hv
  have hx := B.exec
  have hb := B.bytes
  have hr := B.returns
  have hts := atoms_spec (ws := wsX0_shiftOn) B.pre
  have hown : s.vm.findClass RX0 = some m.cls := findClass_of_methodNamed B.named
  have hlocks := B.notSynchronized
  have hB : ∀ w ∈ BIG, w ∈ wsX0_shiftOn := fun _ h => List.mem_cons_of_mem _ h
  have hin : ∀ w ∈ wsX00, w ∈ wsX0_shiftOn := fun w h => hB w (inB_X0 w h)
  have lk23 := hts _ (hB _ m_221)
  obtain ⟨Z, hZ⟩ : ∃ Z : State → Prop, Z = MQ below (va_Qv (fun (u : (Nat → Int32)) => Q u) (fun (u : (Nat → Int32)) t => PW D A (wdC cI cL cZ ad ga_sightings ga_bestShifts ga_commonLength ga_allTimes gr_width gr_height gr_size gr_kinds gr_before gr_columns gr_rows gr_floorCells gr_clearCells gr_standCells gr_firstColumn gr_lastColumn pi_cells pi_facings pi_sets pi_size po_needs ro_cells ro_lengths u si_sightLaw si_sightRange th_unseen th_goals th_commonLength tr_marks tr_visited tr_size wh_places) t.heap) A) args s 0 0 A := ⟨_, rfl⟩
  rw [← hZ]
  have hw : SW D A s.heap (wdC cI cL cZ ad ga_sightings ga_bestShifts ga_commonLength ga_allTimes gr_width gr_height gr_size gr_kinds gr_before gr_columns gr_rows gr_floorCells gr_clearCells gr_standCells gr_firstColumn gr_lastColumn pi_cells pi_facings pi_sets pi_size po_needs ro_cells ro_lengths ro_shifts si_sightLaw si_sightRange th_unseen th_goals th_commonLength tr_marks tr_visited tr_size wh_places) s.heap [] := ⟨hP0, hD0, va_S.rf⟩
  clear hP0 hD0 B
  have J28 : ∀ (_ : True) (ro_shifts : (Nat → Int32)) (x2 : Int32) , B_ga_shiftOn_28 Q ro_shifts x2 → ∀ (H : Heap) (locs : List Loc) (ls : Array Slot), SW D A s.heap (wdC cI cL cZ ad ga_sightings ga_bestShifts ga_commonLength ga_allTimes gr_width gr_height gr_size gr_kinds gr_before gr_columns gr_rows gr_floorCells gr_clearCells gr_standCells gr_firstColumn gr_lastColumn pi_cells pi_facings pi_sets pi_size po_needs ro_cells ro_lengths ro_shifts si_sightLaw si_sightRange th_unseen th_goals th_commonLength tr_marks tr_visited tr_size wh_places) H locs → lv_has ls 3 [(0, .ref (ad 0)), (2, .int x2)] → W p l e (headSpec wsX0_shiftOn rm_ga_shiftOn).room s m args below meth c H locs 0 0 Z (F0 m 28 ls []) := by
    intro _  ro_shifts x2 h H locs ls hw hl
    unfold B_ga_shiftOn_28 at h
    refine lv_aload_n hx hb dX0_shiftOn_28 rfl (lv_at hl 0 rfl) ?_
    refine gC_ga_rounds hx hb hts hin hown hK hw lk23 dX0_shiftOn_29 ?_
    refine lv_iload_n hx hb dX0_shiftOn_32 rfl (lv_at hl 1 rfl) ?_
    refine lv_aload_n hx hb dX0_shiftOn_33 rfl (lv_at hl 0 rfl) ?_
    refine gC_ga_rounds hx hb hts hin hown hK hw lk23 dX0_shiftOn_34 ?_
    refine lv_iload_n hx hb dX0_shiftOn_37 rfl (lv_at hl 1 rfl) ?_
    refine cV_i (b := (ad 4)) (As := [.int x2]) (rest := [.int x2, .ref (ad 4)]) ⟨hx, hb, hml, hown, hts⟩ hK hw (c_ro_shiftOf x2 h) (cwV 1 hts (gd_RX0_61 hB) rfl rfl rfl (by decide +kernel) ⟨Nat.le_of_ble_eq_true rfl, Nat.le_of_ble_eq_true rfl⟩) (rC_ro hK hw) hl.1 ⟨Nat.zero_le _, Nat.zero_le _⟩ rfl rfl (Nat.le_of_ble_eq_true rfl) dX0_shiftOn_38 (fun r38 _ H locs h hw => ?_)
    refine lv_iconst (v := 1) hx hb dX0_shiftOn_41 (by decide) ?_
    refine lv_iadd hx hb dX0_shiftOn_42 ?_
    refine cV_v (b := (ad 4)) (As := [.int x2, .int (r38 + (1 : Int32))]) (rest := []) ⟨hx, hb, hml, hown, hts⟩ hK hw (c_ro_changeShift x2 (r38 + (1 : Int32)) h) (cwV 2 hts (gd_RX0_82 hB) rfl rfl rfl (by decide +kernel) ⟨Nat.le_of_ble_eq_true rfl, Nat.le_of_ble_eq_true rfl⟩) (rC_ro hK hw) hl.1 ⟨Nat.zero_le _, Nat.zero_le _⟩ rfl rfl (Nat.le_of_ble_eq_true rfl) dX0_shiftOn_43 (fun ro_shifts_43 H locs h hw => ?_)
    rw [hZ]
    exact rt_v ro_shifts_43 hx hb hr hlocks hw h dX0_shiftOn_46
  have J2 : ∀ (n : Nat) (ro_shifts : (Nat → Int32)) (x1 : Int32) (x2 : Int32) , L_ga_shiftOn_2 ro_lengths Q n ro_shifts x1 x2 → ∀ (H : Heap) (locs : List Loc) (ls : Array Slot), SW D A s.heap (wdC cI cL cZ ad ga_sightings ga_bestShifts ga_commonLength ga_allTimes gr_width gr_height gr_size gr_kinds gr_before gr_columns gr_rows gr_floorCells gr_clearCells gr_standCells gr_firstColumn gr_lastColumn pi_cells pi_facings pi_sets pi_size po_needs ro_cells ro_lengths ro_shifts si_sightLaw si_sightRange th_unseen th_goals th_commonLength tr_marks tr_visited tr_size wh_places) H locs → lv_has ls 3 [(0, .ref (ad 0)), (1, .int x1), (2, .int x2)] → W p l e (headSpec wsX0_shiftOn rm_ga_shiftOn).room s m args below meth c H locs 0 0 Z (F0 m 2 ls []) := by
    intro  n
    induction n with
    | zero => intro ro_shifts x1 x2 h; exact h.elim
    | succ n ih =>
    intro ro_shifts x1 x2 h H locs ls hw hl
    unfold L_ga_shiftOn_2 at h
    refine lv_iload_n hx hb dX0_shiftOn_2 rfl (lv_at hl 2 rfl) ?_
    refine lv_iload_n hx hb dX0_shiftOn_3 rfl (lv_at hl 1 rfl) ?_
    refine lv_icmp_le (tgt := 62) hx hb dX0_shiftOn_4 (by decide) (fun hc => ?_) (fun hc => ?_)
    · replace h := h.1 hc
      rw [hZ]
      exact rt_v ro_shifts hx hb hr hlocks hw h dX0_shiftOn_62
    · replace h := h.2 hc
      refine lv_aload_n hx hb dX0_shiftOn_7 rfl (lv_at hl 0 rfl) ?_
      refine gC_ga_rounds hx hb hts hin hown hK hw lk23 dX0_shiftOn_8 ?_
      refine lv_iload_n hx hb dX0_shiftOn_11 rfl (lv_at hl 2 rfl) ?_
      refine cV_i (b := (ad 4)) (As := [.int x2]) (rest := []) ⟨hx, hb, hml, hown, hts⟩ hK hw (c_ro_shiftOf x2 h) (cwV 1 hts (gd_RX0_61 hB) rfl rfl rfl (by decide +kernel) ⟨Nat.le_of_ble_eq_true rfl, Nat.le_of_ble_eq_true rfl⟩) (rC_ro hK hw) hl.1 ⟨Nat.zero_le _, Nat.zero_le _⟩ rfl rfl (Nat.le_of_ble_eq_true rfl) dX0_shiftOn_12 (fun r12 _ H locs h hw => ?_)
      refine lv_iconst (v := 1) hx hb dX0_shiftOn_15 (by decide) ?_
      refine lv_iadd hx hb dX0_shiftOn_16 ?_
      refine lv_aload_n hx hb dX0_shiftOn_17 rfl (lv_at hl 0 rfl) ?_
      refine gC_ga_rounds hx hb hts hin hown hK hw lk23 dX0_shiftOn_18 ?_
      refine lv_iload_n hx hb dX0_shiftOn_21 rfl (lv_at hl 2 rfl) ?_
      refine cV_i (b := (ad 4)) (As := [.int x2]) (rest := [.int (r12 + (1 : Int32))]) ⟨hx, hb, hml, hown, hts⟩ hK hw (c_ro_lengthOf x2 h) (cwV 1 hts (gd_RX0_49 hB) rfl rfl rfl (by decide +kernel) ⟨Nat.le_of_ble_eq_true rfl, Nat.le_of_ble_eq_true rfl⟩) (rC_ro hK hw) hl.1 ⟨Nat.zero_le _, Nat.zero_le _⟩ rfl rfl (Nat.le_of_ble_eq_true rfl) dX0_shiftOn_22 (fun r22 _ H locs h hw => ?_)
      refine lv_icmp_ge (tgt := 47) hx hb dX0_shiftOn_25 (by decide) (fun hc => ?_) (fun hc => ?_)
      · replace h := h.1 hc
        refine lv_aload_n hx hb dX0_shiftOn_47 rfl (lv_at hl 0 rfl) ?_
        refine gC_ga_rounds hx hb hts hin hown hK hw lk23 dX0_shiftOn_48 ?_
        refine lv_iload_n hx hb dX0_shiftOn_51 rfl (lv_at hl 2 rfl) ?_
        refine lv_iconst (v := 0) hx hb dX0_shiftOn_52 (by decide) ?_
        refine cV_v (b := (ad 4)) (As := [.int x2, .int (0 : Int32)]) (rest := []) ⟨hx, hb, hml, hown, hts⟩ hK hw (c_ro_changeShift x2 (0 : Int32) h) (cwV 2 hts (gd_RX0_82 hB) rfl rfl rfl (by decide +kernel) ⟨Nat.le_of_ble_eq_true rfl, Nat.le_of_ble_eq_true rfl⟩) (rC_ro hK hw) hl.1 ⟨Nat.zero_le _, Nat.zero_le _⟩ rfl rfl (Nat.le_of_ble_eq_true rfl) dX0_shiftOn_53 (fun ro_shifts_53 H locs h hw => ?_)
        refine lv_iinc (v := (x2 + (-1 : Int32))) (lv' := [(2, .int (x2 + (-1 : Int32))), (0, .ref (ad 0)), (1, .int x1)]) hx hb dX0_shiftOn_56 hl (k := 2) rfl rfl (by decide) rfl (fun ls hl => ?_)
        refine lv_goto (tgt := 2) hx hb dX0_shiftOn_59 (by decide) ?_
        exact ih _ _ _ h _ _ _ hw (lv_sub hl [1, 2, 0] rfl)
      · replace h := h.2 hc
        exact J28 trivial  _ _ h _ _ _ hw (lv_sub hl [0, 2] rfl)
  unfold P_ga_shiftOn at h
  have he : entryFrame m args 3 = entryFrame m ([.ref (ad 0), .int x1] : List Value).toArray 3 := by rw [hav]
  refine W.eq he ?_
  have hl := lv_entry ([.ref (ad 0), .int x1]) (n := 3) (Nat.le_of_ble_eq_true rfl)
  rw [lg_entry_eq]
  generalize (lg_sl ([.ref (ad 0), .int x1]) ++ List.replicate (3 - (lg_sl ([.ref (ad 0), .int x1])).length) Slot.unset).toArray = ls at hl ⊢
  have hl : lv_has ls 3 [(0, .ref (ad 0)), (1, .int x1)] := hl
  refine lv_iconst (v := 3) hx hb dX0_shiftOn_0 (by decide) ?_
  refine lv_istore_n (lv' := [(2, .int (3 : Int32)), (0, .ref (ad 0)), (1, .int x1)]) hx hb dX0_shiftOn_1 rfl hl (by decide) rfl (fun ls hl => ?_)
  obtain ⟨n2, h⟩ := h
  exact J2  n2 _ _ _ h _ _ _ hw (lv_sub hl [1, 2, 0] rfl)
def rm_ga_setBestShifts : Room := { frames := 4, cells := 0, slots := 0, locals := 97 }
set_option maxHeartbeats 4000000 in
set_option maxRecDepth 100000 in
theorem c_ga_setBestShifts {l : Launch} {D : va_G} {cI cL cZ : ClassId} {mx my : Nat} {A : Nat → Prop} {ad : Nat → Nat} {ga_sightings th_unseen th_goals tr_visited : Nat → Int64} {ga_bestShifts gr_kinds gr_before gr_columns gr_rows pi_cells pi_facings pi_sets po_needs ro_cells ro_lengths ro_shifts tr_marks wh_places : Nat → Int32} {ga_commonLength gr_width gr_height gr_size pi_size si_sightLaw si_sightRange th_commonLength tr_size : Int32} {ga_allTimes gr_floorCells gr_clearCells gr_standCells gr_firstColumn gr_lastColumn : Int64}  {Q : Int32 → (Nat → Int32) → (Nat → Int32) → Prop} (h : P_ga_setBestShifts ga_sightings ga_bestShifts ga_commonLength ga_allTimes pi_size ro_lengths ro_shifts Q) : Met l yX0_setBestShifts wsX0_setBestShifts rm_ga_setBestShifts (va_Pc [.ref (ad 0)] (WC D cI cL cZ mx my A (wdC cI cL cZ ad ga_sightings ga_bestShifts ga_commonLength ga_allTimes gr_width gr_height gr_size gr_kinds gr_before gr_columns gr_rows gr_floorCells gr_clearCells gr_standCells gr_firstColumn gr_lastColumn pi_cells pi_facings pi_sets pi_size po_needs ro_cells ro_lengths ro_shifts si_sightLaw si_sightRange th_unseen th_goals th_commonLength tr_marks tr_visited tr_size wh_places))) (va_Qi (fun (r : Int32) (u : (Nat → Int32) × (Nat → Int32)) => Q r u.1 u.2) (fun (u : (Nat → Int32) × (Nat → Int32)) t => PW D A (wdC cI cL cZ ad ga_sightings u.1 ga_commonLength ga_allTimes gr_width gr_height gr_size gr_kinds gr_before gr_columns gr_rows gr_floorCells gr_clearCells gr_standCells gr_firstColumn gr_lastColumn pi_cells pi_facings pi_sets pi_size po_needs ro_cells ro_lengths u.2 si_sightLaw si_sightRange th_unseen th_goals th_commonLength tr_marks tr_visited tr_size wh_places) t.heap) A) 0 0 A := by
  refine Met.ofW (cc := cX0_setBestShifts) (maxL := 6) (ret := (some .int)) (by decide) rfl ?_
  intro p e s m args below meth c s₁ B hml hv
  obtain ⟨hav, hP0, hD0, hK⟩ := hv
  have hx := B.exec
  have hb := B.bytes
  have hr := B.returns
  have hts := atoms_spec (ws := wsX0_setBestShifts) B.pre
  have hown : s.vm.findClass RX0 = some m.cls := findClass_of_methodNamed B.named
  have hlocks := B.notSynchronized
  have hB : ∀ w ∈ BIG, w ∈ wsX0_setBestShifts := fun _ h => List.mem_cons_of_mem _ h
  have hin : ∀ w ∈ wsX00, w ∈ wsX0_setBestShifts := fun w h => hB w (inB_X0 w h)
  have lk15 := hts _ (hB _ m_223)
  have lk23 := hts _ (hB _ m_221)
  obtain ⟨Z, hZ⟩ : ∃ Z : State → Prop, Z = MQ below (va_Qi (fun (r : Int32) (u : (Nat → Int32) × (Nat → Int32)) => Q r u.1 u.2) (fun (u : (Nat → Int32) × (Nat → Int32)) t => PW D A (wdC cI cL cZ ad ga_sightings u.1 ga_commonLength ga_allTimes gr_width gr_height gr_size gr_kinds gr_before gr_columns gr_rows gr_floorCells gr_clearCells gr_standCells gr_firstColumn gr_lastColumn pi_cells pi_facings pi_sets pi_size po_needs ro_cells ro_lengths u.2 si_sightLaw si_sightRange th_unseen th_goals th_commonLength tr_marks tr_visited tr_size wh_places) t.heap) A) args s 0 0 A := ⟨_, rfl⟩
  rw [← hZ]
  have hw : SW D A s.heap (wdC cI cL cZ ad ga_sightings ga_bestShifts ga_commonLength ga_allTimes gr_width gr_height gr_size gr_kinds gr_before gr_columns gr_rows gr_floorCells gr_clearCells gr_standCells gr_firstColumn gr_lastColumn pi_cells pi_facings pi_sets pi_size po_needs ro_cells ro_lengths ro_shifts si_sightLaw si_sightRange th_unseen th_goals th_commonLength tr_marks tr_visited tr_size wh_places) s.heap [] := ⟨hP0, hD0, va_S.rf⟩
  clear hP0 hD0 B
  have J129 : ∀ (n : Nat) (ga_bestShifts : (Nat → Int32)) (ro_shifts : (Nat → Int32)) (x1 : Int32) (x4 : Int32) , L_ga_setBestShifts_129 Q n ga_bestShifts ro_shifts x1 x4 → ∀ (H : Heap) (locs : List Loc) (ls : Array Slot), SW D A s.heap (wdC cI cL cZ ad ga_sightings ga_bestShifts ga_commonLength ga_allTimes gr_width gr_height gr_size gr_kinds gr_before gr_columns gr_rows gr_floorCells gr_clearCells gr_standCells gr_firstColumn gr_lastColumn pi_cells pi_facings pi_sets pi_size po_needs ro_cells ro_lengths ro_shifts si_sightLaw si_sightRange th_unseen th_goals th_commonLength tr_marks tr_visited tr_size wh_places) H locs → lv_has ls 6 [(0, .ref (ad 0)), (1, .int x1), (4, .int x4)] → W p l e (headSpec wsX0_setBestShifts rm_ga_setBestShifts).room s m args below meth c H locs 0 0 Z (F0 m 129 ls []) := by
    intro  n
    induction n with
    | zero => intro ga_bestShifts ro_shifts x1 x4 h; exact h.elim
    | succ n ih =>
    intro ga_bestShifts ro_shifts x1 x4 h H locs ls hw hl
    unfold L_ga_setBestShifts_129 at h
    refine lv_iload hx hb dX0_setBestShifts_129 (lv_at hl 2 rfl) ?_
    refine lv_iconst (v := 4) hx hb dX0_setBestShifts_131 (by decide) ?_
    refine lv_icmp_ge (tgt := 157) hx hb dX0_setBestShifts_132 (by decide) (fun hc => ?_) (fun hc => ?_)
    · replace h := h.1 hc
      refine lv_iload_n hx hb dX0_setBestShifts_157 rfl (lv_at hl 1 rfl) ?_
      rw [hZ]
      exact rt_i (ga_bestShifts, ro_shifts) hx hb hr hlocks hw h dX0_setBestShifts_158
    · replace h := h.2 hc
      refine lv_aload_n hx hb dX0_setBestShifts_135 rfl (lv_at hl 0 rfl) ?_
      refine gC_ga_rounds hx hb hts hin hown hK hw lk23 dX0_setBestShifts_136 ?_
      refine lv_iload hx hb dX0_setBestShifts_139 (lv_at hl 2 rfl) ?_
      refine lv_aload_n hx hb dX0_setBestShifts_141 rfl (lv_at hl 0 rfl) ?_
      refine gC_ga_bestShifts hx hb hts hin hown hK hw lk15 dX0_setBestShifts_142 ?_
      refine lv_iload hx hb dX0_setBestShifts_145 (lv_at hl 2 rfl) ?_
      refine aC_ga_bestShifts hx hb hK hw h.1 dX0_setBestShifts_147 ?_
      replace h := h.2
      refine cV_v (b := (ad 4)) (As := [.int x4, .int (ga_bestShifts x4.toNatClampNeg)]) (rest := []) ⟨hx, hb, hml, hown, hts⟩ hK hw (c_ro_changeShift x4 (ga_bestShifts x4.toNatClampNeg) h) (cwV 2 hts (gd_RX0_82 hB) rfl rfl rfl (by decide +kernel) ⟨Nat.le_of_ble_eq_true rfl, Nat.le_of_ble_eq_true rfl⟩) (rC_ro hK hw) hl.1 ⟨Nat.zero_le _, Nat.zero_le _⟩ rfl rfl (Nat.le_of_ble_eq_true rfl) dX0_setBestShifts_148 (fun ro_shifts_148 H locs h hw => ?_)
      refine lv_iinc (v := (x4 + (1 : Int32))) (lv' := [(4, .int (x4 + (1 : Int32))), (0, .ref (ad 0)), (1, .int x1)]) hx hb dX0_setBestShifts_151 hl (k := 2) rfl rfl (by decide) rfl (fun ls hl => ?_)
      refine lv_goto (tgt := 129) hx hb dX0_setBestShifts_154 (by decide) ?_
      exact ih _ _ _ _ h _ _ _ hw (lv_sub hl [1, 2, 0] rfl)
  have J86 : ∀ (n : Nat) (ga_bestShifts : (Nat → Int32)) (ro_shifts : (Nat → Int32)) (x1 : Int32) (x2 : Int32) (x3 : Int32) (x4 : Int32) , L_ga_setBestShifts_86 ga_sightings ga_commonLength ga_allTimes pi_size ro_lengths Q n ga_bestShifts ro_shifts x1 x2 x3 x4 → ∀ (H : Heap) (locs : List Loc) (ls : Array Slot), SW D A s.heap (wdC cI cL cZ ad ga_sightings ga_bestShifts ga_commonLength ga_allTimes gr_width gr_height gr_size gr_kinds gr_before gr_columns gr_rows gr_floorCells gr_clearCells gr_standCells gr_firstColumn gr_lastColumn pi_cells pi_facings pi_sets pi_size po_needs ro_cells ro_lengths ro_shifts si_sightLaw si_sightRange th_unseen th_goals th_commonLength tr_marks tr_visited tr_size wh_places) H locs → lv_has ls 6 [(0, .ref (ad 0)), (1, .int x1), (2, .int x2), (3, .int x3), (4, .int x4)] → W p l e (headSpec wsX0_setBestShifts rm_ga_setBestShifts).room s m args below meth c H locs 0 0 Z (F0 m 86 ls []) := by
    intro  n
    induction n with
    | zero => intro ga_bestShifts ro_shifts x1 x2 x3 x4 h; exact h.elim
    | succ n ih =>
    intro ga_bestShifts ro_shifts x1 x2 x3 x4 h H locs ls hw hl
    unfold L_ga_setBestShifts_86 at h
    refine lv_iload hx hb dX0_setBestShifts_86 (lv_at hl 4 rfl) ?_
    refine lv_iload_n hx hb dX0_setBestShifts_88 rfl (lv_at hl 3 rfl) ?_
    refine lv_icmp_ge (tgt := 126) hx hb dX0_setBestShifts_89 (by decide) (fun hc => ?_) (fun hc => ?_)
    · replace h := h.1 hc
      refine lv_iconst (v := 0) hx hb dX0_setBestShifts_126 (by decide) ?_
      refine lv_istore (lv' := [(4, .int (0 : Int32)), (0, .ref (ad 0)), (1, .int x1), (2, .int x2), (3, .int x3)]) hx hb dX0_setBestShifts_127 hl (by decide) rfl (fun ls hl => ?_)
      obtain ⟨n129, h⟩ := h
      exact J129  n129 _ _ _ _ h _ _ _ hw (lv_sub hl [1, 2, 0] rfl)
    · replace h := h.2 hc
      refine lv_iload_n hx hb dX0_setBestShifts_92 rfl (lv_at hl 1 rfl) ?_
      refine lv_if_le (tgt := 126) hx hb dX0_setBestShifts_93 (by decide) (fun hc => ?_) (fun hc => ?_)
      · replace h := h.1 hc
        refine lv_iconst (v := 0) hx hb dX0_setBestShifts_126 (by decide) ?_
        refine lv_istore (lv' := [(4, .int (0 : Int32)), (0, .ref (ad 0)), (1, .int x1), (2, .int x2), (3, .int x3)]) hx hb dX0_setBestShifts_127 hl (by decide) rfl (fun ls hl => ?_)
        obtain ⟨n129, h⟩ := h
        exact J129  n129 _ _ _ _ h _ _ _ hw (lv_sub hl [1, 2, 0] rfl)
      · replace h := h.2 hc
        refine lv_aload_n hx hb dX0_setBestShifts_96 rfl (lv_at hl 0 rfl) ?_
        refine lv_iload_n hx hb dX0_setBestShifts_97 rfl (lv_at hl 2 rfl) ?_
        refine cV_v (b := (ad 0)) (As := [.int x2]) (rest := []) ⟨hx, hb, hml, hown, hts⟩ hK hw (c_ga_shiftOn x2 h) (cwV 1 hts (gd_RX0_92 hB) rfl rfl rfl (by decide +kernel) ⟨Nat.le_of_ble_eq_true rfl, Nat.le_of_ble_eq_true rfl⟩) (rC_ga hK hw) hl.1 ⟨Nat.zero_le _, Nat.zero_le _⟩ rfl rfl (Nat.le_of_ble_eq_true rfl) dX0_setBestShifts_98 (fun ro_shifts_98 H locs h hw => ?_)
        refine lv_aload_n hx hb dX0_setBestShifts_101 rfl (lv_at hl 0 rfl) ?_
        refine cV_i (b := (ad 0)) (As := []) (rest := []) ⟨hx, hb, hml, hown, hts⟩ hK hw (c_ga_worstOfAll h) (cwV 0 hts (gd_RX0_86 hB) rfl rfl rfl (by decide +kernel) ⟨Nat.le_of_ble_eq_true rfl, Nat.le_of_ble_eq_true rfl⟩) (rC_ga hK hw) hl.1 ⟨Nat.zero_le _, Nat.zero_le _⟩ rfl rfl (Nat.le_of_ble_eq_true rfl) dX0_setBestShifts_102 (fun r102 _ H locs h hw => ?_)
        refine lv_istore (lv' := [(5, .int r102), (0, .ref (ad 0)), (1, .int x1), (2, .int x2), (3, .int x3), (4, .int x4)]) hx hb dX0_setBestShifts_105 hl (by decide) rfl (fun ls hl => ?_)
        refine lv_iload hx hb dX0_setBestShifts_107 (lv_at hl 0 rfl) ?_
        refine lv_iload_n hx hb dX0_setBestShifts_109 rfl (lv_at hl 2 rfl) ?_
        refine lv_icmp_ge (tgt := 120) hx hb dX0_setBestShifts_110 (by decide) (fun hc => ?_) (fun hc => ?_)
        · replace h := h.1 hc
          refine lv_iinc (v := (x4 + (1 : Int32))) (lv' := [(4, .int (x4 + (1 : Int32))), (5, .int r102), (0, .ref (ad 0)), (1, .int x1), (2, .int x2), (3, .int x3)]) hx hb dX0_setBestShifts_120 hl (k := 5) rfl rfl (by decide) rfl (fun ls hl => ?_)
          refine lv_goto (tgt := 86) hx hb dX0_setBestShifts_123 (by decide) ?_
          exact ih _ _ _ _ _ _ h _ _ _ hw (lv_sub hl [2, 3, 4, 5, 0] rfl)
        · replace h := h.2 hc
          refine lv_iload hx hb dX0_setBestShifts_113 (lv_at hl 0 rfl) ?_
          refine lv_istore_n (lv' := [(1, .int r102), (5, .int r102), (0, .ref (ad 0)), (2, .int x2), (3, .int x3), (4, .int x4)]) hx hb dX0_setBestShifts_115 rfl hl (by decide) rfl (fun ls hl => ?_)
          refine lv_aload_n hx hb dX0_setBestShifts_116 rfl (lv_at hl 2 rfl) ?_
          refine cV_v (b := (ad 0)) (As := []) (rest := []) ⟨hx, hb, hml, hown, hts⟩ hK hw (c_ga_keepShifts h) (cwV 0 hts (gd_RX0_96 hB) rfl rfl rfl (by decide +kernel) ⟨Nat.le_of_ble_eq_true rfl, Nat.le_of_ble_eq_true rfl⟩) (rC_ga hK hw) hl.1 ⟨Nat.zero_le _, Nat.zero_le _⟩ rfl rfl (Nat.le_of_ble_eq_true rfl) dX0_setBestShifts_117 (fun ga_bestShifts_117 H locs h hw => ?_)
          refine lv_iinc (v := (x4 + (1 : Int32))) (lv' := [(4, .int (x4 + (1 : Int32))), (1, .int r102), (5, .int r102), (0, .ref (ad 0)), (2, .int x2), (3, .int x3)]) hx hb dX0_setBestShifts_120 hl (k := 5) rfl rfl (by decide) rfl (fun ls hl => ?_)
          refine lv_goto (tgt := 86) hx hb dX0_setBestShifts_123 (by decide) ?_
          exact ih _ _ _ _ _ _ h _ _ _ hw (lv_sub hl [3, 1, 4, 5, 0] rfl)
  have J55 : ∀ (n : Nat) (ga_bestShifts : (Nat → Int32)) (ro_shifts : (Nat → Int32)) (x1 : Int32) (x2 : Int32) (x3 : Int32) (x4 : Int32) , L_ga_setBestShifts_55 ga_sightings ga_commonLength ga_allTimes pi_size ro_lengths Q n ga_bestShifts ro_shifts x1 x2 x3 x4 → ∀ (H : Heap) (locs : List Loc) (ls : Array Slot), SW D A s.heap (wdC cI cL cZ ad ga_sightings ga_bestShifts ga_commonLength ga_allTimes gr_width gr_height gr_size gr_kinds gr_before gr_columns gr_rows gr_floorCells gr_clearCells gr_standCells gr_firstColumn gr_lastColumn pi_cells pi_facings pi_sets pi_size po_needs ro_cells ro_lengths ro_shifts si_sightLaw si_sightRange th_unseen th_goals th_commonLength tr_marks tr_visited tr_size wh_places) H locs → lv_has ls 6 [(0, .ref (ad 0)), (1, .int x1), (2, .int x2), (3, .int x3), (4, .int x4)] → W p l e (headSpec wsX0_setBestShifts rm_ga_setBestShifts).room s m args below meth c H locs 0 0 Z (F0 m 55 ls []) := by
    intro  n
    induction n with
    | zero => intro ga_bestShifts ro_shifts x1 x2 x3 x4 h; exact h.elim
    | succ n ih =>
    intro ga_bestShifts ro_shifts x1 x2 x3 x4 h H locs ls hw hl
    unfold L_ga_setBestShifts_55 at h
    refine lv_iload hx hb dX0_setBestShifts_55 (lv_at hl 4 rfl) ?_
    refine lv_iconst (v := 4) hx hb dX0_setBestShifts_57 (by decide) ?_
    refine lv_icmp_ge (tgt := 83) hx hb dX0_setBestShifts_58 (by decide) (fun hc => ?_) (fun hc => ?_)
    · replace h := h.1 hc
      refine lv_iconst (v := 1) hx hb dX0_setBestShifts_83 (by decide) ?_
      refine lv_istore (lv' := [(4, .int (1 : Int32)), (0, .ref (ad 0)), (1, .int x1), (2, .int x2), (3, .int x3)]) hx hb dX0_setBestShifts_84 hl (by decide) rfl (fun ls hl => ?_)
      obtain ⟨n86, h⟩ := h
      exact J86  n86 _ _ _ _ _ _ h _ _ _ hw (lv_sub hl [1, 2, 3, 4, 0] rfl)
    · replace h := h.2 hc
      refine lv_iload_n hx hb dX0_setBestShifts_61 rfl (lv_at hl 3 rfl) ?_
      refine lv_iconst (v := 1) hx hb dX0_setBestShifts_62 (by decide) ?_
      refine lv_aload_n hx hb dX0_setBestShifts_63 rfl (lv_at hl 0 rfl) ?_
      refine gC_ga_rounds hx hb hts hin hown hK hw lk23 dX0_setBestShifts_64 ?_
      refine lv_iload hx hb dX0_setBestShifts_67 (lv_at hl 4 rfl) ?_
      refine cV_i (b := (ad 4)) (As := [.int x4]) (rest := [.int (1 : Int32), .int x3]) ⟨hx, hb, hml, hown, hts⟩ hK hw (c_ro_lengthOf x4 h) (cwV 1 hts (gd_RX0_49 hB) rfl rfl rfl (by decide +kernel) ⟨Nat.le_of_ble_eq_true rfl, Nat.le_of_ble_eq_true rfl⟩) (rC_ro hK hw) hl.1 ⟨Nat.zero_le _, Nat.zero_le _⟩ rfl rfl (Nat.le_of_ble_eq_true rfl) dX0_setBestShifts_69 (fun r69 _ H locs h hw => ?_)
      refine va_mmax hx hb (by rw [hml]; exact hl.1.symm) hown (hts _ (hB _ m_763)) (hts _ (hB _ m_441)) (hts _ (hB _ m_71)) (hts _ (hB _ m_442)) (Nat.le_of_ble_eq_true rfl) (Nat.le_of_ble_eq_true rfl) (Nat.zero_le _) (Nat.zero_le _) dX0_setBestShifts_72 ?_
      refine lv_imul hx hb dX0_setBestShifts_75 ?_
      refine lv_topi (fun x3_76 ex3_76 => ?_)
      replace h := h x3_76 ex3_76
      refine lv_istore_n (lv' := [(3, .int x3_76), (0, .ref (ad 0)), (1, .int x1), (2, .int x2), (4, .int x4)]) hx hb dX0_setBestShifts_76 rfl hl (by decide) rfl (fun ls hl => ?_)
      refine lv_iinc (v := (x4 + (1 : Int32))) (lv' := [(4, .int (x4 + (1 : Int32))), (3, .int x3_76), (0, .ref (ad 0)), (1, .int x1), (2, .int x2)]) hx hb dX0_setBestShifts_77 hl (k := 4) rfl rfl (by decide) rfl (fun ls hl => ?_)
      refine lv_goto (tgt := 55) hx hb dX0_setBestShifts_80 (by decide) ?_
      exact ih _ _ _ _ _ _ h _ _ _ hw (lv_sub hl [2, 3, 4, 1, 0] rfl)
  have J29 : ∀ (_ : True) (ga_bestShifts : (Nat → Int32)) (ro_shifts : (Nat → Int32)) , B_ga_setBestShifts_29 ga_sightings ga_commonLength ga_allTimes pi_size ro_lengths Q ga_bestShifts ro_shifts → ∀ (H : Heap) (locs : List Loc) (ls : Array Slot), SW D A s.heap (wdC cI cL cZ ad ga_sightings ga_bestShifts ga_commonLength ga_allTimes gr_width gr_height gr_size gr_kinds gr_before gr_columns gr_rows gr_floorCells gr_clearCells gr_standCells gr_firstColumn gr_lastColumn pi_cells pi_facings pi_sets pi_size po_needs ro_cells ro_lengths ro_shifts si_sightLaw si_sightRange th_unseen th_goals th_commonLength tr_marks tr_visited tr_size wh_places) H locs → lv_has ls 6 [(0, .ref (ad 0))] → W p l e (headSpec wsX0_setBestShifts rm_ga_setBestShifts).room s m args below meth c H locs 0 0 Z (F0 m 29 ls []) := by
    intro _  ga_bestShifts ro_shifts h H locs ls hw hl
    unfold B_ga_setBestShifts_29 at h
    refine lv_aload_n hx hb dX0_setBestShifts_29 rfl (lv_at hl 0 rfl) ?_
    refine cV_i (b := (ad 0)) (As := []) (rest := []) ⟨hx, hb, hml, hown, hts⟩ hK hw (c_ga_worstOfAll h) (cwV 0 hts (gd_RX0_86 hB) rfl rfl rfl (by decide +kernel) ⟨Nat.le_of_ble_eq_true rfl, Nat.le_of_ble_eq_true rfl⟩) (rC_ga hK hw) hl.1 ⟨Nat.zero_le _, Nat.zero_le _⟩ rfl rfl (Nat.le_of_ble_eq_true rfl) dX0_setBestShifts_30 (fun r30 _ H locs h hw => ?_)
    refine lv_istore_n (lv' := [(1, .int r30), (0, .ref (ad 0))]) hx hb dX0_setBestShifts_33 rfl hl (by decide) rfl (fun ls hl => ?_)
    refine lv_iload_n hx hb dX0_setBestShifts_34 rfl (lv_at hl 0 rfl) ?_
    refine lv_bipush (v := (-9)) hx hb dX0_setBestShifts_35 (by decide) ?_
    refine lv_icmp_ne (tgt := 43) hx hb dX0_setBestShifts_37 (by decide) (fun hc => ?_) (fun hc => ?_)
    · replace h := h.2 hc
      refine lv_aload_n hx hb dX0_setBestShifts_43 rfl (lv_at hl 1 rfl) ?_
      refine cV_i (b := (ad 0)) (As := []) (rest := []) ⟨hx, hb, hml, hown, hts⟩ hK hw (c_ga_firstWithRound h) (cwV 0 hts (gd_RX0_89 hB) rfl rfl rfl (by decide +kernel) ⟨Nat.le_of_ble_eq_true rfl, Nat.le_of_ble_eq_true rfl⟩) (rC_ga hK hw) hl.1 ⟨Nat.zero_le _, Nat.zero_le _⟩ rfl rfl (Nat.le_of_ble_eq_true rfl) dX0_setBestShifts_44 (fun r44 _ H locs h hw => ?_)
      refine lv_istore_n (lv' := [(2, .int r44), (1, .int r30), (0, .ref (ad 0))]) hx hb dX0_setBestShifts_47 rfl hl (by decide) rfl (fun ls hl => ?_)
      refine lv_iconst (v := 1) hx hb dX0_setBestShifts_48 (by decide) ?_
      refine lv_istore_n (lv' := [(3, .int (1 : Int32)), (2, .int r44), (1, .int r30), (0, .ref (ad 0))]) hx hb dX0_setBestShifts_49 rfl hl (by decide) rfl (fun ls hl => ?_)
      refine lv_iload_n hx hb dX0_setBestShifts_50 rfl (lv_at hl 1 rfl) ?_
      refine lv_iconst (v := 1) hx hb dX0_setBestShifts_51 (by decide) ?_
      refine lv_iadd hx hb dX0_setBestShifts_52 ?_
      refine lv_istore (lv' := [(4, .int (r44 + (1 : Int32))), (3, .int (1 : Int32)), (2, .int r44), (1, .int r30), (0, .ref (ad 0))]) hx hb dX0_setBestShifts_53 hl (by decide) rfl (fun ls hl => ?_)
      obtain ⟨n55, h⟩ := h
      exact J55  n55 _ _ _ _ _ _ h _ _ _ hw (lv_sub hl [4, 3, 2, 1, 0] rfl)
    · replace h := h.1 hc
      refine lv_bipush (v := (-9)) hx hb dX0_setBestShifts_40 (by decide) ?_
      rw [hZ]
      exact rt_i (ga_bestShifts, ro_shifts) hx hb hr hlocks hw h dX0_setBestShifts_42
  have J2 : ∀ (n : Nat) (ga_bestShifts : (Nat → Int32)) (ro_shifts : (Nat → Int32)) (x1 : Int32) , L_ga_setBestShifts_2 ga_sightings ga_commonLength ga_allTimes pi_size ro_lengths Q n ga_bestShifts ro_shifts x1 → ∀ (H : Heap) (locs : List Loc) (ls : Array Slot), SW D A s.heap (wdC cI cL cZ ad ga_sightings ga_bestShifts ga_commonLength ga_allTimes gr_width gr_height gr_size gr_kinds gr_before gr_columns gr_rows gr_floorCells gr_clearCells gr_standCells gr_firstColumn gr_lastColumn pi_cells pi_facings pi_sets pi_size po_needs ro_cells ro_lengths ro_shifts si_sightLaw si_sightRange th_unseen th_goals th_commonLength tr_marks tr_visited tr_size wh_places) H locs → lv_has ls 6 [(0, .ref (ad 0)), (1, .int x1)] → W p l e (headSpec wsX0_setBestShifts rm_ga_setBestShifts).room s m args below meth c H locs 0 0 Z (F0 m 2 ls []) := by
    intro  n
    induction n with
    | zero => intro ga_bestShifts ro_shifts x1 h; exact h.elim
    | succ n ih =>
    intro ga_bestShifts ro_shifts x1 h H locs ls hw hl
    unfold L_ga_setBestShifts_2 at h
    refine lv_iload_n hx hb dX0_setBestShifts_2 rfl (lv_at hl 1 rfl) ?_
    refine lv_iconst (v := 4) hx hb dX0_setBestShifts_3 (by decide) ?_
    refine lv_icmp_ge (tgt := 29) hx hb dX0_setBestShifts_4 (by decide) (fun hc => ?_) (fun hc => ?_)
    · replace h := h.1 hc
      exact J29 trivial  _ _ h _ _ _ hw (lv_sub hl [0] rfl)
    · replace h := h.2 hc
      refine lv_aload_n hx hb dX0_setBestShifts_7 rfl (lv_at hl 0 rfl) ?_
      refine gC_ga_rounds hx hb hts hin hown hK hw lk23 dX0_setBestShifts_8 ?_
      refine lv_iload_n hx hb dX0_setBestShifts_11 rfl (lv_at hl 1 rfl) ?_
      refine lv_iconst (v := 0) hx hb dX0_setBestShifts_12 (by decide) ?_
      refine cV_v (b := (ad 4)) (As := [.int x1, .int (0 : Int32)]) (rest := []) ⟨hx, hb, hml, hown, hts⟩ hK hw (c_ro_changeShift x1 (0 : Int32) h) (cwV 2 hts (gd_RX0_82 hB) rfl rfl rfl (by decide +kernel) ⟨Nat.le_of_ble_eq_true rfl, Nat.le_of_ble_eq_true rfl⟩) (rC_ro hK hw) hl.1 ⟨Nat.zero_le _, Nat.zero_le _⟩ rfl rfl (Nat.le_of_ble_eq_true rfl) dX0_setBestShifts_13 (fun ro_shifts_13 H locs h hw => ?_)
      refine lv_aload_n hx hb dX0_setBestShifts_16 rfl (lv_at hl 0 rfl) ?_
      refine gC_ga_bestShifts hx hb hts hin hown hK hw lk15 dX0_setBestShifts_17 ?_
      refine lv_iload_n hx hb dX0_setBestShifts_20 rfl (lv_at hl 1 rfl) ?_
      refine lv_iconst (v := 0) hx hb dX0_setBestShifts_21 (by decide) ?_
      refine tC_ga_bestShifts hx hb hK hw h.1 dX0_setBestShifts_22 (fun H locs hw => ?_)
      replace h := h.2
      refine lv_iinc (v := (x1 + (1 : Int32))) (lv' := [(1, .int (x1 + (1 : Int32))), (0, .ref (ad 0))]) hx hb dX0_setBestShifts_23 hl (k := 1) rfl rfl (by decide) rfl (fun ls hl => ?_)
      refine lv_goto (tgt := 2) hx hb dX0_setBestShifts_26 (by decide) ?_
      exact ih _ _ _ h _ _ _ hw (lv_sub hl [1, 0] rfl)
  unfold P_ga_setBestShifts at h
  have he : entryFrame m args 6 = entryFrame m ([.ref (ad 0)] : List Value).toArray 6 := by rw [hav]
  refine W.eq he ?_
  have hl := lv_entry ([.ref (ad 0)]) (n := 6) (Nat.le_of_ble_eq_true rfl)
  rw [lg_entry_eq]
  generalize (lg_sl ([.ref (ad 0)]) ++ List.replicate (6 - (lg_sl ([.ref (ad 0)])).length) Slot.unset).toArray = ls at hl ⊢
  have hl : lv_has ls 6 [(0, .ref (ad 0))] := hl
  refine lv_iconst (v := 0) hx hb dX0_setBestShifts_0 (by decide) ?_
  refine lv_istore_n (lv' := [(1, .int (0 : Int32)), (0, .ref (ad 0))]) hx hb dX0_setBestShifts_1 rfl hl (by decide) rfl (fun ls hl => ?_)
  obtain ⟨n2, h⟩ := h
  exact J2  n2 _ _ _ h _ _ _ hw (lv_sub hl [1, 0] rfl)
def rm_gr_changeSides : Room := { frames := 0, cells := 0, slots := 0, locals := 0 }
set_option maxHeartbeats 4000000 in
set_option maxRecDepth 100000 in
theorem c_gr_changeSides {l : Launch} {D : va_G} {cI cL cZ : ClassId} {mx my : Nat} {A : Nat → Prop} {ad : Nat → Nat} {ga_sightings th_unseen th_goals tr_visited : Nat → Int64} {ga_bestShifts gr_kinds gr_before gr_columns gr_rows pi_cells pi_facings pi_sets po_needs ro_cells ro_lengths ro_shifts tr_marks wh_places : Nat → Int32} {ga_commonLength gr_width gr_height gr_size pi_size si_sightLaw si_sightRange th_commonLength tr_size : Int32} {ga_allTimes gr_floorCells gr_clearCells gr_standCells gr_firstColumn gr_lastColumn : Int64} (x1 : Int32) (x2 : Int32) {Q : Int32 → Int32 → Int32 → (Nat → Int32) → (Nat → Int32) → Int64 → Int64 → Prop} (h : P_gr_changeSides gr_width gr_height gr_size gr_columns gr_rows gr_firstColumn gr_lastColumn x1 x2 Q) : Met l yX1_changeSides wsX1_changeSides rm_gr_changeSides (va_Pc [.ref (ad 1), .int x1, .int x2] (WC D cI cL cZ mx my A (wdC cI cL cZ ad ga_sightings ga_bestShifts ga_commonLength ga_allTimes gr_width gr_height gr_size gr_kinds gr_before gr_columns gr_rows gr_floorCells gr_clearCells gr_standCells gr_firstColumn gr_lastColumn pi_cells pi_facings pi_sets pi_size po_needs ro_cells ro_lengths ro_shifts si_sightLaw si_sightRange th_unseen th_goals th_commonLength tr_marks tr_visited tr_size wh_places))) (va_Qv (fun (u : Int32 × Int32 × Int32 × (Nat → Int32) × (Nat → Int32) × Int64 × Int64) => Q u.1 u.2.1 u.2.2.1 u.2.2.2.1 u.2.2.2.2.1 u.2.2.2.2.2.1 u.2.2.2.2.2.2) (fun (u : Int32 × Int32 × Int32 × (Nat → Int32) × (Nat → Int32) × Int64 × Int64) t => PW D A (wdC cI cL cZ ad ga_sightings ga_bestShifts ga_commonLength ga_allTimes u.1 u.2.1 u.2.2.1 gr_kinds gr_before u.2.2.2.1 u.2.2.2.2.1 gr_floorCells gr_clearCells gr_standCells u.2.2.2.2.2.1 u.2.2.2.2.2.2 pi_cells pi_facings pi_sets pi_size po_needs ro_cells ro_lengths ro_shifts si_sightLaw si_sightRange th_unseen th_goals th_commonLength tr_marks tr_visited tr_size wh_places) t.heap) A) 0 0 A := by
  refine Met.ofW (cc := cX1_changeSides) (maxL := 5) (ret := none) (by decide) rfl ?_
  intro p e s m args below meth c s₁ B hml hv
  obtain ⟨hav, hP0, hD0, hK⟩ := hv
  have hx := B.exec
  have hb := B.bytes
  have hr := B.returns
  have hts := atoms_spec (ws := wsX1_changeSides) B.pre
  have hown : s.vm.findClass RX1 = some m.cls := findClass_of_methodNamed B.named
  have hlocks := B.notSynchronized
  have hB : ∀ w ∈ BIG, w ∈ wsX1_changeSides := fun _ h => List.mem_cons_of_mem _ h
  have hin : ∀ w ∈ wsX10, w ∈ wsX1_changeSides := fun w h => hB w (inB_X1 w h)
  have lk18 := hts _ (hB _ m_108)
  have lk21 := hts _ (hB _ m_109)
  have lk40 := hts _ (hB _ m_103)
  have lk44 := hts _ (hB _ m_104)
  have lk47 := hts _ (hB _ m_105)
  have lk50 := hts _ (hB _ m_113)
  have lk54 := hts _ (hB _ m_114)
  obtain ⟨Z, hZ⟩ : ∃ Z : State → Prop, Z = MQ below (va_Qv (fun (u : Int32 × Int32 × Int32 × (Nat → Int32) × (Nat → Int32) × Int64 × Int64) => Q u.1 u.2.1 u.2.2.1 u.2.2.2.1 u.2.2.2.2.1 u.2.2.2.2.2.1 u.2.2.2.2.2.2) (fun (u : Int32 × Int32 × Int32 × (Nat → Int32) × (Nat → Int32) × Int64 × Int64) t => PW D A (wdC cI cL cZ ad ga_sightings ga_bestShifts ga_commonLength ga_allTimes u.1 u.2.1 u.2.2.1 gr_kinds gr_before u.2.2.2.1 u.2.2.2.2.1 gr_floorCells gr_clearCells gr_standCells u.2.2.2.2.2.1 u.2.2.2.2.2.2 pi_cells pi_facings pi_sets pi_size po_needs ro_cells ro_lengths ro_shifts si_sightLaw si_sightRange th_unseen th_goals th_commonLength tr_marks tr_visited tr_size wh_places) t.heap) A) args s 0 0 A := ⟨_, rfl⟩
  rw [← hZ]
  have hw : SW D A s.heap (wdC cI cL cZ ad ga_sightings ga_bestShifts ga_commonLength ga_allTimes gr_width gr_height gr_size gr_kinds gr_before gr_columns gr_rows gr_floorCells gr_clearCells gr_standCells gr_firstColumn gr_lastColumn pi_cells pi_facings pi_sets pi_size po_needs ro_cells ro_lengths ro_shifts si_sightLaw si_sightRange th_unseen th_goals th_commonLength tr_marks tr_visited tr_size wh_places) s.heap [] := ⟨hP0, hD0, va_S.rf⟩
  clear hP0 hD0 B
  have J74 : ∀ (_ : True) (k29 : Int32 → Int32 → Int32 → (Nat → Int32) → (Nat → Int32) → Int64 → Int64 → Int32 → Int32 → Int32 → Prop) (hk29 : ∀ (gr_width : Int32) (gr_height : Int32) (gr_size : Int32) (gr_columns : (Nat → Int32)) (gr_rows : (Nat → Int32)) (gr_firstColumn : Int64) (gr_lastColumn : Int64) (x1 : Int32) (x2 : Int32) (x3 : Int32) , k29 gr_width gr_height gr_size gr_columns gr_rows gr_firstColumn gr_lastColumn x1 x2 x3 → ∀ (H : Heap) (locs : List Loc) (ls : Array Slot), SW D A s.heap (wdC cI cL cZ ad ga_sightings ga_bestShifts ga_commonLength ga_allTimes gr_width gr_height gr_size gr_kinds gr_before gr_columns gr_rows gr_floorCells gr_clearCells gr_standCells gr_firstColumn gr_lastColumn pi_cells pi_facings pi_sets pi_size po_needs ro_cells ro_lengths ro_shifts si_sightLaw si_sightRange th_unseen th_goals th_commonLength tr_marks tr_visited tr_size wh_places) H locs → lv_has ls 5 [(0, .ref (ad 1)), (1, .int x1), (2, .int x2), (3, .int x3)] → W p l e (headSpec wsX1_changeSides rm_gr_changeSides).room s m args below meth c H locs 0 0 Z (F0 m 29 ls [])) (gr_width : Int32) (gr_height : Int32) (gr_size : Int32) (gr_columns : (Nat → Int32)) (gr_rows : (Nat → Int32)) (gr_firstColumn : Int64) (gr_lastColumn : Int64) (x1 : Int32) (x2 : Int32) (x3 : Int32) , B_gr_changeSides_74 Q k29 gr_width gr_height gr_size gr_columns gr_rows gr_firstColumn gr_lastColumn x1 x2 x3 → ∀ (H : Heap) (locs : List Loc) (ls : Array Slot), SW D A s.heap (wdC cI cL cZ ad ga_sightings ga_bestShifts ga_commonLength ga_allTimes gr_width gr_height gr_size gr_kinds gr_before gr_columns gr_rows gr_floorCells gr_clearCells gr_standCells gr_firstColumn gr_lastColumn pi_cells pi_facings pi_sets pi_size po_needs ro_cells ro_lengths ro_shifts si_sightLaw si_sightRange th_unseen th_goals th_commonLength tr_marks tr_visited tr_size wh_places) H locs → lv_has ls 5 [(0, .ref (ad 1)), (1, .int x1), (2, .int x2), (3, .int x3)] → W p l e (headSpec wsX1_changeSides rm_gr_changeSides).room s m args below meth c H locs 0 0 Z (F0 m 74 ls []) := by
    intro _ k29 hk29 gr_width gr_height gr_size gr_columns gr_rows gr_firstColumn gr_lastColumn x1 x2 x3 h H locs ls hw hl
    unfold B_gr_changeSides_74 at h
    refine lv_aload_n hx hb dX1_changeSides_74 rfl (lv_at hl 0 rfl) ?_
    refine lv_dup hx hb dX1_changeSides_75 rfl ?_
    refine gC_gr_firstColumn hx hb hts hin hown hK hw lk50 dX1_changeSides_76 ?_
    refine lv_lconst (v := 1) hx hb dX1_changeSides_79 (by decide) ?_
    refine lv_iload_n hx hb dX1_changeSides_80 rfl (lv_at hl 3 rfl) ?_
    refine lv_iload_n hx hb dX1_changeSides_81 rfl (lv_at hl 1 rfl) ?_
    refine lv_imul hx hb dX1_changeSides_82 ?_
    refine lv_lshl hx hb dX1_changeSides_83 rfl ?_
    refine lv_lor hx hb dX1_changeSides_84 ?_
    refine lv_topl (fun gr_firstColumn_85 egr_firstColumn_85 => ?_)
    replace h := h gr_firstColumn_85 egr_firstColumn_85
    refine sC_gr_firstColumn hx hb hts hin hown hK hw lk50 dX1_changeSides_85 (fun H locs hw => ?_)
    refine lv_aload_n hx hb dX1_changeSides_88 rfl (lv_at hl 0 rfl) ?_
    refine lv_dup hx hb dX1_changeSides_89 rfl ?_
    refine gC_gr_lastColumn hx hb hts hin hown hK hw lk54 dX1_changeSides_90 ?_
    refine lv_lconst (v := 1) hx hb dX1_changeSides_93 (by decide) ?_
    refine lv_iload_n hx hb dX1_changeSides_94 rfl (lv_at hl 3 rfl) ?_
    refine lv_iload_n hx hb dX1_changeSides_95 rfl (lv_at hl 1 rfl) ?_
    refine lv_imul hx hb dX1_changeSides_96 ?_
    refine lv_iload_n hx hb dX1_changeSides_97 rfl (lv_at hl 1 rfl) ?_
    refine lv_iadd hx hb dX1_changeSides_98 ?_
    refine lv_iconst (v := 1) hx hb dX1_changeSides_99 (by decide) ?_
    refine lv_isub hx hb dX1_changeSides_100 ?_
    refine lv_lshl hx hb dX1_changeSides_101 rfl ?_
    refine lv_lor hx hb dX1_changeSides_102 ?_
    refine lv_topl (fun gr_lastColumn_103 egr_lastColumn_103 => ?_)
    replace h := h gr_lastColumn_103 egr_lastColumn_103
    refine sC_gr_lastColumn hx hb hts hin hown hK hw lk54 dX1_changeSides_103 (fun H locs hw => ?_)
    refine lv_iinc (v := (x3 + (1 : Int32))) (lv' := [(3, .int (x3 + (1 : Int32))), (0, .ref (ad 1)), (1, .int x1), (2, .int x2)]) hx hb dX1_changeSides_106 hl (k := 3) rfl rfl (by decide) rfl (fun ls hl => ?_)
    refine lv_goto (tgt := 29) hx hb dX1_changeSides_109 (by decide) ?_
    exact hk29 _ _ _ _ _ _ _ _ _ _ h _ _ _ hw (lv_sub hl [1, 2, 3, 0] rfl)
  have J37 : ∀ (k29 : Int32 → Int32 → Int32 → (Nat → Int32) → (Nat → Int32) → Int64 → Int64 → Int32 → Int32 → Int32 → Prop) (hk29 : ∀ (gr_width : Int32) (gr_height : Int32) (gr_size : Int32) (gr_columns : (Nat → Int32)) (gr_rows : (Nat → Int32)) (gr_firstColumn : Int64) (gr_lastColumn : Int64) (x1 : Int32) (x2 : Int32) (x3 : Int32) , k29 gr_width gr_height gr_size gr_columns gr_rows gr_firstColumn gr_lastColumn x1 x2 x3 → ∀ (H : Heap) (locs : List Loc) (ls : Array Slot), SW D A s.heap (wdC cI cL cZ ad ga_sightings ga_bestShifts ga_commonLength ga_allTimes gr_width gr_height gr_size gr_kinds gr_before gr_columns gr_rows gr_floorCells gr_clearCells gr_standCells gr_firstColumn gr_lastColumn pi_cells pi_facings pi_sets pi_size po_needs ro_cells ro_lengths ro_shifts si_sightLaw si_sightRange th_unseen th_goals th_commonLength tr_marks tr_visited tr_size wh_places) H locs → lv_has ls 5 [(0, .ref (ad 1)), (1, .int x1), (2, .int x2), (3, .int x3)] → W p l e (headSpec wsX1_changeSides rm_gr_changeSides).room s m args below meth c H locs 0 0 Z (F0 m 29 ls [])) (n : Nat) (gr_width : Int32) (gr_height : Int32) (gr_size : Int32) (gr_columns : (Nat → Int32)) (gr_rows : (Nat → Int32)) (gr_firstColumn : Int64) (gr_lastColumn : Int64) (x1 : Int32) (x2 : Int32) (x3 : Int32) (x4 : Int32) , L_gr_changeSides_37 Q k29 n gr_width gr_height gr_size gr_columns gr_rows gr_firstColumn gr_lastColumn x1 x2 x3 x4 → ∀ (H : Heap) (locs : List Loc) (ls : Array Slot), SW D A s.heap (wdC cI cL cZ ad ga_sightings ga_bestShifts ga_commonLength ga_allTimes gr_width gr_height gr_size gr_kinds gr_before gr_columns gr_rows gr_floorCells gr_clearCells gr_standCells gr_firstColumn gr_lastColumn pi_cells pi_facings pi_sets pi_size po_needs ro_cells ro_lengths ro_shifts si_sightLaw si_sightRange th_unseen th_goals th_commonLength tr_marks tr_visited tr_size wh_places) H locs → lv_has ls 5 [(0, .ref (ad 1)), (1, .int x1), (2, .int x2), (3, .int x3), (4, .int x4)] → W p l e (headSpec wsX1_changeSides rm_gr_changeSides).room s m args below meth c H locs 0 0 Z (F0 m 37 ls []) := by
    intro k29 hk29 n
    induction n with
    | zero => intro gr_width gr_height gr_size gr_columns gr_rows gr_firstColumn gr_lastColumn x1 x2 x3 x4 h; exact h.elim
    | succ n ih =>
    intro gr_width gr_height gr_size gr_columns gr_rows gr_firstColumn gr_lastColumn x1 x2 x3 x4 h H locs ls hw hl
    unfold L_gr_changeSides_37 at h
    refine lv_iload hx hb dX1_changeSides_37 (lv_at hl 4 rfl) ?_
    refine lv_iload_n hx hb dX1_changeSides_39 rfl (lv_at hl 1 rfl) ?_
    refine lv_icmp_ge (tgt := 74) hx hb dX1_changeSides_40 (by decide) (fun hc => ?_) (fun hc => ?_)
    · replace h := h.1 hc
      exact J74 trivial k29 hk29 _ _ _ _ _ _ _ _ _ _ h _ _ _ hw (lv_sub hl [0, 1, 2, 3] rfl)
    · replace h := h.2 hc
      refine lv_aload_n hx hb dX1_changeSides_43 rfl (lv_at hl 0 rfl) ?_
      refine gC_gr_columns hx hb hts hin hown hK hw lk18 dX1_changeSides_44 ?_
      refine lv_iload_n hx hb dX1_changeSides_47 rfl (lv_at hl 3 rfl) ?_
      refine lv_iload_n hx hb dX1_changeSides_48 rfl (lv_at hl 1 rfl) ?_
      refine lv_imul hx hb dX1_changeSides_49 ?_
      refine lv_iload hx hb dX1_changeSides_50 (lv_at hl 4 rfl) ?_
      refine lv_iadd hx hb dX1_changeSides_52 ?_
      refine lv_iload hx hb dX1_changeSides_53 (lv_at hl 4 rfl) ?_
      refine tC_gr_columns hx hb hK hw h.1 dX1_changeSides_55 (fun H locs hw => ?_)
      replace h := h.2
      refine lv_aload_n hx hb dX1_changeSides_56 rfl (lv_at hl 0 rfl) ?_
      refine gC_gr_rows hx hb hts hin hown hK hw lk21 dX1_changeSides_57 ?_
      refine lv_iload_n hx hb dX1_changeSides_60 rfl (lv_at hl 3 rfl) ?_
      refine lv_iload_n hx hb dX1_changeSides_61 rfl (lv_at hl 1 rfl) ?_
      refine lv_imul hx hb dX1_changeSides_62 ?_
      refine lv_iload hx hb dX1_changeSides_63 (lv_at hl 4 rfl) ?_
      refine lv_iadd hx hb dX1_changeSides_65 ?_
      refine lv_iload_n hx hb dX1_changeSides_66 rfl (lv_at hl 3 rfl) ?_
      refine tC_gr_rows hx hb hK hw h.1 dX1_changeSides_67 (fun H locs hw => ?_)
      replace h := h.2
      refine lv_iinc (v := (x4 + (1 : Int32))) (lv' := [(4, .int (x4 + (1 : Int32))), (0, .ref (ad 1)), (1, .int x1), (2, .int x2), (3, .int x3)]) hx hb dX1_changeSides_68 hl (k := 4) rfl rfl (by decide) rfl (fun ls hl => ?_)
      refine lv_goto (tgt := 37) hx hb dX1_changeSides_71 (by decide) ?_
      exact ih _ _ _ _ _ _ _ _ _ _ _ h _ _ _ hw (lv_sub hl [1, 2, 3, 4, 0] rfl)
  have J29 : ∀ (n : Nat) (gr_width : Int32) (gr_height : Int32) (gr_size : Int32) (gr_columns : (Nat → Int32)) (gr_rows : (Nat → Int32)) (gr_firstColumn : Int64) (gr_lastColumn : Int64) (x1 : Int32) (x2 : Int32) (x3 : Int32) , L_gr_changeSides_29 Q n gr_width gr_height gr_size gr_columns gr_rows gr_firstColumn gr_lastColumn x1 x2 x3 → ∀ (H : Heap) (locs : List Loc) (ls : Array Slot), SW D A s.heap (wdC cI cL cZ ad ga_sightings ga_bestShifts ga_commonLength ga_allTimes gr_width gr_height gr_size gr_kinds gr_before gr_columns gr_rows gr_floorCells gr_clearCells gr_standCells gr_firstColumn gr_lastColumn pi_cells pi_facings pi_sets pi_size po_needs ro_cells ro_lengths ro_shifts si_sightLaw si_sightRange th_unseen th_goals th_commonLength tr_marks tr_visited tr_size wh_places) H locs → lv_has ls 5 [(0, .ref (ad 1)), (1, .int x1), (2, .int x2), (3, .int x3)] → W p l e (headSpec wsX1_changeSides rm_gr_changeSides).room s m args below meth c H locs 0 0 Z (F0 m 29 ls []) := by
    intro  n
    induction n with
    | zero => intro gr_width gr_height gr_size gr_columns gr_rows gr_firstColumn gr_lastColumn x1 x2 x3 h; exact h.elim
    | succ n ih =>
    intro gr_width gr_height gr_size gr_columns gr_rows gr_firstColumn gr_lastColumn x1 x2 x3 h H locs ls hw hl
    unfold L_gr_changeSides_29 at h
    refine lv_iload_n hx hb dX1_changeSides_29 rfl (lv_at hl 3 rfl) ?_
    refine lv_iload_n hx hb dX1_changeSides_30 rfl (lv_at hl 2 rfl) ?_
    refine lv_icmp_ge (tgt := 112) hx hb dX1_changeSides_31 (by decide) (fun hc => ?_) (fun hc => ?_)
    · replace h := h.1 hc
      rw [hZ]
      exact rt_v (gr_width, gr_height, gr_size, gr_columns, gr_rows, gr_firstColumn, gr_lastColumn) hx hb hr hlocks hw h dX1_changeSides_112
    · replace h := h.2 hc
      refine lv_iconst (v := 0) hx hb dX1_changeSides_34 (by decide) ?_
      refine lv_istore (lv' := [(4, .int (0 : Int32)), (0, .ref (ad 1)), (1, .int x1), (2, .int x2), (3, .int x3)]) hx hb dX1_changeSides_35 hl (by decide) rfl (fun ls hl => ?_)
      obtain ⟨n37, h⟩ := h
      exact J37 (L_gr_changeSides_29 Q n) ih n37 _ _ _ _ _ _ _ _ _ _ _ h _ _ _ hw (lv_sub hl [1, 2, 3, 4, 0] rfl)
  unfold P_gr_changeSides at h
  have he : entryFrame m args 5 = entryFrame m ([.ref (ad 1), .int x1, .int x2] : List Value).toArray 5 := by rw [hav]
  refine W.eq he ?_
  have hl := lv_entry ([.ref (ad 1), .int x1, .int x2]) (n := 5) (Nat.le_of_ble_eq_true rfl)
  rw [lg_entry_eq]
  generalize (lg_sl ([.ref (ad 1), .int x1, .int x2]) ++ List.replicate (5 - (lg_sl ([.ref (ad 1), .int x1, .int x2])).length) Slot.unset).toArray = ls at hl ⊢
  have hl : lv_has ls 5 [(0, .ref (ad 1)), (1, .int x1), (2, .int x2)] := hl
  refine lv_aload_n hx hb dX1_changeSides_0 rfl (lv_at hl 0 rfl) ?_
  refine lv_iload_n hx hb dX1_changeSides_1 rfl (lv_at hl 1 rfl) ?_
  refine sC_gr_width hx hb hts hin hown hK hw lk40 dX1_changeSides_2 (fun H locs hw => ?_)
  refine lv_aload_n hx hb dX1_changeSides_5 rfl (lv_at hl 0 rfl) ?_
  refine lv_iload_n hx hb dX1_changeSides_6 rfl (lv_at hl 2 rfl) ?_
  refine sC_gr_height hx hb hts hin hown hK hw lk44 dX1_changeSides_7 (fun H locs hw => ?_)
  refine lv_aload_n hx hb dX1_changeSides_10 rfl (lv_at hl 0 rfl) ?_
  refine lv_iload_n hx hb dX1_changeSides_11 rfl (lv_at hl 1 rfl) ?_
  refine lv_iload_n hx hb dX1_changeSides_12 rfl (lv_at hl 2 rfl) ?_
  refine lv_imul hx hb dX1_changeSides_13 ?_
  refine lv_topi (fun gr_size_14 egr_size_14 => ?_)
  replace h := h gr_size_14 egr_size_14
  refine sC_gr_size hx hb hts hin hown hK hw lk47 dX1_changeSides_14 (fun H locs hw => ?_)
  refine lv_aload_n hx hb dX1_changeSides_17 rfl (lv_at hl 0 rfl) ?_
  refine lv_lconst (v := 0) hx hb dX1_changeSides_18 (by decide) ?_
  refine sC_gr_firstColumn hx hb hts hin hown hK hw lk50 dX1_changeSides_19 (fun H locs hw => ?_)
  refine lv_aload_n hx hb dX1_changeSides_22 rfl (lv_at hl 0 rfl) ?_
  refine lv_lconst (v := 0) hx hb dX1_changeSides_23 (by decide) ?_
  refine sC_gr_lastColumn hx hb hts hin hown hK hw lk54 dX1_changeSides_24 (fun H locs hw => ?_)
  refine lv_iconst (v := 0) hx hb dX1_changeSides_27 (by decide) ?_
  refine lv_istore_n (lv' := [(3, .int (0 : Int32)), (0, .ref (ad 1)), (1, .int x1), (2, .int x2)]) hx hb dX1_changeSides_28 rfl hl (by decide) rfl (fun ls hl => ?_)
  obtain ⟨n29, h⟩ := h
  exact J29  n29 _ _ _ _ _ _ _ _ _ _ h _ _ _ hw (lv_sub hl [1, 2, 3, 0] rfl)
set_option maxHeartbeats 4000000 in
set_option maxRecDepth 100000 in
theorem c_gr_changeSidesG {l : Launch} {D : va_G} {cI cL cZ : ClassId} {mx my : Nat} {A : Nat → Prop} {ad : Nat → Nat} {gr_width gr_height gr_size : Int32} {gr_kinds gr_before gr_columns gr_rows : Nat → Int32} {gr_floorCells gr_clearCells gr_standCells gr_firstColumn gr_lastColumn : Int64} (x1 : Int32) (x2 : Int32) {Q : Int32 → Int32 → Int32 → (Nat → Int32) → (Nat → Int32) → Int64 → Int64 → Prop} (h : P_gr_changeSides gr_width gr_height gr_size gr_columns gr_rows gr_firstColumn gr_lastColumn x1 x2 Q) : Met l yX1_changeSides wsX1_changeSides rm_gr_changeSides (va_Pc [.ref (ad 0), .int x1, .int x2] (WC D cI cL cZ mx my A (wdG cI cL cZ ad gr_width gr_height gr_size gr_kinds gr_before gr_columns gr_rows gr_floorCells gr_clearCells gr_standCells gr_firstColumn gr_lastColumn))) (va_Qv (fun (u : Int32 × Int32 × Int32 × (Nat → Int32) × (Nat → Int32) × Int64 × Int64) => Q u.1 u.2.1 u.2.2.1 u.2.2.2.1 u.2.2.2.2.1 u.2.2.2.2.2.1 u.2.2.2.2.2.2) (fun (u : Int32 × Int32 × Int32 × (Nat → Int32) × (Nat → Int32) × Int64 × Int64) t => PW D A (wdG cI cL cZ ad u.1 u.2.1 u.2.2.1 gr_kinds gr_before u.2.2.2.1 u.2.2.2.2.1 gr_floorCells gr_clearCells gr_standCells u.2.2.2.2.2.1 u.2.2.2.2.2.2) t.heap) A) 0 0 A := by
  refine Met.ofW (cc := cX1_changeSides) (maxL := 5) (ret := none) (by decide) rfl ?_
  intro p e s m args below meth c s₁ B hml hv
  obtain ⟨hav, hP0, hD0, hK⟩ := hv
  have hx := B.exec
  have hb := B.bytes
  have hr := B.returns
  have hts := atoms_spec (ws := wsX1_changeSides) B.pre
  have hown : s.vm.findClass RX1 = some m.cls := findClass_of_methodNamed B.named
  have hlocks := B.notSynchronized
  have hB : ∀ w ∈ BIG, w ∈ wsX1_changeSides := fun _ h => List.mem_cons_of_mem _ h
  have hin : ∀ w ∈ wsX10, w ∈ wsX1_changeSides := fun w h => hB w (inB_X1 w h)
  have lk18 := hts _ (hB _ m_108)
  have lk21 := hts _ (hB _ m_109)
  have lk40 := hts _ (hB _ m_103)
  have lk44 := hts _ (hB _ m_104)
  have lk47 := hts _ (hB _ m_105)
  have lk50 := hts _ (hB _ m_113)
  have lk54 := hts _ (hB _ m_114)
  obtain ⟨Z, hZ⟩ : ∃ Z : State → Prop, Z = MQ below (va_Qv (fun (u : Int32 × Int32 × Int32 × (Nat → Int32) × (Nat → Int32) × Int64 × Int64) => Q u.1 u.2.1 u.2.2.1 u.2.2.2.1 u.2.2.2.2.1 u.2.2.2.2.2.1 u.2.2.2.2.2.2) (fun (u : Int32 × Int32 × Int32 × (Nat → Int32) × (Nat → Int32) × Int64 × Int64) t => PW D A (wdG cI cL cZ ad u.1 u.2.1 u.2.2.1 gr_kinds gr_before u.2.2.2.1 u.2.2.2.2.1 gr_floorCells gr_clearCells gr_standCells u.2.2.2.2.2.1 u.2.2.2.2.2.2) t.heap) A) args s 0 0 A := ⟨_, rfl⟩
  rw [← hZ]
  have hw : SW D A s.heap (wdG cI cL cZ ad gr_width gr_height gr_size gr_kinds gr_before gr_columns gr_rows gr_floorCells gr_clearCells gr_standCells gr_firstColumn gr_lastColumn) s.heap [] := ⟨hP0, hD0, va_S.rf⟩
  clear hP0 hD0 B
  have J74 : ∀ (_ : True) (k29 : Int32 → Int32 → Int32 → (Nat → Int32) → (Nat → Int32) → Int64 → Int64 → Int32 → Int32 → Int32 → Prop) (hk29 : ∀ (gr_width : Int32) (gr_height : Int32) (gr_size : Int32) (gr_columns : (Nat → Int32)) (gr_rows : (Nat → Int32)) (gr_firstColumn : Int64) (gr_lastColumn : Int64) (x1 : Int32) (x2 : Int32) (x3 : Int32) , k29 gr_width gr_height gr_size gr_columns gr_rows gr_firstColumn gr_lastColumn x1 x2 x3 → ∀ (H : Heap) (locs : List Loc) (ls : Array Slot), SW D A s.heap (wdG cI cL cZ ad gr_width gr_height gr_size gr_kinds gr_before gr_columns gr_rows gr_floorCells gr_clearCells gr_standCells gr_firstColumn gr_lastColumn) H locs → lv_has ls 5 [(0, .ref (ad 0)), (1, .int x1), (2, .int x2), (3, .int x3)] → W p l e (headSpec wsX1_changeSides rm_gr_changeSides).room s m args below meth c H locs 0 0 Z (F0 m 29 ls [])) (gr_width : Int32) (gr_height : Int32) (gr_size : Int32) (gr_columns : (Nat → Int32)) (gr_rows : (Nat → Int32)) (gr_firstColumn : Int64) (gr_lastColumn : Int64) (x1 : Int32) (x2 : Int32) (x3 : Int32) , B_gr_changeSides_74 Q k29 gr_width gr_height gr_size gr_columns gr_rows gr_firstColumn gr_lastColumn x1 x2 x3 → ∀ (H : Heap) (locs : List Loc) (ls : Array Slot), SW D A s.heap (wdG cI cL cZ ad gr_width gr_height gr_size gr_kinds gr_before gr_columns gr_rows gr_floorCells gr_clearCells gr_standCells gr_firstColumn gr_lastColumn) H locs → lv_has ls 5 [(0, .ref (ad 0)), (1, .int x1), (2, .int x2), (3, .int x3)] → W p l e (headSpec wsX1_changeSides rm_gr_changeSides).room s m args below meth c H locs 0 0 Z (F0 m 74 ls []) := by
    intro _ k29 hk29 gr_width gr_height gr_size gr_columns gr_rows gr_firstColumn gr_lastColumn x1 x2 x3 h H locs ls hw hl
    unfold B_gr_changeSides_74 at h
    refine lv_aload_n hx hb dX1_changeSides_74 rfl (lv_at hl 0 rfl) ?_
    refine lv_dup hx hb dX1_changeSides_75 rfl ?_
    refine gG_gr_firstColumn hx hb hts hin hown hK hw lk50 dX1_changeSides_76 ?_
    refine lv_lconst (v := 1) hx hb dX1_changeSides_79 (by decide) ?_
    refine lv_iload_n hx hb dX1_changeSides_80 rfl (lv_at hl 3 rfl) ?_
    refine lv_iload_n hx hb dX1_changeSides_81 rfl (lv_at hl 1 rfl) ?_
    refine lv_imul hx hb dX1_changeSides_82 ?_
    refine lv_lshl hx hb dX1_changeSides_83 rfl ?_
    refine lv_lor hx hb dX1_changeSides_84 ?_
    refine lv_topl (fun gr_firstColumn_85 egr_firstColumn_85 => ?_)
    replace h := h gr_firstColumn_85 egr_firstColumn_85
    refine sG_gr_firstColumn hx hb hts hin hown hK hw lk50 dX1_changeSides_85 (fun H locs hw => ?_)
    refine lv_aload_n hx hb dX1_changeSides_88 rfl (lv_at hl 0 rfl) ?_
    refine lv_dup hx hb dX1_changeSides_89 rfl ?_
    refine gG_gr_lastColumn hx hb hts hin hown hK hw lk54 dX1_changeSides_90 ?_
    refine lv_lconst (v := 1) hx hb dX1_changeSides_93 (by decide) ?_
    refine lv_iload_n hx hb dX1_changeSides_94 rfl (lv_at hl 3 rfl) ?_
    refine lv_iload_n hx hb dX1_changeSides_95 rfl (lv_at hl 1 rfl) ?_
    refine lv_imul hx hb dX1_changeSides_96 ?_
    refine lv_iload_n hx hb dX1_changeSides_97 rfl (lv_at hl 1 rfl) ?_
    refine lv_iadd hx hb dX1_changeSides_98 ?_
    refine lv_iconst (v := 1) hx hb dX1_changeSides_99 (by decide) ?_
    refine lv_isub hx hb dX1_changeSides_100 ?_
    refine lv_lshl hx hb dX1_changeSides_101 rfl ?_
    refine lv_lor hx hb dX1_changeSides_102 ?_
    refine lv_topl (fun gr_lastColumn_103 egr_lastColumn_103 => ?_)
    replace h := h gr_lastColumn_103 egr_lastColumn_103
    refine sG_gr_lastColumn hx hb hts hin hown hK hw lk54 dX1_changeSides_103 (fun H locs hw => ?_)
    refine lv_iinc (v := (x3 + (1 : Int32))) (lv' := [(3, .int (x3 + (1 : Int32))), (0, .ref (ad 0)), (1, .int x1), (2, .int x2)]) hx hb dX1_changeSides_106 hl (k := 3) rfl rfl (by decide) rfl (fun ls hl => ?_)
    refine lv_goto (tgt := 29) hx hb dX1_changeSides_109 (by decide) ?_
    exact hk29 _ _ _ _ _ _ _ _ _ _ h _ _ _ hw (lv_sub hl [1, 2, 3, 0] rfl)
  have J37 : ∀ (k29 : Int32 → Int32 → Int32 → (Nat → Int32) → (Nat → Int32) → Int64 → Int64 → Int32 → Int32 → Int32 → Prop) (hk29 : ∀ (gr_width : Int32) (gr_height : Int32) (gr_size : Int32) (gr_columns : (Nat → Int32)) (gr_rows : (Nat → Int32)) (gr_firstColumn : Int64) (gr_lastColumn : Int64) (x1 : Int32) (x2 : Int32) (x3 : Int32) , k29 gr_width gr_height gr_size gr_columns gr_rows gr_firstColumn gr_lastColumn x1 x2 x3 → ∀ (H : Heap) (locs : List Loc) (ls : Array Slot), SW D A s.heap (wdG cI cL cZ ad gr_width gr_height gr_size gr_kinds gr_before gr_columns gr_rows gr_floorCells gr_clearCells gr_standCells gr_firstColumn gr_lastColumn) H locs → lv_has ls 5 [(0, .ref (ad 0)), (1, .int x1), (2, .int x2), (3, .int x3)] → W p l e (headSpec wsX1_changeSides rm_gr_changeSides).room s m args below meth c H locs 0 0 Z (F0 m 29 ls [])) (n : Nat) (gr_width : Int32) (gr_height : Int32) (gr_size : Int32) (gr_columns : (Nat → Int32)) (gr_rows : (Nat → Int32)) (gr_firstColumn : Int64) (gr_lastColumn : Int64) (x1 : Int32) (x2 : Int32) (x3 : Int32) (x4 : Int32) , L_gr_changeSides_37 Q k29 n gr_width gr_height gr_size gr_columns gr_rows gr_firstColumn gr_lastColumn x1 x2 x3 x4 → ∀ (H : Heap) (locs : List Loc) (ls : Array Slot), SW D A s.heap (wdG cI cL cZ ad gr_width gr_height gr_size gr_kinds gr_before gr_columns gr_rows gr_floorCells gr_clearCells gr_standCells gr_firstColumn gr_lastColumn) H locs → lv_has ls 5 [(0, .ref (ad 0)), (1, .int x1), (2, .int x2), (3, .int x3), (4, .int x4)] → W p l e (headSpec wsX1_changeSides rm_gr_changeSides).room s m args below meth c H locs 0 0 Z (F0 m 37 ls []) := by
    intro k29 hk29 n
    induction n with
    | zero => intro gr_width gr_height gr_size gr_columns gr_rows gr_firstColumn gr_lastColumn x1 x2 x3 x4 h; exact h.elim
    | succ n ih =>
    intro gr_width gr_height gr_size gr_columns gr_rows gr_firstColumn gr_lastColumn x1 x2 x3 x4 h H locs ls hw hl
    unfold L_gr_changeSides_37 at h
    refine lv_iload hx hb dX1_changeSides_37 (lv_at hl 4 rfl) ?_
    refine lv_iload_n hx hb dX1_changeSides_39 rfl (lv_at hl 1 rfl) ?_
    refine lv_icmp_ge (tgt := 74) hx hb dX1_changeSides_40 (by decide) (fun hc => ?_) (fun hc => ?_)
    · replace h := h.1 hc
      exact J74 trivial k29 hk29 _ _ _ _ _ _ _ _ _ _ h _ _ _ hw (lv_sub hl [0, 1, 2, 3] rfl)
    · replace h := h.2 hc
      refine lv_aload_n hx hb dX1_changeSides_43 rfl (lv_at hl 0 rfl) ?_
      refine gG_gr_columns hx hb hts hin hown hK hw lk18 dX1_changeSides_44 ?_
      refine lv_iload_n hx hb dX1_changeSides_47 rfl (lv_at hl 3 rfl) ?_
      refine lv_iload_n hx hb dX1_changeSides_48 rfl (lv_at hl 1 rfl) ?_
      refine lv_imul hx hb dX1_changeSides_49 ?_
      refine lv_iload hx hb dX1_changeSides_50 (lv_at hl 4 rfl) ?_
      refine lv_iadd hx hb dX1_changeSides_52 ?_
      refine lv_iload hx hb dX1_changeSides_53 (lv_at hl 4 rfl) ?_
      refine tG_gr_columns hx hb hK hw h.1 dX1_changeSides_55 (fun H locs hw => ?_)
      replace h := h.2
      refine lv_aload_n hx hb dX1_changeSides_56 rfl (lv_at hl 0 rfl) ?_
      refine gG_gr_rows hx hb hts hin hown hK hw lk21 dX1_changeSides_57 ?_
      refine lv_iload_n hx hb dX1_changeSides_60 rfl (lv_at hl 3 rfl) ?_
      refine lv_iload_n hx hb dX1_changeSides_61 rfl (lv_at hl 1 rfl) ?_
      refine lv_imul hx hb dX1_changeSides_62 ?_
      refine lv_iload hx hb dX1_changeSides_63 (lv_at hl 4 rfl) ?_
      refine lv_iadd hx hb dX1_changeSides_65 ?_
      refine lv_iload_n hx hb dX1_changeSides_66 rfl (lv_at hl 3 rfl) ?_
      refine tG_gr_rows hx hb hK hw h.1 dX1_changeSides_67 (fun H locs hw => ?_)
      replace h := h.2
      refine lv_iinc (v := (x4 + (1 : Int32))) (lv' := [(4, .int (x4 + (1 : Int32))), (0, .ref (ad 0)), (1, .int x1), (2, .int x2), (3, .int x3)]) hx hb dX1_changeSides_68 hl (k := 4) rfl rfl (by decide) rfl (fun ls hl => ?_)
      refine lv_goto (tgt := 37) hx hb dX1_changeSides_71 (by decide) ?_
      exact ih _ _ _ _ _ _ _ _ _ _ _ h _ _ _ hw (lv_sub hl [1, 2, 3, 4, 0] rfl)
  have J29 : ∀ (n : Nat) (gr_width : Int32) (gr_height : Int32) (gr_size : Int32) (gr_columns : (Nat → Int32)) (gr_rows : (Nat → Int32)) (gr_firstColumn : Int64) (gr_lastColumn : Int64) (x1 : Int32) (x2 : Int32) (x3 : Int32) , L_gr_changeSides_29 Q n gr_width gr_height gr_size gr_columns gr_rows gr_firstColumn gr_lastColumn x1 x2 x3 → ∀ (H : Heap) (locs : List Loc) (ls : Array Slot), SW D A s.heap (wdG cI cL cZ ad gr_width gr_height gr_size gr_kinds gr_before gr_columns gr_rows gr_floorCells gr_clearCells gr_standCells gr_firstColumn gr_lastColumn) H locs → lv_has ls 5 [(0, .ref (ad 0)), (1, .int x1), (2, .int x2), (3, .int x3)] → W p l e (headSpec wsX1_changeSides rm_gr_changeSides).room s m args below meth c H locs 0 0 Z (F0 m 29 ls []) := by
    intro  n
    induction n with
    | zero => intro gr_width gr_height gr_size gr_columns gr_rows gr_firstColumn gr_lastColumn x1 x2 x3 h; exact h.elim
    | succ n ih =>
    intro gr_width gr_height gr_size gr_columns gr_rows gr_firstColumn gr_lastColumn x1 x2 x3 h H locs ls hw hl
    unfold L_gr_changeSides_29 at h
    refine lv_iload_n hx hb dX1_changeSides_29 rfl (lv_at hl 3 rfl) ?_
    refine lv_iload_n hx hb dX1_changeSides_30 rfl (lv_at hl 2 rfl) ?_
    refine lv_icmp_ge (tgt := 112) hx hb dX1_changeSides_31 (by decide) (fun hc => ?_) (fun hc => ?_)
    · replace h := h.1 hc
      rw [hZ]
      exact rt_v (gr_width, gr_height, gr_size, gr_columns, gr_rows, gr_firstColumn, gr_lastColumn) hx hb hr hlocks hw h dX1_changeSides_112
    · replace h := h.2 hc
      refine lv_iconst (v := 0) hx hb dX1_changeSides_34 (by decide) ?_
      refine lv_istore (lv' := [(4, .int (0 : Int32)), (0, .ref (ad 0)), (1, .int x1), (2, .int x2), (3, .int x3)]) hx hb dX1_changeSides_35 hl (by decide) rfl (fun ls hl => ?_)
      obtain ⟨n37, h⟩ := h
      exact J37 (L_gr_changeSides_29 Q n) ih n37 _ _ _ _ _ _ _ _ _ _ _ h _ _ _ hw (lv_sub hl [1, 2, 3, 4, 0] rfl)
  unfold P_gr_changeSides at h
  have he : entryFrame m args 5 = entryFrame m ([.ref (ad 0), .int x1, .int x2] : List Value).toArray 5 := by rw [hav]
  refine W.eq he ?_
  have hl := lv_entry ([.ref (ad 0), .int x1, .int x2]) (n := 5) (Nat.le_of_ble_eq_true rfl)
  rw [lg_entry_eq]
  generalize (lg_sl ([.ref (ad 0), .int x1, .int x2]) ++ List.replicate (5 - (lg_sl ([.ref (ad 0), .int x1, .int x2])).length) Slot.unset).toArray = ls at hl ⊢
  have hl : lv_has ls 5 [(0, .ref (ad 0)), (1, .int x1), (2, .int x2)] := hl
  refine lv_aload_n hx hb dX1_changeSides_0 rfl (lv_at hl 0 rfl) ?_
  refine lv_iload_n hx hb dX1_changeSides_1 rfl (lv_at hl 1 rfl) ?_
  refine sG_gr_width hx hb hts hin hown hK hw lk40 dX1_changeSides_2 (fun H locs hw => ?_)
  refine lv_aload_n hx hb dX1_changeSides_5 rfl (lv_at hl 0 rfl) ?_
  refine lv_iload_n hx hb dX1_changeSides_6 rfl (lv_at hl 2 rfl) ?_
  refine sG_gr_height hx hb hts hin hown hK hw lk44 dX1_changeSides_7 (fun H locs hw => ?_)
  refine lv_aload_n hx hb dX1_changeSides_10 rfl (lv_at hl 0 rfl) ?_
  refine lv_iload_n hx hb dX1_changeSides_11 rfl (lv_at hl 1 rfl) ?_
  refine lv_iload_n hx hb dX1_changeSides_12 rfl (lv_at hl 2 rfl) ?_
  refine lv_imul hx hb dX1_changeSides_13 ?_
  refine lv_topi (fun gr_size_14 egr_size_14 => ?_)
  replace h := h gr_size_14 egr_size_14
  refine sG_gr_size hx hb hts hin hown hK hw lk47 dX1_changeSides_14 (fun H locs hw => ?_)
  refine lv_aload_n hx hb dX1_changeSides_17 rfl (lv_at hl 0 rfl) ?_
  refine lv_lconst (v := 0) hx hb dX1_changeSides_18 (by decide) ?_
  refine sG_gr_firstColumn hx hb hts hin hown hK hw lk50 dX1_changeSides_19 (fun H locs hw => ?_)
  refine lv_aload_n hx hb dX1_changeSides_22 rfl (lv_at hl 0 rfl) ?_
  refine lv_lconst (v := 0) hx hb dX1_changeSides_23 (by decide) ?_
  refine sG_gr_lastColumn hx hb hts hin hown hK hw lk54 dX1_changeSides_24 (fun H locs hw => ?_)
  refine lv_iconst (v := 0) hx hb dX1_changeSides_27 (by decide) ?_
  refine lv_istore_n (lv' := [(3, .int (0 : Int32)), (0, .ref (ad 0)), (1, .int x1), (2, .int x2)]) hx hb dX1_changeSides_28 rfl hl (by decide) rfl (fun ls hl => ?_)
  obtain ⟨n29, h⟩ := h
  exact J29  n29 _ _ _ _ _ _ _ _ _ _ h _ _ _ hw (lv_sub hl [1, 2, 3, 0] rfl)
def rm_gr_sortKinds : Room := { frames := 0, cells := 0, slots := 0, locals := 0 }
set_option maxHeartbeats 4000000 in
set_option maxRecDepth 100000 in
theorem c_gr_sortKinds {l : Launch} {D : va_G} {cI cL cZ : ClassId} {mx my : Nat} {A : Nat → Prop} {ad : Nat → Nat} {ga_sightings th_unseen th_goals tr_visited : Nat → Int64} {ga_bestShifts gr_kinds gr_before gr_columns gr_rows pi_cells pi_facings pi_sets po_needs ro_cells ro_lengths ro_shifts tr_marks wh_places : Nat → Int32} {ga_commonLength gr_width gr_height gr_size pi_size si_sightLaw si_sightRange th_commonLength tr_size : Int32} {ga_allTimes gr_floorCells gr_clearCells gr_standCells gr_firstColumn gr_lastColumn : Int64}  {Q : Int64 → Int64 → Int64 → Prop} (h : P_gr_sortKinds gr_size gr_kinds gr_floorCells gr_clearCells gr_standCells Q) : Met l yX1_sortKinds wsX1_sortKinds rm_gr_sortKinds (va_Pc [.ref (ad 1)] (WC D cI cL cZ mx my A (wdC cI cL cZ ad ga_sightings ga_bestShifts ga_commonLength ga_allTimes gr_width gr_height gr_size gr_kinds gr_before gr_columns gr_rows gr_floorCells gr_clearCells gr_standCells gr_firstColumn gr_lastColumn pi_cells pi_facings pi_sets pi_size po_needs ro_cells ro_lengths ro_shifts si_sightLaw si_sightRange th_unseen th_goals th_commonLength tr_marks tr_visited tr_size wh_places))) (va_Qv (fun (u : Int64 × Int64 × Int64) => Q u.1 u.2.1 u.2.2) (fun (u : Int64 × Int64 × Int64) t => PW D A (wdC cI cL cZ ad ga_sightings ga_bestShifts ga_commonLength ga_allTimes gr_width gr_height gr_size gr_kinds gr_before gr_columns gr_rows u.1 u.2.1 u.2.2 gr_firstColumn gr_lastColumn pi_cells pi_facings pi_sets pi_size po_needs ro_cells ro_lengths ro_shifts si_sightLaw si_sightRange th_unseen th_goals th_commonLength tr_marks tr_visited tr_size wh_places) t.heap) A) 0 0 A := by
  refine Met.ofW (cc := cX1_sortKinds) (maxL := 5) (ret := none) (by decide) rfl ?_
  intro p e s m args below meth c s₁ B hml hv
  obtain ⟨hav, hP0, hD0, hK⟩ := hv
  have hx := B.exec
  have hb := B.bytes
  have hr := B.returns
  have hts := atoms_spec (ws := wsX1_sortKinds) B.pre
  have hown : s.vm.findClass RX1 = some m.cls := findClass_of_methodNamed B.named
  have hlocks := B.notSynchronized
  have hB : ∀ w ∈ BIG, w ∈ wsX1_sortKinds := fun _ h => List.mem_cons_of_mem _ h
  have hin : ∀ w ∈ wsX10, w ∈ wsX1_sortKinds := fun w h => hB w (inB_X1 w h)
  have lk9 := hts _ (hB _ m_106)
  have lk47 := hts _ (hB _ m_105)
  have lk57 := hts _ (hB _ m_110)
  have lk60 := hts _ (hB _ m_111)
  have lk63 := hts _ (hB _ m_112)
  obtain ⟨Z, hZ⟩ : ∃ Z : State → Prop, Z = MQ below (va_Qv (fun (u : Int64 × Int64 × Int64) => Q u.1 u.2.1 u.2.2) (fun (u : Int64 × Int64 × Int64) t => PW D A (wdC cI cL cZ ad ga_sightings ga_bestShifts ga_commonLength ga_allTimes gr_width gr_height gr_size gr_kinds gr_before gr_columns gr_rows u.1 u.2.1 u.2.2 gr_firstColumn gr_lastColumn pi_cells pi_facings pi_sets pi_size po_needs ro_cells ro_lengths ro_shifts si_sightLaw si_sightRange th_unseen th_goals th_commonLength tr_marks tr_visited tr_size wh_places) t.heap) A) args s 0 0 A := ⟨_, rfl⟩
  rw [← hZ]
  have hw : SW D A s.heap (wdC cI cL cZ ad ga_sightings ga_bestShifts ga_commonLength ga_allTimes gr_width gr_height gr_size gr_kinds gr_before gr_columns gr_rows gr_floorCells gr_clearCells gr_standCells gr_firstColumn gr_lastColumn pi_cells pi_facings pi_sets pi_size po_needs ro_cells ro_lengths ro_shifts si_sightLaw si_sightRange th_unseen th_goals th_commonLength tr_marks tr_visited tr_size wh_places) s.heap [] := ⟨hP0, hD0, va_S.rf⟩
  clear hP0 hD0 B
  have J77 : ∀ (_ : True) (k17 : Int64 → Int64 → Int64 → Int32 → Prop) (hk17 : ∀ (gr_floorCells : Int64) (gr_clearCells : Int64) (gr_standCells : Int64) (x1 : Int32) , k17 gr_floorCells gr_clearCells gr_standCells x1 → ∀ (H : Heap) (locs : List Loc) (ls : Array Slot), SW D A s.heap (wdC cI cL cZ ad ga_sightings ga_bestShifts ga_commonLength ga_allTimes gr_width gr_height gr_size gr_kinds gr_before gr_columns gr_rows gr_floorCells gr_clearCells gr_standCells gr_firstColumn gr_lastColumn pi_cells pi_facings pi_sets pi_size po_needs ro_cells ro_lengths ro_shifts si_sightLaw si_sightRange th_unseen th_goals th_commonLength tr_marks tr_visited tr_size wh_places) H locs → lv_has ls 5 [(0, .ref (ad 1)), (1, .int x1)] → W p l e (headSpec wsX1_sortKinds rm_gr_sortKinds).room s m args below meth c H locs 0 0 Z (F0 m 17 ls [])) (gr_floorCells : Int64) (gr_clearCells : Int64) (gr_standCells : Int64) (x1 : Int32) (x2 : Int64) (x4 : Int32) (y1 : Int64) (y2 : Int64) , B_gr_sortKinds_77 gr_size gr_kinds Q k17 gr_floorCells gr_clearCells gr_standCells x1 x2 x4 y1 y2 → ∀ (H : Heap) (locs : List Loc) (ls : Array Slot), SW D A s.heap (wdC cI cL cZ ad ga_sightings ga_bestShifts ga_commonLength ga_allTimes gr_width gr_height gr_size gr_kinds gr_before gr_columns gr_rows gr_floorCells gr_clearCells gr_standCells gr_firstColumn gr_lastColumn pi_cells pi_facings pi_sets pi_size po_needs ro_cells ro_lengths ro_shifts si_sightLaw si_sightRange th_unseen th_goals th_commonLength tr_marks tr_visited tr_size wh_places) H locs → lv_has ls 5 [(0, .ref (ad 1)), (1, .int x1), (2, .long x2), (4, .int x4)] → W p l e (headSpec wsX1_sortKinds rm_gr_sortKinds).room s m args below meth c H locs 0 0 Z (F0 m 77 ls [.long y2, .long y1, .ref (ad 1)]) := by
    intro _ k17 hk17 gr_floorCells gr_clearCells gr_standCells x1 x2 x4 y1 y2 h H locs ls hw hl
    unfold B_gr_sortKinds_77 at h
    refine lv_lor hx hb dX1_sortKinds_77 ?_
    refine lv_topl (fun gr_clearCells_78 egr_clearCells_78 => ?_)
    replace h := h gr_clearCells_78 egr_clearCells_78
    refine sC_gr_clearCells hx hb hts hin hown hK hw lk60 dX1_sortKinds_78 (fun H locs hw => ?_)
    refine lv_aload_n hx hb dX1_sortKinds_81 rfl (lv_at hl 0 rfl) ?_
    refine lv_dup hx hb dX1_sortKinds_82 rfl ?_
    refine gC_gr_standCells hx hb hts hin hown hK hw lk63 dX1_sortKinds_83 ?_
    refine lv_iload hx hb dX1_sortKinds_86 (lv_at hl 3 rfl) ?_
    refine lv_if_eq (tgt := 97) hx hb dX1_sortKinds_88 (by decide) (fun hc => ?_) (fun hc => ?_)
    · replace h := h.1 hc
      refine lv_lload_n hx hb dX1_sortKinds_97 rfl (lv_at hl 2 rfl) ?_
      refine lv_goto (tgt := 102) hx hb dX1_sortKinds_98 (by decide) ?_
      refine lv_lor hx hb dX1_sortKinds_102 ?_
      refine lv_topl (fun gr_standCells_103 egr_standCells_103 => ?_)
      replace h := h gr_standCells_103 egr_standCells_103
      refine sC_gr_standCells hx hb hts hin hown hK hw lk63 dX1_sortKinds_103 (fun H locs hw => ?_)
      refine lv_iinc (v := (x1 + (1 : Int32))) (lv' := [(1, .int (x1 + (1 : Int32))), (0, .ref (ad 1)), (2, .long x2), (4, .int x4)]) hx hb dX1_sortKinds_106 hl (k := 1) rfl rfl (by decide) rfl (fun ls hl => ?_)
      refine lv_goto (tgt := 17) hx hb dX1_sortKinds_109 (by decide) ?_
      exact hk17 _ _ _ _ h _ _ _ hw (lv_sub hl [1, 0] rfl)
    · replace h := h.2 hc
      refine lv_iload hx hb dX1_sortKinds_91 (lv_at hl 3 rfl) ?_
      refine lv_iconst (v := 3) hx hb dX1_sortKinds_93 (by decide) ?_
      refine lv_icmp_ne (tgt := 101) hx hb dX1_sortKinds_94 (by decide) (fun hc => ?_) (fun hc => ?_)
      · replace h := h.2 hc
        refine lv_lconst (v := 0) hx hb dX1_sortKinds_101 (by decide) ?_
        refine lv_lor hx hb dX1_sortKinds_102 ?_
        refine lv_topl (fun gr_standCells_103 egr_standCells_103 => ?_)
        replace h := h gr_standCells_103 egr_standCells_103
        refine sC_gr_standCells hx hb hts hin hown hK hw lk63 dX1_sortKinds_103 (fun H locs hw => ?_)
        refine lv_iinc (v := (x1 + (1 : Int32))) (lv' := [(1, .int (x1 + (1 : Int32))), (0, .ref (ad 1)), (2, .long x2), (4, .int x4)]) hx hb dX1_sortKinds_106 hl (k := 1) rfl rfl (by decide) rfl (fun ls hl => ?_)
        refine lv_goto (tgt := 17) hx hb dX1_sortKinds_109 (by decide) ?_
        exact hk17 _ _ _ _ h _ _ _ hw (lv_sub hl [1, 0] rfl)
      · replace h := h.1 hc
        refine lv_lload_n hx hb dX1_sortKinds_97 rfl (lv_at hl 2 rfl) ?_
        refine lv_goto (tgt := 102) hx hb dX1_sortKinds_98 (by decide) ?_
        refine lv_lor hx hb dX1_sortKinds_102 ?_
        refine lv_topl (fun gr_standCells_103 egr_standCells_103 => ?_)
        replace h := h gr_standCells_103 egr_standCells_103
        refine sC_gr_standCells hx hb hts hin hown hK hw lk63 dX1_sortKinds_103 (fun H locs hw => ?_)
        refine lv_iinc (v := (x1 + (1 : Int32))) (lv' := [(1, .int (x1 + (1 : Int32))), (0, .ref (ad 1)), (2, .long x2), (4, .int x4)]) hx hb dX1_sortKinds_106 hl (k := 1) rfl rfl (by decide) rfl (fun ls hl => ?_)
        refine lv_goto (tgt := 17) hx hb dX1_sortKinds_109 (by decide) ?_
        exact hk17 _ _ _ _ h _ _ _ hw (lv_sub hl [1, 0] rfl)
  have J52 : ∀ (_ : True) (k17 : Int64 → Int64 → Int64 → Int32 → Prop) (hk17 : ∀ (gr_floorCells : Int64) (gr_clearCells : Int64) (gr_standCells : Int64) (x1 : Int32) , k17 gr_floorCells gr_clearCells gr_standCells x1 → ∀ (H : Heap) (locs : List Loc) (ls : Array Slot), SW D A s.heap (wdC cI cL cZ ad ga_sightings ga_bestShifts ga_commonLength ga_allTimes gr_width gr_height gr_size gr_kinds gr_before gr_columns gr_rows gr_floorCells gr_clearCells gr_standCells gr_firstColumn gr_lastColumn pi_cells pi_facings pi_sets pi_size po_needs ro_cells ro_lengths ro_shifts si_sightLaw si_sightRange th_unseen th_goals th_commonLength tr_marks tr_visited tr_size wh_places) H locs → lv_has ls 5 [(0, .ref (ad 1)), (1, .int x1)] → W p l e (headSpec wsX1_sortKinds rm_gr_sortKinds).room s m args below meth c H locs 0 0 Z (F0 m 17 ls [])) (gr_floorCells : Int64) (gr_clearCells : Int64) (gr_standCells : Int64) (x1 : Int32) (x2 : Int64) (x4 : Int32) (y1 : Int64) (y2 : Int64) , B_gr_sortKinds_52 gr_size gr_kinds Q k17 gr_floorCells gr_clearCells gr_standCells x1 x2 x4 y1 y2 → ∀ (H : Heap) (locs : List Loc) (ls : Array Slot), SW D A s.heap (wdC cI cL cZ ad ga_sightings ga_bestShifts ga_commonLength ga_allTimes gr_width gr_height gr_size gr_kinds gr_before gr_columns gr_rows gr_floorCells gr_clearCells gr_standCells gr_firstColumn gr_lastColumn pi_cells pi_facings pi_sets pi_size po_needs ro_cells ro_lengths ro_shifts si_sightLaw si_sightRange th_unseen th_goals th_commonLength tr_marks tr_visited tr_size wh_places) H locs → lv_has ls 5 [(0, .ref (ad 1)), (1, .int x1), (2, .long x2), (4, .int x4)] → W p l e (headSpec wsX1_sortKinds rm_gr_sortKinds).room s m args below meth c H locs 0 0 Z (F0 m 52 ls [.long y2, .long y1, .ref (ad 1)]) := by
    intro _ k17 hk17 gr_floorCells gr_clearCells gr_standCells x1 x2 x4 y1 y2 h H locs ls hw hl
    unfold B_gr_sortKinds_52 at h
    refine lv_lor hx hb dX1_sortKinds_52 ?_
    refine lv_topl (fun gr_floorCells_53 egr_floorCells_53 => ?_)
    replace h := h gr_floorCells_53 egr_floorCells_53
    refine sC_gr_floorCells hx hb hts hin hown hK hw lk57 dX1_sortKinds_53 (fun H locs hw => ?_)
    refine lv_aload_n hx hb dX1_sortKinds_56 rfl (lv_at hl 0 rfl) ?_
    refine lv_dup hx hb dX1_sortKinds_57 rfl ?_
    refine gC_gr_clearCells hx hb hts hin hown hK hw lk60 dX1_sortKinds_58 ?_
    refine lv_iload hx hb dX1_sortKinds_61 (lv_at hl 3 rfl) ?_
    refine lv_if_eq (tgt := 72) hx hb dX1_sortKinds_63 (by decide) (fun hc => ?_) (fun hc => ?_)
    · replace h := h.1 hc
      refine lv_lload_n hx hb dX1_sortKinds_72 rfl (lv_at hl 2 rfl) ?_
      refine lv_goto (tgt := 77) hx hb dX1_sortKinds_73 (by decide) ?_
      exact J77 trivial k17 hk17 _ _ _ _ _ _ _ _ h _ _ _ hw (lv_sub hl [0, 1, 2, 3] rfl)
    · replace h := h.2 hc
      refine lv_iload hx hb dX1_sortKinds_66 (lv_at hl 3 rfl) ?_
      refine lv_iconst (v := 2) hx hb dX1_sortKinds_68 (by decide) ?_
      refine lv_icmp_ne (tgt := 76) hx hb dX1_sortKinds_69 (by decide) (fun hc => ?_) (fun hc => ?_)
      · replace h := h.2 hc
        refine lv_lconst (v := 0) hx hb dX1_sortKinds_76 (by decide) ?_
        exact J77 trivial k17 hk17 _ _ _ _ _ _ _ _ h _ _ _ hw (lv_sub hl [0, 1, 2, 3] rfl)
      · replace h := h.1 hc
        refine lv_lload_n hx hb dX1_sortKinds_72 rfl (lv_at hl 2 rfl) ?_
        refine lv_goto (tgt := 77) hx hb dX1_sortKinds_73 (by decide) ?_
        exact J77 trivial k17 hk17 _ _ _ _ _ _ _ _ h _ _ _ hw (lv_sub hl [0, 1, 2, 3] rfl)
  have J17 : ∀ (n : Nat) (gr_floorCells : Int64) (gr_clearCells : Int64) (gr_standCells : Int64) (x1 : Int32) , L_gr_sortKinds_17 gr_size gr_kinds Q n gr_floorCells gr_clearCells gr_standCells x1 → ∀ (H : Heap) (locs : List Loc) (ls : Array Slot), SW D A s.heap (wdC cI cL cZ ad ga_sightings ga_bestShifts ga_commonLength ga_allTimes gr_width gr_height gr_size gr_kinds gr_before gr_columns gr_rows gr_floorCells gr_clearCells gr_standCells gr_firstColumn gr_lastColumn pi_cells pi_facings pi_sets pi_size po_needs ro_cells ro_lengths ro_shifts si_sightLaw si_sightRange th_unseen th_goals th_commonLength tr_marks tr_visited tr_size wh_places) H locs → lv_has ls 5 [(0, .ref (ad 1)), (1, .int x1)] → W p l e (headSpec wsX1_sortKinds rm_gr_sortKinds).room s m args below meth c H locs 0 0 Z (F0 m 17 ls []) := by
    intro  n
    induction n with
    | zero => intro gr_floorCells gr_clearCells gr_standCells x1 h; exact h.elim
    | succ n ih =>
    intro gr_floorCells gr_clearCells gr_standCells x1 h H locs ls hw hl
    unfold L_gr_sortKinds_17 at h
    refine lv_iload_n hx hb dX1_sortKinds_17 rfl (lv_at hl 1 rfl) ?_
    refine lv_aload_n hx hb dX1_sortKinds_18 rfl (lv_at hl 0 rfl) ?_
    refine gC_gr_size hx hb hts hin hown hK hw lk47 dX1_sortKinds_19 ?_
    refine lv_icmp_ge (tgt := 112) hx hb dX1_sortKinds_22 (by decide) (fun hc => ?_) (fun hc => ?_)
    · replace h := h.1 hc
      rw [hZ]
      exact rt_v (gr_floorCells, gr_clearCells, gr_standCells) hx hb hr hlocks hw h dX1_sortKinds_112
    · replace h := h.2 hc
      refine lv_lconst (v := 1) hx hb dX1_sortKinds_25 (by decide) ?_
      refine lv_iload_n hx hb dX1_sortKinds_26 rfl (lv_at hl 1 rfl) ?_
      refine lv_lshl hx hb dX1_sortKinds_27 rfl ?_
      refine lv_topl (fun x2_28 ex2_28 => ?_)
      replace h := h x2_28 ex2_28
      refine lv_lstore_n (lv' := [(2, .long x2_28), (0, .ref (ad 1)), (1, .int x1)]) hx hb dX1_sortKinds_28 rfl hl (by decide) rfl (fun ls hl => ?_)
      refine lv_aload_n hx hb dX1_sortKinds_29 rfl (lv_at hl 1 rfl) ?_
      refine gC_gr_kinds hx hb hts hin hown hK hw lk9 dX1_sortKinds_30 ?_
      refine lv_iload_n hx hb dX1_sortKinds_33 rfl (lv_at hl 2 rfl) ?_
      refine aC_gr_kinds hx hb hK hw h.1 dX1_sortKinds_34 ?_
      replace h := h.2
      refine lv_topi (fun x4_35 ex4_35 => ?_)
      replace h := h x4_35 ex4_35
      refine lv_istore (lv' := [(4, .int x4_35), (2, .long x2_28), (0, .ref (ad 1)), (1, .int x1)]) hx hb dX1_sortKinds_35 hl (by decide) rfl (fun ls hl => ?_)
      refine lv_aload_n hx hb dX1_sortKinds_37 rfl (lv_at hl 2 rfl) ?_
      refine lv_dup hx hb dX1_sortKinds_38 rfl ?_
      refine gC_gr_floorCells hx hb hts hin hown hK hw lk57 dX1_sortKinds_39 ?_
      refine lv_iload hx hb dX1_sortKinds_42 (lv_at hl 0 rfl) ?_
      refine lv_if_ne (tgt := 51) hx hb dX1_sortKinds_44 (by decide) (fun hc => ?_) (fun hc => ?_)
      · replace h := h.2 hc
        refine lv_lconst (v := 0) hx hb dX1_sortKinds_51 (by decide) ?_
        exact J52 trivial (L_gr_sortKinds_17 gr_size gr_kinds Q n) ih _ _ _ _ _ _ _ _ h _ _ _ hw (lv_sub hl [2, 3, 1, 0] rfl)
      · replace h := h.1 hc
        refine lv_lload_n hx hb dX1_sortKinds_47 rfl (lv_at hl 1 rfl) ?_
        refine lv_goto (tgt := 52) hx hb dX1_sortKinds_48 (by decide) ?_
        exact J52 trivial (L_gr_sortKinds_17 gr_size gr_kinds Q n) ih _ _ _ _ _ _ _ _ h _ _ _ hw (lv_sub hl [2, 3, 1, 0] rfl)
  unfold P_gr_sortKinds at h
  have he : entryFrame m args 5 = entryFrame m ([.ref (ad 1)] : List Value).toArray 5 := by rw [hav]
  refine W.eq he ?_
  have hl := lv_entry ([.ref (ad 1)]) (n := 5) (Nat.le_of_ble_eq_true rfl)
  rw [lg_entry_eq]
  generalize (lg_sl ([.ref (ad 1)]) ++ List.replicate (5 - (lg_sl ([.ref (ad 1)])).length) Slot.unset).toArray = ls at hl ⊢
  have hl : lv_has ls 5 [(0, .ref (ad 1))] := hl
  refine lv_aload_n hx hb dX1_sortKinds_0 rfl (lv_at hl 0 rfl) ?_
  refine lv_lconst (v := 0) hx hb dX1_sortKinds_1 (by decide) ?_
  refine sC_gr_floorCells hx hb hts hin hown hK hw lk57 dX1_sortKinds_2 (fun H locs hw => ?_)
  refine lv_aload_n hx hb dX1_sortKinds_5 rfl (lv_at hl 0 rfl) ?_
  refine lv_lconst (v := 0) hx hb dX1_sortKinds_6 (by decide) ?_
  refine sC_gr_clearCells hx hb hts hin hown hK hw lk60 dX1_sortKinds_7 (fun H locs hw => ?_)
  refine lv_aload_n hx hb dX1_sortKinds_10 rfl (lv_at hl 0 rfl) ?_
  refine lv_lconst (v := 0) hx hb dX1_sortKinds_11 (by decide) ?_
  refine sC_gr_standCells hx hb hts hin hown hK hw lk63 dX1_sortKinds_12 (fun H locs hw => ?_)
  refine lv_iconst (v := 0) hx hb dX1_sortKinds_15 (by decide) ?_
  refine lv_istore_n (lv' := [(1, .int (0 : Int32)), (0, .ref (ad 1))]) hx hb dX1_sortKinds_16 rfl hl (by decide) rfl (fun ls hl => ?_)
  obtain ⟨n17, h⟩ := h
  exact J17  n17 _ _ _ _ h _ _ _ hw (lv_sub hl [1, 0] rfl)
set_option maxHeartbeats 4000000 in
set_option maxRecDepth 100000 in
theorem c_gr_sortKindsG {l : Launch} {D : va_G} {cI cL cZ : ClassId} {mx my : Nat} {A : Nat → Prop} {ad : Nat → Nat} {gr_width gr_height gr_size : Int32} {gr_kinds gr_before gr_columns gr_rows : Nat → Int32} {gr_floorCells gr_clearCells gr_standCells gr_firstColumn gr_lastColumn : Int64}  {Q : Int64 → Int64 → Int64 → Prop} (h : P_gr_sortKinds gr_size gr_kinds gr_floorCells gr_clearCells gr_standCells Q) : Met l yX1_sortKinds wsX1_sortKinds rm_gr_sortKinds (va_Pc [.ref (ad 0)] (WC D cI cL cZ mx my A (wdG cI cL cZ ad gr_width gr_height gr_size gr_kinds gr_before gr_columns gr_rows gr_floorCells gr_clearCells gr_standCells gr_firstColumn gr_lastColumn))) (va_Qv (fun (u : Int64 × Int64 × Int64) => Q u.1 u.2.1 u.2.2) (fun (u : Int64 × Int64 × Int64) t => PW D A (wdG cI cL cZ ad gr_width gr_height gr_size gr_kinds gr_before gr_columns gr_rows u.1 u.2.1 u.2.2 gr_firstColumn gr_lastColumn) t.heap) A) 0 0 A := by
  refine Met.ofW (cc := cX1_sortKinds) (maxL := 5) (ret := none) (by decide) rfl ?_
  intro p e s m args below meth c s₁ B hml hv
  obtain ⟨hav, hP0, hD0, hK⟩ := hv
  have hx := B.exec
  have hb := B.bytes
  have hr := B.returns
  have hts := atoms_spec (ws := wsX1_sortKinds) B.pre
  have hown : s.vm.findClass RX1 = some m.cls := findClass_of_methodNamed B.named
  have hlocks := B.notSynchronized
  have hB : ∀ w ∈ BIG, w ∈ wsX1_sortKinds := fun _ h => List.mem_cons_of_mem _ h
  have hin : ∀ w ∈ wsX10, w ∈ wsX1_sortKinds := fun w h => hB w (inB_X1 w h)
  have lk9 := hts _ (hB _ m_106)
  have lk47 := hts _ (hB _ m_105)
  have lk57 := hts _ (hB _ m_110)
  have lk60 := hts _ (hB _ m_111)
  have lk63 := hts _ (hB _ m_112)
  obtain ⟨Z, hZ⟩ : ∃ Z : State → Prop, Z = MQ below (va_Qv (fun (u : Int64 × Int64 × Int64) => Q u.1 u.2.1 u.2.2) (fun (u : Int64 × Int64 × Int64) t => PW D A (wdG cI cL cZ ad gr_width gr_height gr_size gr_kinds gr_before gr_columns gr_rows u.1 u.2.1 u.2.2 gr_firstColumn gr_lastColumn) t.heap) A) args s 0 0 A := ⟨_, rfl⟩
  rw [← hZ]
  have hw : SW D A s.heap (wdG cI cL cZ ad gr_width gr_height gr_size gr_kinds gr_before gr_columns gr_rows gr_floorCells gr_clearCells gr_standCells gr_firstColumn gr_lastColumn) s.heap [] := ⟨hP0, hD0, va_S.rf⟩
  clear hP0 hD0 B
  have J77 : ∀ (_ : True) (k17 : Int64 → Int64 → Int64 → Int32 → Prop) (hk17 : ∀ (gr_floorCells : Int64) (gr_clearCells : Int64) (gr_standCells : Int64) (x1 : Int32) , k17 gr_floorCells gr_clearCells gr_standCells x1 → ∀ (H : Heap) (locs : List Loc) (ls : Array Slot), SW D A s.heap (wdG cI cL cZ ad gr_width gr_height gr_size gr_kinds gr_before gr_columns gr_rows gr_floorCells gr_clearCells gr_standCells gr_firstColumn gr_lastColumn) H locs → lv_has ls 5 [(0, .ref (ad 0)), (1, .int x1)] → W p l e (headSpec wsX1_sortKinds rm_gr_sortKinds).room s m args below meth c H locs 0 0 Z (F0 m 17 ls [])) (gr_floorCells : Int64) (gr_clearCells : Int64) (gr_standCells : Int64) (x1 : Int32) (x2 : Int64) (x4 : Int32) (y1 : Int64) (y2 : Int64) , B_gr_sortKinds_77 gr_size gr_kinds Q k17 gr_floorCells gr_clearCells gr_standCells x1 x2 x4 y1 y2 → ∀ (H : Heap) (locs : List Loc) (ls : Array Slot), SW D A s.heap (wdG cI cL cZ ad gr_width gr_height gr_size gr_kinds gr_before gr_columns gr_rows gr_floorCells gr_clearCells gr_standCells gr_firstColumn gr_lastColumn) H locs → lv_has ls 5 [(0, .ref (ad 0)), (1, .int x1), (2, .long x2), (4, .int x4)] → W p l e (headSpec wsX1_sortKinds rm_gr_sortKinds).room s m args below meth c H locs 0 0 Z (F0 m 77 ls [.long y2, .long y1, .ref (ad 0)]) := by
    intro _ k17 hk17 gr_floorCells gr_clearCells gr_standCells x1 x2 x4 y1 y2 h H locs ls hw hl
    unfold B_gr_sortKinds_77 at h
    refine lv_lor hx hb dX1_sortKinds_77 ?_
    refine lv_topl (fun gr_clearCells_78 egr_clearCells_78 => ?_)
    replace h := h gr_clearCells_78 egr_clearCells_78
    refine sG_gr_clearCells hx hb hts hin hown hK hw lk60 dX1_sortKinds_78 (fun H locs hw => ?_)
    refine lv_aload_n hx hb dX1_sortKinds_81 rfl (lv_at hl 0 rfl) ?_
    refine lv_dup hx hb dX1_sortKinds_82 rfl ?_
    refine gG_gr_standCells hx hb hts hin hown hK hw lk63 dX1_sortKinds_83 ?_
    refine lv_iload hx hb dX1_sortKinds_86 (lv_at hl 3 rfl) ?_
    refine lv_if_eq (tgt := 97) hx hb dX1_sortKinds_88 (by decide) (fun hc => ?_) (fun hc => ?_)
    · replace h := h.1 hc
      refine lv_lload_n hx hb dX1_sortKinds_97 rfl (lv_at hl 2 rfl) ?_
      refine lv_goto (tgt := 102) hx hb dX1_sortKinds_98 (by decide) ?_
      refine lv_lor hx hb dX1_sortKinds_102 ?_
      refine lv_topl (fun gr_standCells_103 egr_standCells_103 => ?_)
      replace h := h gr_standCells_103 egr_standCells_103
      refine sG_gr_standCells hx hb hts hin hown hK hw lk63 dX1_sortKinds_103 (fun H locs hw => ?_)
      refine lv_iinc (v := (x1 + (1 : Int32))) (lv' := [(1, .int (x1 + (1 : Int32))), (0, .ref (ad 0)), (2, .long x2), (4, .int x4)]) hx hb dX1_sortKinds_106 hl (k := 1) rfl rfl (by decide) rfl (fun ls hl => ?_)
      refine lv_goto (tgt := 17) hx hb dX1_sortKinds_109 (by decide) ?_
      exact hk17 _ _ _ _ h _ _ _ hw (lv_sub hl [1, 0] rfl)
    · replace h := h.2 hc
      refine lv_iload hx hb dX1_sortKinds_91 (lv_at hl 3 rfl) ?_
      refine lv_iconst (v := 3) hx hb dX1_sortKinds_93 (by decide) ?_
      refine lv_icmp_ne (tgt := 101) hx hb dX1_sortKinds_94 (by decide) (fun hc => ?_) (fun hc => ?_)
      · replace h := h.2 hc
        refine lv_lconst (v := 0) hx hb dX1_sortKinds_101 (by decide) ?_
        refine lv_lor hx hb dX1_sortKinds_102 ?_
        refine lv_topl (fun gr_standCells_103 egr_standCells_103 => ?_)
        replace h := h gr_standCells_103 egr_standCells_103
        refine sG_gr_standCells hx hb hts hin hown hK hw lk63 dX1_sortKinds_103 (fun H locs hw => ?_)
        refine lv_iinc (v := (x1 + (1 : Int32))) (lv' := [(1, .int (x1 + (1 : Int32))), (0, .ref (ad 0)), (2, .long x2), (4, .int x4)]) hx hb dX1_sortKinds_106 hl (k := 1) rfl rfl (by decide) rfl (fun ls hl => ?_)
        refine lv_goto (tgt := 17) hx hb dX1_sortKinds_109 (by decide) ?_
        exact hk17 _ _ _ _ h _ _ _ hw (lv_sub hl [1, 0] rfl)
      · replace h := h.1 hc
        refine lv_lload_n hx hb dX1_sortKinds_97 rfl (lv_at hl 2 rfl) ?_
        refine lv_goto (tgt := 102) hx hb dX1_sortKinds_98 (by decide) ?_
        refine lv_lor hx hb dX1_sortKinds_102 ?_
        refine lv_topl (fun gr_standCells_103 egr_standCells_103 => ?_)
        replace h := h gr_standCells_103 egr_standCells_103
        refine sG_gr_standCells hx hb hts hin hown hK hw lk63 dX1_sortKinds_103 (fun H locs hw => ?_)
        refine lv_iinc (v := (x1 + (1 : Int32))) (lv' := [(1, .int (x1 + (1 : Int32))), (0, .ref (ad 0)), (2, .long x2), (4, .int x4)]) hx hb dX1_sortKinds_106 hl (k := 1) rfl rfl (by decide) rfl (fun ls hl => ?_)
        refine lv_goto (tgt := 17) hx hb dX1_sortKinds_109 (by decide) ?_
        exact hk17 _ _ _ _ h _ _ _ hw (lv_sub hl [1, 0] rfl)
  have J52 : ∀ (_ : True) (k17 : Int64 → Int64 → Int64 → Int32 → Prop) (hk17 : ∀ (gr_floorCells : Int64) (gr_clearCells : Int64) (gr_standCells : Int64) (x1 : Int32) , k17 gr_floorCells gr_clearCells gr_standCells x1 → ∀ (H : Heap) (locs : List Loc) (ls : Array Slot), SW D A s.heap (wdG cI cL cZ ad gr_width gr_height gr_size gr_kinds gr_before gr_columns gr_rows gr_floorCells gr_clearCells gr_standCells gr_firstColumn gr_lastColumn) H locs → lv_has ls 5 [(0, .ref (ad 0)), (1, .int x1)] → W p l e (headSpec wsX1_sortKinds rm_gr_sortKinds).room s m args below meth c H locs 0 0 Z (F0 m 17 ls [])) (gr_floorCells : Int64) (gr_clearCells : Int64) (gr_standCells : Int64) (x1 : Int32) (x2 : Int64) (x4 : Int32) (y1 : Int64) (y2 : Int64) , B_gr_sortKinds_52 gr_size gr_kinds Q k17 gr_floorCells gr_clearCells gr_standCells x1 x2 x4 y1 y2 → ∀ (H : Heap) (locs : List Loc) (ls : Array Slot), SW D A s.heap (wdG cI cL cZ ad gr_width gr_height gr_size gr_kinds gr_before gr_columns gr_rows gr_floorCells gr_clearCells gr_standCells gr_firstColumn gr_lastColumn) H locs → lv_has ls 5 [(0, .ref (ad 0)), (1, .int x1), (2, .long x2), (4, .int x4)] → W p l e (headSpec wsX1_sortKinds rm_gr_sortKinds).room s m args below meth c H locs 0 0 Z (F0 m 52 ls [.long y2, .long y1, .ref (ad 0)]) := by
    intro _ k17 hk17 gr_floorCells gr_clearCells gr_standCells x1 x2 x4 y1 y2 h H locs ls hw hl
    unfold B_gr_sortKinds_52 at h
    refine lv_lor hx hb dX1_sortKinds_52 ?_
    refine lv_topl (fun gr_floorCells_53 egr_floorCells_53 => ?_)
    replace h := h gr_floorCells_53 egr_floorCells_53
    refine sG_gr_floorCells hx hb hts hin hown hK hw lk57 dX1_sortKinds_53 (fun H locs hw => ?_)
    refine lv_aload_n hx hb dX1_sortKinds_56 rfl (lv_at hl 0 rfl) ?_
    refine lv_dup hx hb dX1_sortKinds_57 rfl ?_
    refine gG_gr_clearCells hx hb hts hin hown hK hw lk60 dX1_sortKinds_58 ?_
    refine lv_iload hx hb dX1_sortKinds_61 (lv_at hl 3 rfl) ?_
    refine lv_if_eq (tgt := 72) hx hb dX1_sortKinds_63 (by decide) (fun hc => ?_) (fun hc => ?_)
    · replace h := h.1 hc
      refine lv_lload_n hx hb dX1_sortKinds_72 rfl (lv_at hl 2 rfl) ?_
      refine lv_goto (tgt := 77) hx hb dX1_sortKinds_73 (by decide) ?_
      exact J77 trivial k17 hk17 _ _ _ _ _ _ _ _ h _ _ _ hw (lv_sub hl [0, 1, 2, 3] rfl)
    · replace h := h.2 hc
      refine lv_iload hx hb dX1_sortKinds_66 (lv_at hl 3 rfl) ?_
      refine lv_iconst (v := 2) hx hb dX1_sortKinds_68 (by decide) ?_
      refine lv_icmp_ne (tgt := 76) hx hb dX1_sortKinds_69 (by decide) (fun hc => ?_) (fun hc => ?_)
      · replace h := h.2 hc
        refine lv_lconst (v := 0) hx hb dX1_sortKinds_76 (by decide) ?_
        exact J77 trivial k17 hk17 _ _ _ _ _ _ _ _ h _ _ _ hw (lv_sub hl [0, 1, 2, 3] rfl)
      · replace h := h.1 hc
        refine lv_lload_n hx hb dX1_sortKinds_72 rfl (lv_at hl 2 rfl) ?_
        refine lv_goto (tgt := 77) hx hb dX1_sortKinds_73 (by decide) ?_
        exact J77 trivial k17 hk17 _ _ _ _ _ _ _ _ h _ _ _ hw (lv_sub hl [0, 1, 2, 3] rfl)
  have J17 : ∀ (n : Nat) (gr_floorCells : Int64) (gr_clearCells : Int64) (gr_standCells : Int64) (x1 : Int32) , L_gr_sortKinds_17 gr_size gr_kinds Q n gr_floorCells gr_clearCells gr_standCells x1 → ∀ (H : Heap) (locs : List Loc) (ls : Array Slot), SW D A s.heap (wdG cI cL cZ ad gr_width gr_height gr_size gr_kinds gr_before gr_columns gr_rows gr_floorCells gr_clearCells gr_standCells gr_firstColumn gr_lastColumn) H locs → lv_has ls 5 [(0, .ref (ad 0)), (1, .int x1)] → W p l e (headSpec wsX1_sortKinds rm_gr_sortKinds).room s m args below meth c H locs 0 0 Z (F0 m 17 ls []) := by
    intro  n
    induction n with
    | zero => intro gr_floorCells gr_clearCells gr_standCells x1 h; exact h.elim
    | succ n ih =>
    intro gr_floorCells gr_clearCells gr_standCells x1 h H locs ls hw hl
    unfold L_gr_sortKinds_17 at h
    refine lv_iload_n hx hb dX1_sortKinds_17 rfl (lv_at hl 1 rfl) ?_
    refine lv_aload_n hx hb dX1_sortKinds_18 rfl (lv_at hl 0 rfl) ?_
    refine gG_gr_size hx hb hts hin hown hK hw lk47 dX1_sortKinds_19 ?_
    refine lv_icmp_ge (tgt := 112) hx hb dX1_sortKinds_22 (by decide) (fun hc => ?_) (fun hc => ?_)
    · replace h := h.1 hc
      rw [hZ]
      exact rt_v (gr_floorCells, gr_clearCells, gr_standCells) hx hb hr hlocks hw h dX1_sortKinds_112
    · replace h := h.2 hc
      refine lv_lconst (v := 1) hx hb dX1_sortKinds_25 (by decide) ?_
      refine lv_iload_n hx hb dX1_sortKinds_26 rfl (lv_at hl 1 rfl) ?_
      refine lv_lshl hx hb dX1_sortKinds_27 rfl ?_
      refine lv_topl (fun x2_28 ex2_28 => ?_)
      replace h := h x2_28 ex2_28
      refine lv_lstore_n (lv' := [(2, .long x2_28), (0, .ref (ad 0)), (1, .int x1)]) hx hb dX1_sortKinds_28 rfl hl (by decide) rfl (fun ls hl => ?_)
      refine lv_aload_n hx hb dX1_sortKinds_29 rfl (lv_at hl 1 rfl) ?_
      refine gG_gr_kinds hx hb hts hin hown hK hw lk9 dX1_sortKinds_30 ?_
      refine lv_iload_n hx hb dX1_sortKinds_33 rfl (lv_at hl 2 rfl) ?_
      refine aG_gr_kinds hx hb hK hw h.1 dX1_sortKinds_34 ?_
      replace h := h.2
      refine lv_topi (fun x4_35 ex4_35 => ?_)
      replace h := h x4_35 ex4_35
      refine lv_istore (lv' := [(4, .int x4_35), (2, .long x2_28), (0, .ref (ad 0)), (1, .int x1)]) hx hb dX1_sortKinds_35 hl (by decide) rfl (fun ls hl => ?_)
      refine lv_aload_n hx hb dX1_sortKinds_37 rfl (lv_at hl 2 rfl) ?_
      refine lv_dup hx hb dX1_sortKinds_38 rfl ?_
      refine gG_gr_floorCells hx hb hts hin hown hK hw lk57 dX1_sortKinds_39 ?_
      refine lv_iload hx hb dX1_sortKinds_42 (lv_at hl 0 rfl) ?_
      refine lv_if_ne (tgt := 51) hx hb dX1_sortKinds_44 (by decide) (fun hc => ?_) (fun hc => ?_)
      · replace h := h.2 hc
        refine lv_lconst (v := 0) hx hb dX1_sortKinds_51 (by decide) ?_
        exact J52 trivial (L_gr_sortKinds_17 gr_size gr_kinds Q n) ih _ _ _ _ _ _ _ _ h _ _ _ hw (lv_sub hl [2, 3, 1, 0] rfl)
      · replace h := h.1 hc
        refine lv_lload_n hx hb dX1_sortKinds_47 rfl (lv_at hl 1 rfl) ?_
        refine lv_goto (tgt := 52) hx hb dX1_sortKinds_48 (by decide) ?_
        exact J52 trivial (L_gr_sortKinds_17 gr_size gr_kinds Q n) ih _ _ _ _ _ _ _ _ h _ _ _ hw (lv_sub hl [2, 3, 1, 0] rfl)
  unfold P_gr_sortKinds at h
  have he : entryFrame m args 5 = entryFrame m ([.ref (ad 0)] : List Value).toArray 5 := by rw [hav]
  refine W.eq he ?_
  have hl := lv_entry ([.ref (ad 0)]) (n := 5) (Nat.le_of_ble_eq_true rfl)
  rw [lg_entry_eq]
  generalize (lg_sl ([.ref (ad 0)]) ++ List.replicate (5 - (lg_sl ([.ref (ad 0)])).length) Slot.unset).toArray = ls at hl ⊢
  have hl : lv_has ls 5 [(0, .ref (ad 0))] := hl
  refine lv_aload_n hx hb dX1_sortKinds_0 rfl (lv_at hl 0 rfl) ?_
  refine lv_lconst (v := 0) hx hb dX1_sortKinds_1 (by decide) ?_
  refine sG_gr_floorCells hx hb hts hin hown hK hw lk57 dX1_sortKinds_2 (fun H locs hw => ?_)
  refine lv_aload_n hx hb dX1_sortKinds_5 rfl (lv_at hl 0 rfl) ?_
  refine lv_lconst (v := 0) hx hb dX1_sortKinds_6 (by decide) ?_
  refine sG_gr_clearCells hx hb hts hin hown hK hw lk60 dX1_sortKinds_7 (fun H locs hw => ?_)
  refine lv_aload_n hx hb dX1_sortKinds_10 rfl (lv_at hl 0 rfl) ?_
  refine lv_lconst (v := 0) hx hb dX1_sortKinds_11 (by decide) ?_
  refine sG_gr_standCells hx hb hts hin hown hK hw lk63 dX1_sortKinds_12 (fun H locs hw => ?_)
  refine lv_iconst (v := 0) hx hb dX1_sortKinds_15 (by decide) ?_
  refine lv_istore_n (lv' := [(1, .int (0 : Int32)), (0, .ref (ad 0))]) hx hb dX1_sortKinds_16 rfl hl (by decide) rfl (fun ls hl => ?_)
  obtain ⟨n17, h⟩ := h
  exact J17  n17 _ _ _ _ h _ _ _ hw (lv_sub hl [1, 0] rfl)
