def rm_th_survey : Room := { frames := 4, cells := 0, slots := 0, locals := 101 }
set_option maxHeartbeats 4000000 in
set_option maxRecDepth 100000 in
theorem c_th_survey {l : Launch} {D : va_G} {cI cL cZ : ClassId} {mx my : Nat} {A : Nat → Prop} {ad : Nat → Nat} {ga_sightings th_unseen th_goals tr_visited : Nat → Int64} {ga_bestShifts gr_kinds gr_before gr_columns gr_rows pi_cells pi_facings pi_sets po_needs ro_cells ro_lengths ro_shifts tr_marks wh_places : Nat → Int32} {ga_commonLength gr_width gr_height gr_size pi_size si_sightLaw si_sightRange th_commonLength tr_size : Int32} {ga_allTimes gr_floorCells gr_clearCells gr_standCells gr_firstColumn gr_lastColumn : Int64}  {Q : (Nat → Int64) → Int32 → Prop} (h : P_th_survey gr_width gr_size gr_columns gr_rows gr_floorCells gr_clearCells gr_standCells ro_cells ro_lengths ro_shifts si_sightLaw si_sightRange th_unseen th_commonLength Q) : Met l yX6_survey wsX6_survey rm_th_survey (va_Pc [.ref (ad 6)] (WC D cI cL cZ mx my A (wdC cI cL cZ ad ga_sightings ga_bestShifts ga_commonLength ga_allTimes gr_width gr_height gr_size gr_kinds gr_before gr_columns gr_rows gr_floorCells gr_clearCells gr_standCells gr_firstColumn gr_lastColumn pi_cells pi_facings pi_sets pi_size po_needs ro_cells ro_lengths ro_shifts si_sightLaw si_sightRange th_unseen th_goals th_commonLength tr_marks tr_visited tr_size wh_places))) (va_Qv (fun (u : (Nat → Int64) × Int32) => Q u.1 u.2) (fun (u : (Nat → Int64) × Int32) t => PW D A (wdC cI cL cZ ad ga_sightings ga_bestShifts ga_commonLength ga_allTimes gr_width gr_height gr_size gr_kinds gr_before gr_columns gr_rows gr_floorCells gr_clearCells gr_standCells gr_firstColumn gr_lastColumn pi_cells pi_facings pi_sets pi_size po_needs ro_cells ro_lengths ro_shifts si_sightLaw si_sightRange u.1 th_goals u.2 tr_marks tr_visited tr_size wh_places) t.heap) A) 0 0 A := by
  refine Met.ofW (cc := cX6_survey) (maxL := 8) (ret := none) (by decide) rfl ?_
  intro p e s m args below meth c s₁ B hml hv
  obtain ⟨hav, hP0, hD0, hK⟩ := hv
  have hx := B.exec
  have hb := B.bytes
  have hr := B.returns
  have hts := atoms_spec (ws := wsX6_survey) B.pre
  have hown : s.vm.findClass RX6 = some m.cls := findClass_of_methodNamed B.named
  have hlocks := B.notSynchronized
  have hB : ∀ w ∈ BIG, w ∈ wsX6_survey := fun _ h => List.mem_cons_of_mem _ h
  have hin : ∀ w ∈ wsX60, w ∈ wsX6_survey := fun w h => hB w (inB_X6 w h)
  have lk9 := hts _ (hB _ m_282)
  have lk18 := hts _ (hB _ m_278)
  have lk22 := hts _ (hB _ m_279)
  have lk26 := hts _ (hB _ m_280)
  have lk40 := hts _ (hB _ m_284)
  obtain ⟨Z, hZ⟩ : ∃ Z : State → Prop, Z = MQ below (va_Qv (fun (u : (Nat → Int64) × Int32) => Q u.1 u.2) (fun (u : (Nat → Int64) × Int32) t => PW D A (wdC cI cL cZ ad ga_sightings ga_bestShifts ga_commonLength ga_allTimes gr_width gr_height gr_size gr_kinds gr_before gr_columns gr_rows gr_floorCells gr_clearCells gr_standCells gr_firstColumn gr_lastColumn pi_cells pi_facings pi_sets pi_size po_needs ro_cells ro_lengths ro_shifts si_sightLaw si_sightRange u.1 th_goals u.2 tr_marks tr_visited tr_size wh_places) t.heap) A) args s 0 0 A := ⟨_, rfl⟩
  rw [← hZ]
  have hw : SW D A s.heap (wdC cI cL cZ ad ga_sightings ga_bestShifts ga_commonLength ga_allTimes gr_width gr_height gr_size gr_kinds gr_before gr_columns gr_rows gr_floorCells gr_clearCells gr_standCells gr_firstColumn gr_lastColumn pi_cells pi_facings pi_sets pi_size po_needs ro_cells ro_lengths ro_shifts si_sightLaw si_sightRange th_unseen th_goals th_commonLength tr_marks tr_visited tr_size wh_places) s.heap [] := ⟨hP0, hD0, va_S.rf⟩
  clear hP0 hD0 B
  have J86 : ∀ (k43 : (Nat → Int64) → Int32 → Int32 → Int32 → Int32 → Prop) (hk43 : ∀ (th_unseen : (Nat → Int64)) (th_commonLength : Int32) (x1 : Int32) (x2 : Int32) (x3 : Int32) , k43 th_unseen th_commonLength x1 x2 x3 → ∀ (H : Heap) (locs : List Loc) (ls : Array Slot), SW D A s.heap (wdC cI cL cZ ad ga_sightings ga_bestShifts ga_commonLength ga_allTimes gr_width gr_height gr_size gr_kinds gr_before gr_columns gr_rows gr_floorCells gr_clearCells gr_standCells gr_firstColumn gr_lastColumn pi_cells pi_facings pi_sets pi_size po_needs ro_cells ro_lengths ro_shifts si_sightLaw si_sightRange th_unseen th_goals th_commonLength tr_marks tr_visited tr_size wh_places) H locs → lv_has ls 8 [(0, .ref (ad 6)), (1, .int x1), (2, .int x2), (3, .int x3)] → W p l e (headSpec wsX6_survey rm_th_survey).room s m args below meth c H locs 0 0 Z (F0 m 43 ls [])) (n : Nat) (th_unseen : (Nat → Int64)) (th_commonLength : Int32) (x1 : Int32) (x2 : Int32) (x3 : Int32) (x4 : Int64) (x7 : Int32) , L_th_survey_86 gr_width gr_size gr_columns gr_rows gr_floorCells gr_clearCells gr_standCells ro_cells ro_lengths ro_shifts si_sightLaw si_sightRange Q k43 n th_unseen th_commonLength x1 x2 x3 x4 x7 → ∀ (H : Heap) (locs : List Loc) (ls : Array Slot), SW D A s.heap (wdC cI cL cZ ad ga_sightings ga_bestShifts ga_commonLength ga_allTimes gr_width gr_height gr_size gr_kinds gr_before gr_columns gr_rows gr_floorCells gr_clearCells gr_standCells gr_firstColumn gr_lastColumn pi_cells pi_facings pi_sets pi_size po_needs ro_cells ro_lengths ro_shifts si_sightLaw si_sightRange th_unseen th_goals th_commonLength tr_marks tr_visited tr_size wh_places) H locs → lv_has ls 8 [(0, .ref (ad 6)), (1, .int x1), (2, .int x2), (3, .int x3), (4, .long x4), (7, .int x7)] → W p l e (headSpec wsX6_survey rm_th_survey).room s m args below meth c H locs 0 0 Z (F0 m 86 ls []) := by
    intro k43 hk43 n
    induction n with
    | zero => intro th_unseen th_commonLength x1 x2 x3 x4 x7 h; exact h.elim
    | succ n ih =>
    intro th_unseen th_commonLength x1 x2 x3 x4 x7 h H locs ls hw hl
    unfold L_th_survey_86 at h
    refine lv_iload hx hb dX6_survey_86 (lv_at hl 5 rfl) ?_
    refine lv_aload_n hx hb dX6_survey_88 rfl (lv_at hl 0 rfl) ?_
    refine gC_th_commonLength hx hb hts hin hown hK hw lk40 dX6_survey_89 ?_
    refine lv_icmp_ge (tgt := 120) hx hb dX6_survey_92 (by decide) (fun hc => ?_) (fun hc => ?_)
    · replace h := h.1 hc
      refine lv_iinc (v := (x3 + (1 : Int32))) (lv' := [(3, .int (x3 + (1 : Int32))), (0, .ref (ad 6)), (1, .int x1), (2, .int x2), (4, .long x4), (7, .int x7)]) hx hb dX6_survey_120 hl (k := 3) rfl rfl (by decide) rfl (fun ls hl => ?_)
      refine lv_goto (tgt := 43) hx hb dX6_survey_123 (by decide) ?_
      exact hk43 _ _ _ _ _ h _ _ _ hw (lv_sub hl [1, 2, 3, 0] rfl)
    · replace h := h.2 hc
      refine lv_aload_n hx hb dX6_survey_95 rfl (lv_at hl 0 rfl) ?_
      refine gC_th_unseen hx hb hts hin hown hK hw lk9 dX6_survey_96 ?_
      refine lv_iload hx hb dX6_survey_99 (lv_at hl 5 rfl) ?_
      refine lv_dup2_11 hx hb dX6_survey_101 rfl rfl ?_
      refine aC_th_unseen hx hb hK hw h.1 dX6_survey_102 ?_
      replace h := h.2
      refine lv_lload hx hb dX6_survey_103 (lv_at hl 4 rfl) ?_
      refine lv_ldc2 (v := (-1)) hx hb hown (hts _ (hB _ m_807)) dX6_survey_105 ?_
      refine lv_lxor hx hb dX6_survey_108 ?_
      refine lv_land hx hb dX6_survey_109 ?_
      refine tC_th_unseen hx hb hK hw h.1 dX6_survey_110 (fun H locs hw => ?_)
      replace h := h.2
      refine lv_iload hx hb dX6_survey_111 (lv_at hl 5 rfl) ?_
      refine lv_iload_n hx hb dX6_survey_113 rfl (lv_at hl 2 rfl) ?_
      refine lv_iadd hx hb dX6_survey_114 ?_
      refine lv_topi (fun x7_115 ex7_115 => ?_)
      replace h := h x7_115 ex7_115
      refine lv_istore (lv' := [(7, .int x7_115), (0, .ref (ad 6)), (1, .int x1), (2, .int x2), (3, .int x3), (4, .long x4)]) hx hb dX6_survey_115 hl (by decide) rfl (fun ls hl => ?_)
      refine lv_goto (tgt := 86) hx hb dX6_survey_117 (by decide) ?_
      exact ih _ _ _ _ _ _ _ h _ _ _ hw (lv_sub hl [1, 2, 3, 4, 5, 0] rfl)
  have J43 : ∀ (k27 : (Nat → Int64) → Int32 → Int32 → Prop) (hk27 : ∀ (th_unseen : (Nat → Int64)) (th_commonLength : Int32) (x1 : Int32) , k27 th_unseen th_commonLength x1 → ∀ (H : Heap) (locs : List Loc) (ls : Array Slot), SW D A s.heap (wdC cI cL cZ ad ga_sightings ga_bestShifts ga_commonLength ga_allTimes gr_width gr_height gr_size gr_kinds gr_before gr_columns gr_rows gr_floorCells gr_clearCells gr_standCells gr_firstColumn gr_lastColumn pi_cells pi_facings pi_sets pi_size po_needs ro_cells ro_lengths ro_shifts si_sightLaw si_sightRange th_unseen th_goals th_commonLength tr_marks tr_visited tr_size wh_places) H locs → lv_has ls 8 [(0, .ref (ad 6)), (1, .int x1)] → W p l e (headSpec wsX6_survey rm_th_survey).room s m args below meth c H locs 0 0 Z (F0 m 27 ls [])) (n : Nat) (th_unseen : (Nat → Int64)) (th_commonLength : Int32) (x1 : Int32) (x2 : Int32) (x3 : Int32) , L_th_survey_43 gr_width gr_size gr_columns gr_rows gr_floorCells gr_clearCells gr_standCells ro_cells ro_lengths ro_shifts si_sightLaw si_sightRange Q k27 n th_unseen th_commonLength x1 x2 x3 → ∀ (H : Heap) (locs : List Loc) (ls : Array Slot), SW D A s.heap (wdC cI cL cZ ad ga_sightings ga_bestShifts ga_commonLength ga_allTimes gr_width gr_height gr_size gr_kinds gr_before gr_columns gr_rows gr_floorCells gr_clearCells gr_standCells gr_firstColumn gr_lastColumn pi_cells pi_facings pi_sets pi_size po_needs ro_cells ro_lengths ro_shifts si_sightLaw si_sightRange th_unseen th_goals th_commonLength tr_marks tr_visited tr_size wh_places) H locs → lv_has ls 8 [(0, .ref (ad 6)), (1, .int x1), (2, .int x2), (3, .int x3)] → W p l e (headSpec wsX6_survey rm_th_survey).room s m args below meth c H locs 0 0 Z (F0 m 43 ls []) := by
    intro k27 hk27 n
    induction n with
    | zero => intro th_unseen th_commonLength x1 x2 x3 h; exact h.elim
    | succ n ih =>
    intro th_unseen th_commonLength x1 x2 x3 h H locs ls hw hl
    unfold L_th_survey_43 at h
    refine lv_iload_n hx hb dX6_survey_43 rfl (lv_at hl 3 rfl) ?_
    refine lv_iload_n hx hb dX6_survey_44 rfl (lv_at hl 2 rfl) ?_
    refine lv_icmp_ge (tgt := 126) hx hb dX6_survey_45 (by decide) (fun hc => ?_) (fun hc => ?_)
    · replace h := h.1 hc
      refine lv_iinc (v := (x1 + (1 : Int32))) (lv' := [(1, .int (x1 + (1 : Int32))), (0, .ref (ad 6)), (2, .int x2), (3, .int x3)]) hx hb dX6_survey_126 hl (k := 1) rfl rfl (by decide) rfl (fun ls hl => ?_)
      refine lv_goto (tgt := 27) hx hb dX6_survey_129 (by decide) ?_
      exact hk27 _ _ _ h _ _ _ hw (lv_sub hl [1, 0] rfl)
    · replace h := h.2 hc
      refine lv_aload_n hx hb dX6_survey_48 rfl (lv_at hl 0 rfl) ?_
      refine gC_th_sight hx hb hts hin hown hK hw lk22 dX6_survey_49 ?_
      refine lv_aload_n hx hb dX6_survey_52 rfl (lv_at hl 0 rfl) ?_
      refine gC_th_rounds hx hb hts hin hown hK hw lk26 dX6_survey_53 ?_
      refine lv_iload_n hx hb dX6_survey_56 rfl (lv_at hl 1 rfl) ?_
      refine lv_iload_n hx hb dX6_survey_57 rfl (lv_at hl 3 rfl) ?_
      refine cV_i (b := (ad 4)) (As := [.int x1, .int x3]) (rest := [.ref (ad 5)]) ⟨hx, hb, hml, hown, hts⟩ hK hw (c_ro_cellOf x1 x3 h) (cwV 2 hts (gd_RX6_59 hB) rfl rfl rfl (by decide +kernel) ⟨Nat.le_of_ble_eq_true rfl, Nat.le_of_ble_eq_true rfl⟩) (rC_ro hK hw) hl.1 ⟨Nat.zero_le _, Nat.zero_le _⟩ rfl rfl (Nat.le_of_ble_eq_true rfl) dX6_survey_58 (fun r58 _ H locs h hw => ?_)
      refine cV_l (b := (ad 5)) (As := [.int r58]) (rest := []) ⟨hx, hb, hml, hown, hts⟩ hK hw (c_si_boardFrom r58 h) (cwV 1 hts (gd_RX6_63 hB) rfl rfl rfl (by decide +kernel) ⟨Nat.le_of_ble_eq_true rfl, Nat.le_of_ble_eq_true rfl⟩) (rC_si hK hw) hl.1 ⟨Nat.zero_le _, Nat.zero_le _⟩ rfl rfl (Nat.le_of_ble_eq_true rfl) dX6_survey_61 (fun r61 _ H locs h hw => ?_)
      refine lv_lstore (lv' := [(4, .long r61), (0, .ref (ad 6)), (1, .int x1), (2, .int x2), (3, .int x3)]) hx hb dX6_survey_64 hl (by decide) rfl (fun ls hl => ?_)
      refine lv_iload_n hx hb dX6_survey_66 rfl (lv_at hl 4 rfl) ?_
      refine lv_aload_n hx hb dX6_survey_67 rfl (lv_at hl 1 rfl) ?_
      refine gC_th_rounds hx hb hts hin hown hK hw lk26 dX6_survey_68 ?_
      refine lv_iload_n hx hb dX6_survey_71 rfl (lv_at hl 2 rfl) ?_
      refine cV_i (b := (ad 4)) (As := [.int x1]) (rest := [.int x3]) ⟨hx, hb, hml, hown, hts⟩ hK hw (c_ro_shiftOf x1 h) (cwV 1 hts (gd_RX6_69 hB) rfl rfl rfl (by decide +kernel) ⟨Nat.le_of_ble_eq_true rfl, Nat.le_of_ble_eq_true rfl⟩) (rC_ro hK hw) hl.1 ⟨Nat.zero_le _, Nat.zero_le _⟩ rfl rfl (Nat.le_of_ble_eq_true rfl) dX6_survey_72 (fun r72 _ H locs h hw => ?_)
      refine lv_isub hx hb dX6_survey_75 ?_
      refine lv_iload_n hx hb dX6_survey_76 rfl (lv_at hl 3 rfl) ?_
      refine cS_i (As := [.int (x3 - r72), .int x2]) (rest := []) ⟨hx, hb, hml, hown, hts⟩ hK hw (c_jd_floorMod (x3 - r72) x2 h) (va_cwS 2 hts (gd_RX6_72 hB) rfl rfl rfl (by decide +kernel) ⟨Nat.le_of_ble_eq_true rfl, Nat.le_of_ble_eq_true rfl⟩) hl.1 ⟨Nat.zero_le _, Nat.zero_le _⟩ rfl rfl (Nat.le_of_ble_eq_true rfl) dX6_survey_77 (fun r77 _ H locs h hw => ?_)
      refine lv_istore (lv' := [(6, .int r77), (4, .long r61), (0, .ref (ad 6)), (1, .int x1), (2, .int x2), (3, .int x3)]) hx hb dX6_survey_80 hl (by decide) rfl (fun ls hl => ?_)
      refine lv_iload hx hb dX6_survey_82 (lv_at hl 0 rfl) ?_
      refine lv_istore (lv' := [(7, .int r77), (6, .int r77), (4, .long r61), (0, .ref (ad 6)), (1, .int x1), (2, .int x2), (3, .int x3)]) hx hb dX6_survey_84 hl (by decide) rfl (fun ls hl => ?_)
      obtain ⟨n86, h⟩ := h
      exact J86 (L_th_survey_43 gr_width gr_size gr_columns gr_rows gr_floorCells gr_clearCells gr_standCells ro_cells ro_lengths ro_shifts si_sightLaw si_sightRange Q k27 n) ih n86 _ _ _ _ _ _ _ h _ _ _ hw (lv_sub hl [3, 4, 5, 6, 2, 0] rfl)
  have J27 : ∀ (n : Nat) (th_unseen : (Nat → Int64)) (th_commonLength : Int32) (x1 : Int32) , L_th_survey_27 gr_width gr_size gr_columns gr_rows gr_floorCells gr_clearCells gr_standCells ro_cells ro_lengths ro_shifts si_sightLaw si_sightRange Q n th_unseen th_commonLength x1 → ∀ (H : Heap) (locs : List Loc) (ls : Array Slot), SW D A s.heap (wdC cI cL cZ ad ga_sightings ga_bestShifts ga_commonLength ga_allTimes gr_width gr_height gr_size gr_kinds gr_before gr_columns gr_rows gr_floorCells gr_clearCells gr_standCells gr_firstColumn gr_lastColumn pi_cells pi_facings pi_sets pi_size po_needs ro_cells ro_lengths ro_shifts si_sightLaw si_sightRange th_unseen th_goals th_commonLength tr_marks tr_visited tr_size wh_places) H locs → lv_has ls 8 [(0, .ref (ad 6)), (1, .int x1)] → W p l e (headSpec wsX6_survey rm_th_survey).room s m args below meth c H locs 0 0 Z (F0 m 27 ls []) := by
    intro  n
    induction n with
    | zero => intro th_unseen th_commonLength x1 h; exact h.elim
    | succ n ih =>
    intro th_unseen th_commonLength x1 h H locs ls hw hl
    unfold L_th_survey_27 at h
    refine lv_iload_n hx hb dX6_survey_27 rfl (lv_at hl 1 rfl) ?_
    refine lv_iconst (v := 4) hx hb dX6_survey_28 (by decide) ?_
    refine lv_icmp_ge (tgt := 132) hx hb dX6_survey_29 (by decide) (fun hc => ?_) (fun hc => ?_)
    · replace h := h.1 hc
      rw [hZ]
      exact rt_v (th_unseen, th_commonLength) hx hb hr hlocks hw h dX6_survey_132
    · replace h := h.2 hc
      refine lv_aload_n hx hb dX6_survey_32 rfl (lv_at hl 0 rfl) ?_
      refine gC_th_rounds hx hb hts hin hown hK hw lk26 dX6_survey_33 ?_
      refine lv_iload_n hx hb dX6_survey_36 rfl (lv_at hl 1 rfl) ?_
      refine cV_i (b := (ad 4)) (As := [.int x1]) (rest := []) ⟨hx, hb, hml, hown, hts⟩ hK hw (c_ro_lengthOf x1 h) (cwV 1 hts (gd_RX6_55 hB) rfl rfl rfl (by decide +kernel) ⟨Nat.le_of_ble_eq_true rfl, Nat.le_of_ble_eq_true rfl⟩) (rC_ro hK hw) hl.1 ⟨Nat.zero_le _, Nat.zero_le _⟩ rfl rfl (Nat.le_of_ble_eq_true rfl) dX6_survey_37 (fun r37 _ H locs h hw => ?_)
      refine lv_istore_n (lv' := [(2, .int r37), (0, .ref (ad 6)), (1, .int x1)]) hx hb dX6_survey_40 rfl hl (by decide) rfl (fun ls hl => ?_)
      refine lv_iconst (v := 0) hx hb dX6_survey_41 (by decide) ?_
      refine lv_istore_n (lv' := [(3, .int (0 : Int32)), (2, .int r37), (0, .ref (ad 6)), (1, .int x1)]) hx hb dX6_survey_42 rfl hl (by decide) rfl (fun ls hl => ?_)
      obtain ⟨n43, h⟩ := h
      exact J43 (L_th_survey_27 gr_width gr_size gr_columns gr_rows gr_floorCells gr_clearCells gr_standCells ro_cells ro_lengths ro_shifts si_sightLaw si_sightRange Q n) ih n43 _ _ _ _ _ h _ _ _ hw (lv_sub hl [2, 3, 1, 0] rfl)
  unfold P_th_survey at h
  have he : entryFrame m args 8 = entryFrame m ([.ref (ad 6)] : List Value).toArray 8 := by rw [hav]
  refine W.eq he ?_
  have hl := lv_entry ([.ref (ad 6)]) (n := 8) (Nat.le_of_ble_eq_true rfl)
  rw [lg_entry_eq]
  generalize (lg_sl ([.ref (ad 6)]) ++ List.replicate (8 - (lg_sl ([.ref (ad 6)])).length) Slot.unset).toArray = ls at hl ⊢
  have hl : lv_has ls 8 [(0, .ref (ad 6))] := hl
  refine lv_aload_n hx hb dX6_survey_0 rfl (lv_at hl 0 rfl) ?_
  refine lv_aload_n hx hb dX6_survey_1 rfl (lv_at hl 0 rfl) ?_
  refine gC_th_rounds hx hb hts hin hown hK hw lk26 dX6_survey_2 ?_
  refine cV_i (b := (ad 4)) (As := []) (rest := [.ref (ad 6)]) ⟨hx, hb, hml, hown, hts⟩ hK hw (c_ro_commonLength h) (cwV 0 hts (gd_RX6_34 hB) rfl rfl rfl (by decide +kernel) ⟨Nat.le_of_ble_eq_true rfl, Nat.le_of_ble_eq_true rfl⟩) (rC_ro hK hw) hl.1 ⟨Nat.zero_le _, Nat.zero_le _⟩ rfl rfl (Nat.le_of_ble_eq_true rfl) dX6_survey_5 (fun r5 _ H locs h hw => ?_)
  refine sC_th_commonLength hx hb hts hin hown hK hw lk40 dX6_survey_8 (fun H locs hw => ?_)
  refine lv_aload_n hx hb dX6_survey_11 rfl (lv_at hl 0 rfl) ?_
  refine gC_th_unseen hx hb hts hin hown hK hw lk9 dX6_survey_12 ?_
  refine lv_aload_n hx hb dX6_survey_15 rfl (lv_at hl 0 rfl) ?_
  refine gC_th_grid hx hb hts hin hown hK hw lk18 dX6_survey_16 ?_
  refine cV_l (b := (ad 1)) (As := []) (rest := [.ref (ad 23)]) ⟨hx, hb, hml, hown, hts⟩ hK hw (c_gr_standing h) (cwV 0 hts (gd_RX6_43 hB) rfl rfl rfl (by decide +kernel) ⟨Nat.le_of_ble_eq_true rfl, Nat.le_of_ble_eq_true rfl⟩) (rC_gr hK hw) hl.1 ⟨Nat.zero_le _, Nat.zero_le _⟩ rfl rfl (Nat.le_of_ble_eq_true rfl) dX6_survey_19 (fun r19 _ H locs h hw => ?_)
  refine cS_v (As := [.ref (ad 23), .long r19]) (rest := []) ⟨hx, hb, hml, hown, hts⟩ hK hw (c_fill_l (q0 := 23) r19 rfl (by decide)) (va_cwS 2 hts (gd_RX6_49 hB) rfl rfl rfl (by decide +kernel) ⟨Nat.le_of_ble_eq_true rfl, Nat.le_of_ble_eq_true rfl⟩) hl.1 ⟨Nat.zero_le _, Nat.zero_le _⟩ rfl rfl (Nat.le_of_ble_eq_true rfl) dX6_survey_22 (fun _ H locs _ hw => ?_)
  have hw : SW D A s.heap (wdC cI cL cZ ad ga_sightings ga_bestShifts ga_commonLength ga_allTimes gr_width gr_height gr_size gr_kinds gr_before gr_columns gr_rows gr_floorCells gr_clearCells gr_standCells gr_firstColumn gr_lastColumn pi_cells pi_facings pi_sets pi_size po_needs ro_cells ro_lengths ro_shifts si_sightLaw si_sightRange (filll 60 r19 th_unseen) th_goals r5 tr_marks tr_visited tr_size wh_places) H locs := hw
  refine lv_iconst (v := 0) hx hb dX6_survey_25 (by decide) ?_
  refine lv_istore_n (lv' := [(1, .int (0 : Int32)), (0, .ref (ad 6))]) hx hb dX6_survey_26 rfl hl (by decide) rfl (fun ls hl => ?_)
  obtain ⟨n27, h⟩ := h
  exact J27  n27 _ _ _ h _ _ _ hw (lv_sub hl [1, 0] rfl)
def rm_th_after : Room := { frames := 0, cells := 0, slots := 0, locals := 0 }
set_option maxHeartbeats 4000000 in
set_option maxRecDepth 100000 in
theorem c_th_after {l : Launch} {D : va_G} {cI cL cZ : ClassId} {mx my : Nat} {A : Nat → Prop} {ad : Nat → Nat} {ga_sightings th_unseen th_goals tr_visited : Nat → Int64} {ga_bestShifts gr_kinds gr_before gr_columns gr_rows pi_cells pi_facings pi_sets po_needs ro_cells ro_lengths ro_shifts tr_marks wh_places : Nat → Int32} {ga_commonLength gr_width gr_height gr_size pi_size si_sightLaw si_sightRange th_commonLength tr_size : Int32} {ga_allTimes gr_floorCells gr_clearCells gr_standCells gr_firstColumn gr_lastColumn : Int64} (x1 : Int32) {Q : Int32 → Prop} (h : P_th_after th_commonLength x1 Q) : Met l yX6_after wsX6_after rm_th_after (va_Pc [.ref (ad 6), .int x1] (WC D cI cL cZ mx my A (wdC cI cL cZ ad ga_sightings ga_bestShifts ga_commonLength ga_allTimes gr_width gr_height gr_size gr_kinds gr_before gr_columns gr_rows gr_floorCells gr_clearCells gr_standCells gr_firstColumn gr_lastColumn pi_cells pi_facings pi_sets pi_size po_needs ro_cells ro_lengths ro_shifts si_sightLaw si_sightRange th_unseen th_goals th_commonLength tr_marks tr_visited tr_size wh_places))) (va_Qi (fun (r : Int32) (u : Unit) => Q r) (fun (u : Unit) t => PW D A (wdC cI cL cZ ad ga_sightings ga_bestShifts ga_commonLength ga_allTimes gr_width gr_height gr_size gr_kinds gr_before gr_columns gr_rows gr_floorCells gr_clearCells gr_standCells gr_firstColumn gr_lastColumn pi_cells pi_facings pi_sets pi_size po_needs ro_cells ro_lengths ro_shifts si_sightLaw si_sightRange th_unseen th_goals th_commonLength tr_marks tr_visited tr_size wh_places) t.heap) A) 0 0 A := by
  refine Met.ofW (cc := cX6_after) (maxL := 2) (ret := (some .int)) (by decide) rfl ?_
  intro p e s m args below meth c s₁ B hml hv
  obtain ⟨hav, hP0, hD0, hK⟩ := hv
  have hx := B.exec
  have hb := B.bytes
  have hr := B.returns
  have hts := atoms_spec (ws := wsX6_after) B.pre
  have hown : s.vm.findClass RX6 = some m.cls := findClass_of_methodNamed B.named
  have hlocks := B.notSynchronized
  have hB : ∀ w ∈ BIG, w ∈ wsX6_after := fun _ h => List.mem_cons_of_mem _ h
  have hin : ∀ w ∈ wsX60, w ∈ wsX6_after := fun w h => hB w (inB_X6 w h)
  have lk40 := hts _ (hB _ m_284)
  obtain ⟨Z, hZ⟩ : ∃ Z : State → Prop, Z = MQ below (va_Qi (fun (r : Int32) (u : Unit) => Q r) (fun (u : Unit) t => PW D A (wdC cI cL cZ ad ga_sightings ga_bestShifts ga_commonLength ga_allTimes gr_width gr_height gr_size gr_kinds gr_before gr_columns gr_rows gr_floorCells gr_clearCells gr_standCells gr_firstColumn gr_lastColumn pi_cells pi_facings pi_sets pi_size po_needs ro_cells ro_lengths ro_shifts si_sightLaw si_sightRange th_unseen th_goals th_commonLength tr_marks tr_visited tr_size wh_places) t.heap) A) args s 0 0 A := ⟨_, rfl⟩
  rw [← hZ]
  have hw : SW D A s.heap (wdC cI cL cZ ad ga_sightings ga_bestShifts ga_commonLength ga_allTimes gr_width gr_height gr_size gr_kinds gr_before gr_columns gr_rows gr_floorCells gr_clearCells gr_standCells gr_firstColumn gr_lastColumn pi_cells pi_facings pi_sets pi_size po_needs ro_cells ro_lengths ro_shifts si_sightLaw si_sightRange th_unseen th_goals th_commonLength tr_marks tr_visited tr_size wh_places) s.heap [] := ⟨hP0, hD0, va_S.rf⟩
  clear hP0 hD0 B
  unfold P_th_after at h
  have he : entryFrame m args 2 = entryFrame m ([.ref (ad 6), .int x1] : List Value).toArray 2 := by rw [hav]
  refine W.eq he ?_
  have hl := lv_entry ([.ref (ad 6), .int x1]) (n := 2) (Nat.le_of_ble_eq_true rfl)
  rw [lg_entry_eq]
  generalize (lg_sl ([.ref (ad 6), .int x1]) ++ List.replicate (2 - (lg_sl ([.ref (ad 6), .int x1])).length) Slot.unset).toArray = ls at hl ⊢
  have hl : lv_has ls 2 [(0, .ref (ad 6)), (1, .int x1)] := hl
  refine lv_iload_n hx hb dX6_after_0 rfl (lv_at hl 1 rfl) ?_
  refine lv_iconst (v := 1) hx hb dX6_after_1 (by decide) ?_
  refine lv_iadd hx hb dX6_after_2 ?_
  refine lv_aload_n hx hb dX6_after_3 rfl (lv_at hl 0 rfl) ?_
  refine gC_th_commonLength hx hb hts hin hown hK hw lk40 dX6_after_4 ?_
  refine lv_icmp_ge (tgt := 16) hx hb dX6_after_7 (by decide) (fun hc => ?_) (fun hc => ?_)
  · replace h := h.1 hc
    refine lv_iconst (v := 0) hx hb dX6_after_16 (by decide) ?_
    rw [hZ]
    exact rt_i () hx hb hr hlocks hw h dX6_after_17
  · replace h := h.2 hc
    refine lv_iload_n hx hb dX6_after_10 rfl (lv_at hl 1 rfl) ?_
    refine lv_iconst (v := 1) hx hb dX6_after_11 (by decide) ?_
    refine lv_iadd hx hb dX6_after_12 ?_
    refine lv_goto (tgt := 17) hx hb dX6_after_13 (by decide) ?_
    rw [hZ]
    exact rt_i () hx hb hr hlocks hw h dX6_after_17
def rm_th_layerFor : Room := { frames := 0, cells := 0, slots := 0, locals := 0 }
set_option maxHeartbeats 4000000 in
set_option maxRecDepth 100000 in
theorem c_th_layerFor {l : Launch} {D : va_G} {cI cL cZ : ClassId} {mx my : Nat} {A : Nat → Prop} {ad : Nat → Nat} {ga_sightings th_unseen th_goals tr_visited : Nat → Int64} {ga_bestShifts gr_kinds gr_before gr_columns gr_rows pi_cells pi_facings pi_sets po_needs ro_cells ro_lengths ro_shifts tr_marks wh_places : Nat → Int32} {ga_commonLength gr_width gr_height gr_size pi_size si_sightLaw si_sightRange th_commonLength tr_size : Int32} {ga_allTimes gr_floorCells gr_clearCells gr_standCells gr_firstColumn gr_lastColumn : Int64} (x1 : Int32) (x2 : Int32) {Q : Int32 → Prop} (h : P_th_layerFor th_commonLength x1 x2 Q) : Met l yX6_layerFor wsX6_layerFor rm_th_layerFor (va_Pc [.ref (ad 6), .int x1, .int x2] (WC D cI cL cZ mx my A (wdC cI cL cZ ad ga_sightings ga_bestShifts ga_commonLength ga_allTimes gr_width gr_height gr_size gr_kinds gr_before gr_columns gr_rows gr_floorCells gr_clearCells gr_standCells gr_firstColumn gr_lastColumn pi_cells pi_facings pi_sets pi_size po_needs ro_cells ro_lengths ro_shifts si_sightLaw si_sightRange th_unseen th_goals th_commonLength tr_marks tr_visited tr_size wh_places))) (va_Qi (fun (r : Int32) (u : Unit) => Q r) (fun (u : Unit) t => PW D A (wdC cI cL cZ ad ga_sightings ga_bestShifts ga_commonLength ga_allTimes gr_width gr_height gr_size gr_kinds gr_before gr_columns gr_rows gr_floorCells gr_clearCells gr_standCells gr_firstColumn gr_lastColumn pi_cells pi_facings pi_sets pi_size po_needs ro_cells ro_lengths ro_shifts si_sightLaw si_sightRange th_unseen th_goals th_commonLength tr_marks tr_visited tr_size wh_places) t.heap) A) 0 0 A := by
  refine Met.ofW (cc := cX6_layerFor) (maxL := 3) (ret := (some .int)) (by decide) rfl ?_
  intro p e s m args below meth c s₁ B hml hv
  obtain ⟨hav, hP0, hD0, hK⟩ := hv
  have hx := B.exec
  have hb := B.bytes
  have hr := B.returns
  have hts := atoms_spec (ws := wsX6_layerFor) B.pre
  have hown : s.vm.findClass RX6 = some m.cls := findClass_of_methodNamed B.named
  have hlocks := B.notSynchronized
  have hB : ∀ w ∈ BIG, w ∈ wsX6_layerFor := fun _ h => List.mem_cons_of_mem _ h
  have hin : ∀ w ∈ wsX60, w ∈ wsX6_layerFor := fun w h => hB w (inB_X6 w h)
  have lk40 := hts _ (hB _ m_284)
  obtain ⟨Z, hZ⟩ : ∃ Z : State → Prop, Z = MQ below (va_Qi (fun (r : Int32) (u : Unit) => Q r) (fun (u : Unit) t => PW D A (wdC cI cL cZ ad ga_sightings ga_bestShifts ga_commonLength ga_allTimes gr_width gr_height gr_size gr_kinds gr_before gr_columns gr_rows gr_floorCells gr_clearCells gr_standCells gr_firstColumn gr_lastColumn pi_cells pi_facings pi_sets pi_size po_needs ro_cells ro_lengths ro_shifts si_sightLaw si_sightRange th_unseen th_goals th_commonLength tr_marks tr_visited tr_size wh_places) t.heap) A) args s 0 0 A := ⟨_, rfl⟩
  rw [← hZ]
  have hw : SW D A s.heap (wdC cI cL cZ ad ga_sightings ga_bestShifts ga_commonLength ga_allTimes gr_width gr_height gr_size gr_kinds gr_before gr_columns gr_rows gr_floorCells gr_clearCells gr_standCells gr_firstColumn gr_lastColumn pi_cells pi_facings pi_sets pi_size po_needs ro_cells ro_lengths ro_shifts si_sightLaw si_sightRange th_unseen th_goals th_commonLength tr_marks tr_visited tr_size wh_places) s.heap [] := ⟨hP0, hD0, va_S.rf⟩
  clear hP0 hD0 B
  unfold P_th_layerFor at h
  have he : entryFrame m args 3 = entryFrame m ([.ref (ad 6), .int x1, .int x2] : List Value).toArray 3 := by rw [hav]
  refine W.eq he ?_
  have hl := lv_entry ([.ref (ad 6), .int x1, .int x2]) (n := 3) (Nat.le_of_ble_eq_true rfl)
  rw [lg_entry_eq]
  generalize (lg_sl ([.ref (ad 6), .int x1, .int x2]) ++ List.replicate (3 - (lg_sl ([.ref (ad 6), .int x1, .int x2])).length) Slot.unset).toArray = ls at hl ⊢
  have hl : lv_has ls 3 [(0, .ref (ad 6)), (1, .int x1), (2, .int x2)] := hl
  refine lv_iload_n hx hb dX6_layerFor_0 rfl (lv_at hl 1 rfl) ?_
  refine lv_if_eq (tgt := 13) hx hb dX6_layerFor_1 (by decide) (fun hc => ?_) (fun hc => ?_)
  · replace h := h.1 hc
    refine lv_iload_n hx hb dX6_layerFor_13 rfl (lv_at hl 2 rfl) ?_
    rw [hZ]
    exact rt_i () hx hb hr hlocks hw h dX6_layerFor_14
  · replace h := h.2 hc
    refine lv_aload_n hx hb dX6_layerFor_4 rfl (lv_at hl 0 rfl) ?_
    refine gC_th_commonLength hx hb hts hin hown hK hw lk40 dX6_layerFor_5 ?_
    refine lv_iload_n hx hb dX6_layerFor_8 rfl (lv_at hl 2 rfl) ?_
    refine lv_iadd hx hb dX6_layerFor_9 ?_
    refine lv_goto (tgt := 14) hx hb dX6_layerFor_10 (by decide) ?_
    rw [hZ]
    exact rt_i () hx hb hr hlocks hw h dX6_layerFor_14
def rm_tr_cellAt : Room := { frames := 0, cells := 0, slots := 0, locals := 0 }
set_option maxHeartbeats 4000000 in
set_option maxRecDepth 100000 in
theorem c_tr_cellAt {l : Launch} {D : va_G} {cI cL cZ : ClassId} {mx my : Nat} {A : Nat → Prop} {ad : Nat → Nat} {ga_sightings th_unseen th_goals tr_visited : Nat → Int64} {ga_bestShifts gr_kinds gr_before gr_columns gr_rows pi_cells pi_facings pi_sets po_needs ro_cells ro_lengths ro_shifts tr_marks wh_places : Nat → Int32} {ga_commonLength gr_width gr_height gr_size pi_size si_sightLaw si_sightRange th_commonLength tr_size : Int32} {ga_allTimes gr_floorCells gr_clearCells gr_standCells gr_firstColumn gr_lastColumn : Int64} (x1 : Int32) {Q : Int32 → Prop} (h : P_tr_cellAt tr_marks x1 Q) : Met l yX8_cellAt wsX8_cellAt rm_tr_cellAt (va_Pc [.ref (ad 8), .int x1] (WC D cI cL cZ mx my A (wdC cI cL cZ ad ga_sightings ga_bestShifts ga_commonLength ga_allTimes gr_width gr_height gr_size gr_kinds gr_before gr_columns gr_rows gr_floorCells gr_clearCells gr_standCells gr_firstColumn gr_lastColumn pi_cells pi_facings pi_sets pi_size po_needs ro_cells ro_lengths ro_shifts si_sightLaw si_sightRange th_unseen th_goals th_commonLength tr_marks tr_visited tr_size wh_places))) (va_Qi (fun (r : Int32) (u : Unit) => Q r) (fun (u : Unit) t => PW D A (wdC cI cL cZ ad ga_sightings ga_bestShifts ga_commonLength ga_allTimes gr_width gr_height gr_size gr_kinds gr_before gr_columns gr_rows gr_floorCells gr_clearCells gr_standCells gr_firstColumn gr_lastColumn pi_cells pi_facings pi_sets pi_size po_needs ro_cells ro_lengths ro_shifts si_sightLaw si_sightRange th_unseen th_goals th_commonLength tr_marks tr_visited tr_size wh_places) t.heap) A) 0 0 A := by
  refine Met.ofW (cc := cX8_cellAt) (maxL := 2) (ret := (some .int)) (by decide) rfl ?_
  intro p e s m args below meth c s₁ B hml hv
  obtain ⟨hav, hP0, hD0, hK⟩ := hv
  have hx := B.exec
  have hb := B.bytes
  have hr := B.returns
  have hts := atoms_spec (ws := wsX8_cellAt) B.pre
  have hown : s.vm.findClass RX8 = some m.cls := findClass_of_methodNamed B.named
  have hlocks := B.notSynchronized
  have hB : ∀ w ∈ BIG, w ∈ wsX8_cellAt := fun _ h => List.mem_cons_of_mem _ h
  have hin : ∀ w ∈ wsX80, w ∈ wsX8_cellAt := fun w h => hB w (inB_X8 w h)
  have lk9 := hts _ (hB _ m_246)
  obtain ⟨Z, hZ⟩ : ∃ Z : State → Prop, Z = MQ below (va_Qi (fun (r : Int32) (u : Unit) => Q r) (fun (u : Unit) t => PW D A (wdC cI cL cZ ad ga_sightings ga_bestShifts ga_commonLength ga_allTimes gr_width gr_height gr_size gr_kinds gr_before gr_columns gr_rows gr_floorCells gr_clearCells gr_standCells gr_firstColumn gr_lastColumn pi_cells pi_facings pi_sets pi_size po_needs ro_cells ro_lengths ro_shifts si_sightLaw si_sightRange th_unseen th_goals th_commonLength tr_marks tr_visited tr_size wh_places) t.heap) A) args s 0 0 A := ⟨_, rfl⟩
  rw [← hZ]
  have hw : SW D A s.heap (wdC cI cL cZ ad ga_sightings ga_bestShifts ga_commonLength ga_allTimes gr_width gr_height gr_size gr_kinds gr_before gr_columns gr_rows gr_floorCells gr_clearCells gr_standCells gr_firstColumn gr_lastColumn pi_cells pi_facings pi_sets pi_size po_needs ro_cells ro_lengths ro_shifts si_sightLaw si_sightRange th_unseen th_goals th_commonLength tr_marks tr_visited tr_size wh_places) s.heap [] := ⟨hP0, hD0, va_S.rf⟩
  clear hP0 hD0 B
  unfold P_tr_cellAt at h
  have he : entryFrame m args 2 = entryFrame m ([.ref (ad 8), .int x1] : List Value).toArray 2 := by rw [hav]
  refine W.eq he ?_
  have hl := lv_entry ([.ref (ad 8), .int x1]) (n := 2) (Nat.le_of_ble_eq_true rfl)
  rw [lg_entry_eq]
  generalize (lg_sl ([.ref (ad 8), .int x1]) ++ List.replicate (2 - (lg_sl ([.ref (ad 8), .int x1])).length) Slot.unset).toArray = ls at hl ⊢
  have hl : lv_has ls 2 [(0, .ref (ad 8)), (1, .int x1)] := hl
  refine lv_aload_n hx hb dX8_cellAt_0 rfl (lv_at hl 0 rfl) ?_
  refine gC_tr_marks hx hb hts hin hown hK hw lk9 dX8_cellAt_1 ?_
  refine lv_iload_n hx hb dX8_cellAt_4 rfl (lv_at hl 1 rfl) ?_
  refine aC_tr_marks hx hb hK hw h.1 dX8_cellAt_5 ?_
  replace h := h.2
  refine lv_bipush (v := 63) hx hb dX8_cellAt_6 (by decide) ?_
  refine lv_iand hx hb dX8_cellAt_8 ?_
  rw [hZ]
  exact rt_i () hx hb hr hlocks hw h dX8_cellAt_9
def rm_tr_visit : Room := { frames := 1, cells := 0, slots := 0, locals := 22 }
set_option maxHeartbeats 4000000 in
set_option maxRecDepth 100000 in
theorem c_tr_visit {l : Launch} {D : va_G} {cI cL cZ : ClassId} {mx my : Nat} {A : Nat → Prop} {ad : Nat → Nat} {ga_sightings th_unseen th_goals tr_visited : Nat → Int64} {ga_bestShifts gr_kinds gr_before gr_columns gr_rows pi_cells pi_facings pi_sets po_needs ro_cells ro_lengths ro_shifts tr_marks wh_places : Nat → Int32} {ga_commonLength gr_width gr_height gr_size pi_size si_sightLaw si_sightRange th_commonLength tr_size : Int32} {ga_allTimes gr_floorCells gr_clearCells gr_standCells gr_firstColumn gr_lastColumn : Int64} (x1 : Int32) (x2 : Int32) (x3 : Int32) (x4 : Int32) {Q : (Nat → Int32) → (Nat → Int64) → Int32 → Prop} (h : P_tr_visit tr_marks tr_visited tr_size x1 x2 x3 x4 Q) : Met l yX8_visit wsX8_visit rm_tr_visit (va_Pc [.ref (ad 8), .int x1, .int x2, .int x3, .int x4] (WC D cI cL cZ mx my A (wdC cI cL cZ ad ga_sightings ga_bestShifts ga_commonLength ga_allTimes gr_width gr_height gr_size gr_kinds gr_before gr_columns gr_rows gr_floorCells gr_clearCells gr_standCells gr_firstColumn gr_lastColumn pi_cells pi_facings pi_sets pi_size po_needs ro_cells ro_lengths ro_shifts si_sightLaw si_sightRange th_unseen th_goals th_commonLength tr_marks tr_visited tr_size wh_places))) (va_Qv (fun (u : (Nat → Int32) × (Nat → Int64) × Int32) => Q u.1 u.2.1 u.2.2) (fun (u : (Nat → Int32) × (Nat → Int64) × Int32) t => PW D A (wdC cI cL cZ ad ga_sightings ga_bestShifts ga_commonLength ga_allTimes gr_width gr_height gr_size gr_kinds gr_before gr_columns gr_rows gr_floorCells gr_clearCells gr_standCells gr_firstColumn gr_lastColumn pi_cells pi_facings pi_sets pi_size po_needs ro_cells ro_lengths ro_shifts si_sightLaw si_sightRange th_unseen th_goals th_commonLength u.1 u.2.1 u.2.2 wh_places) t.heap) A) 0 0 A := by
  refine Met.ofW (cc := cX8_visit) (maxL := 5) (ret := none) (by decide) rfl ?_
  intro p e s m args below meth c s₁ B hml hv
  obtain ⟨hav, hP0, hD0, hK⟩ := hv
  have hx := B.exec
  have hb := B.bytes
  have hr := B.returns
  have hts := atoms_spec (ws := wsX8_visit) B.pre
  have hown : s.vm.findClass RX8 = some m.cls := findClass_of_methodNamed B.named
  have hlocks := B.notSynchronized
  have hB : ∀ w ∈ BIG, w ∈ wsX8_visit := fun _ h => List.mem_cons_of_mem _ h
  have hin : ∀ w ∈ wsX80, w ∈ wsX8_visit := fun w h => hB w (inB_X8 w h)
  have lk9 := hts _ (hB _ m_246)
  have lk15 := hts _ (hB _ m_247)
  have lk25 := hts _ (hB _ m_248)
  obtain ⟨Z, hZ⟩ : ∃ Z : State → Prop, Z = MQ below (va_Qv (fun (u : (Nat → Int32) × (Nat → Int64) × Int32) => Q u.1 u.2.1 u.2.2) (fun (u : (Nat → Int32) × (Nat → Int64) × Int32) t => PW D A (wdC cI cL cZ ad ga_sightings ga_bestShifts ga_commonLength ga_allTimes gr_width gr_height gr_size gr_kinds gr_before gr_columns gr_rows gr_floorCells gr_clearCells gr_standCells gr_firstColumn gr_lastColumn pi_cells pi_facings pi_sets pi_size po_needs ro_cells ro_lengths ro_shifts si_sightLaw si_sightRange th_unseen th_goals th_commonLength u.1 u.2.1 u.2.2 wh_places) t.heap) A) args s 0 0 A := ⟨_, rfl⟩
  rw [← hZ]
  have hw : SW D A s.heap (wdC cI cL cZ ad ga_sightings ga_bestShifts ga_commonLength ga_allTimes gr_width gr_height gr_size gr_kinds gr_before gr_columns gr_rows gr_floorCells gr_clearCells gr_standCells gr_firstColumn gr_lastColumn pi_cells pi_facings pi_sets pi_size po_needs ro_cells ro_lengths ro_shifts si_sightLaw si_sightRange th_unseen th_goals th_commonLength tr_marks tr_visited tr_size wh_places) s.heap [] := ⟨hP0, hD0, va_S.rf⟩
  clear hP0 hD0 B
  unfold P_tr_visit at h
  have he : entryFrame m args 5 = entryFrame m ([.ref (ad 8), .int x1, .int x2, .int x3, .int x4] : List Value).toArray 5 := by rw [hav]
  refine W.eq he ?_
  have hl := lv_entry ([.ref (ad 8), .int x1, .int x2, .int x3, .int x4]) (n := 5) (Nat.le_of_ble_eq_true rfl)
  rw [lg_entry_eq]
  generalize (lg_sl ([.ref (ad 8), .int x1, .int x2, .int x3, .int x4]) ++ List.replicate (5 - (lg_sl ([.ref (ad 8), .int x1, .int x2, .int x3, .int x4])).length) Slot.unset).toArray = ls at hl ⊢
  have hl : lv_has ls 5 [(0, .ref (ad 8)), (1, .int x1), (2, .int x2), (3, .int x3), (4, .int x4)] := hl
  refine lv_aload_n hx hb dX8_visit_0 rfl (lv_at hl 0 rfl) ?_
  refine gC_tr_visited hx hb hts hin hown hK hw lk15 dX8_visit_1 ?_
  refine lv_iload_n hx hb dX8_visit_4 rfl (lv_at hl 1 rfl) ?_
  refine aC_tr_visited hx hb hK hw h.1 dX8_visit_5 ?_
  replace h := h.2
  refine lv_iload_n hx hb dX8_visit_6 rfl (lv_at hl 2 rfl) ?_
  refine cSN_i (host := "WatchedHalls") (As := [.long (tr_visited x1.toNatClampNeg), .int x2]) (rest := []) ⟨hx, hb, hml, hown, hts⟩ hK hw (c_wh_holds (tr_visited x1.toNatClampNeg) x2 h) ⟨va_cnB 2 hts (gw_X9_holds hB) rfl rfl rfl hK.2.1.2.2.2.2.2.1 (hts _ (hB _ m_59)) (by decide +kernel) ⟨Nat.le_of_ble_eq_true rfl, Nat.le_of_ble_eq_true rfl⟩, hts _ (hB _ m_394), trivial⟩ hl.1 ⟨Nat.zero_le _, Nat.zero_le _⟩ rfl rfl (Nat.le_of_ble_eq_true rfl) dX8_visit_7 (fun r7 _ H locs h hw => ?_)
  refine lv_if_ne (tgt := 23) hx hb dX8_visit_10 (by decide) (fun hc => ?_) (fun hc => ?_)
  · replace h := h.2 hc
    rw [hZ]
    exact rt_v (tr_marks, tr_visited, tr_size) hx hb hr hlocks hw h dX8_visit_23
  · replace h := h.1 hc
    refine lv_aload_n hx hb dX8_visit_13 rfl (lv_at hl 0 rfl) ?_
    refine gC_tr_size hx hb hts hin hown hK hw lk25 dX8_visit_14 ?_
    refine lv_sipush (v := 16384) hx hb dX8_visit_17 (by decide) ?_
    refine lv_icmp_lt (tgt := 24) hx hb dX8_visit_20 (by decide) (fun hc => ?_) (fun hc => ?_)
    · replace h := h.1 hc
      refine lv_aload_n hx hb dX8_visit_24 rfl (lv_at hl 0 rfl) ?_
      refine gC_tr_visited hx hb hts hin hown hK hw lk15 dX8_visit_25 ?_
      refine lv_iload_n hx hb dX8_visit_28 rfl (lv_at hl 1 rfl) ?_
      refine lv_dup2_11 hx hb dX8_visit_29 rfl rfl ?_
      refine aC_tr_visited hx hb hK hw h.1 dX8_visit_30 ?_
      replace h := h.2
      refine lv_lconst (v := 1) hx hb dX8_visit_31 (by decide) ?_
      refine lv_iload_n hx hb dX8_visit_32 rfl (lv_at hl 2 rfl) ?_
      refine lv_lshl hx hb dX8_visit_33 rfl ?_
      refine lv_lor hx hb dX8_visit_34 ?_
      refine tC_tr_visited hx hb hK hw h.1 dX8_visit_35 (fun H locs hw => ?_)
      replace h := h.2
      refine lv_aload_n hx hb dX8_visit_36 rfl (lv_at hl 0 rfl) ?_
      refine gC_tr_marks hx hb hts hin hown hK hw lk9 dX8_visit_37 ?_
      refine lv_aload_n hx hb dX8_visit_40 rfl (lv_at hl 0 rfl) ?_
      refine gC_tr_size hx hb hts hin hown hK hw lk25 dX8_visit_41 ?_
      refine lv_iload hx hb dX8_visit_44 (lv_at hl 4 rfl) ?_
      refine lv_bipush (v := 17) hx hb dX8_visit_46 (by decide) ?_
      refine lv_ishl hx hb dX8_visit_48 ?_
      refine lv_iload_n hx hb dX8_visit_49 rfl (lv_at hl 3 rfl) ?_
      refine lv_bipush (v := 14) hx hb dX8_visit_50 (by decide) ?_
      refine lv_ishl hx hb dX8_visit_52 ?_
      refine lv_ior hx hb dX8_visit_53 ?_
      refine lv_iload_n hx hb dX8_visit_54 rfl (lv_at hl 1 rfl) ?_
      refine lv_bipush (v := 6) hx hb dX8_visit_55 (by decide) ?_
      refine lv_ishl hx hb dX8_visit_57 ?_
      refine lv_ior hx hb dX8_visit_58 ?_
      refine lv_iload_n hx hb dX8_visit_59 rfl (lv_at hl 2 rfl) ?_
      refine lv_ior hx hb dX8_visit_60 ?_
      refine tC_tr_marks hx hb hK hw h.1 dX8_visit_61 (fun H locs hw => ?_)
      replace h := h.2
      refine lv_aload_n hx hb dX8_visit_62 rfl (lv_at hl 0 rfl) ?_
      refine lv_dup hx hb dX8_visit_63 rfl ?_
      refine gC_tr_size hx hb hts hin hown hK hw lk25 dX8_visit_64 ?_
      refine lv_iconst (v := 1) hx hb dX8_visit_67 (by decide) ?_
      refine lv_iadd hx hb dX8_visit_68 ?_
      refine sC_tr_size hx hb hts hin hown hK hw lk25 dX8_visit_69 (fun H locs hw => ?_)
      rw [hZ]
      exact rt_v ((upd tr_marks tr_size.toNatClampNeg ((((x4 <<< ((17 : Int32) &&& 31)) ||| (x3 <<< ((14 : Int32) &&& 31))) ||| (x1 <<< ((6 : Int32) &&& 31))) ||| x2)), (vp_updL tr_visited x1.toNatClampNeg ((tr_visited x1.toNatClampNeg) ||| ((1 : Int64) <<< (Int32.toInt64 x2 &&& 63)))), (tr_size + (1 : Int32))) hx hb hr hlocks hw h dX8_visit_72
    · replace h := h.2 hc
      rw [hZ]
      exact rt_v (tr_marks, tr_visited, tr_size) hx hb hr hlocks hw h dX8_visit_23
def rm_th_goOn : Room := { frames := 3, cells := 0, slots := 0, locals := 68 }
set_option maxHeartbeats 4000000 in
set_option maxRecDepth 100000 in
theorem c_th_goOn {l : Launch} {D : va_G} {cI cL cZ : ClassId} {mx my : Nat} {A : Nat → Prop} {ad : Nat → Nat} {ga_sightings th_unseen th_goals tr_visited : Nat → Int64} {ga_bestShifts gr_kinds gr_before gr_columns gr_rows pi_cells pi_facings pi_sets po_needs ro_cells ro_lengths ro_shifts tr_marks wh_places : Nat → Int32} {ga_commonLength gr_width gr_height gr_size pi_size si_sightLaw si_sightRange th_commonLength tr_size : Int32} {ga_allTimes gr_floorCells gr_clearCells gr_standCells gr_firstColumn gr_lastColumn : Int64} (x1 : Int32) (x2 : Int32) (x3 : Int32) (x4 : Int32) {Q : (Nat → Int32) → (Nat → Int64) → Int32 → Prop} (h : P_th_goOn gr_width gr_height gr_columns gr_rows gr_standCells th_unseen th_commonLength tr_marks tr_visited tr_size x1 x2 x3 x4 Q) : Met l yX6_goOn wsX6_goOn rm_th_goOn (va_Pc [.ref (ad 6), .int x1, .int x2, .int x3, .int x4] (WC D cI cL cZ mx my A (wdC cI cL cZ ad ga_sightings ga_bestShifts ga_commonLength ga_allTimes gr_width gr_height gr_size gr_kinds gr_before gr_columns gr_rows gr_floorCells gr_clearCells gr_standCells gr_firstColumn gr_lastColumn pi_cells pi_facings pi_sets pi_size po_needs ro_cells ro_lengths ro_shifts si_sightLaw si_sightRange th_unseen th_goals th_commonLength tr_marks tr_visited tr_size wh_places))) (va_Qv (fun (u : (Nat → Int32) × (Nat → Int64) × Int32) => Q u.1 u.2.1 u.2.2) (fun (u : (Nat → Int32) × (Nat → Int64) × Int32) t => PW D A (wdC cI cL cZ ad ga_sightings ga_bestShifts ga_commonLength ga_allTimes gr_width gr_height gr_size gr_kinds gr_before gr_columns gr_rows gr_floorCells gr_clearCells gr_standCells gr_firstColumn gr_lastColumn pi_cells pi_facings pi_sets pi_size po_needs ro_cells ro_lengths ro_shifts si_sightLaw si_sightRange th_unseen th_goals th_commonLength u.1 u.2.1 u.2.2 wh_places) t.heap) A) 0 0 A := by
  refine Met.ofW (cc := cX6_goOn) (maxL := 7) (ret := none) (by decide) rfl ?_
  intro p e s m args below meth c s₁ B hml hv
  obtain ⟨hav, hP0, hD0, hK⟩ := hv
  have hx := B.exec
  have hb := B.bytes
  have hr := B.returns
  have hts := atoms_spec (ws := wsX6_goOn) B.pre
  have hown : s.vm.findClass RX6 = some m.cls := findClass_of_methodNamed B.named
  have hlocks := B.notSynchronized
  have hB : ∀ w ∈ BIG, w ∈ wsX6_goOn := fun _ h => List.mem_cons_of_mem _ h
  have hin : ∀ w ∈ wsX60, w ∈ wsX6_goOn := fun w h => hB w (inB_X6 w h)
  have lk9 := hts _ (hB _ m_282)
  have lk18 := hts _ (hB _ m_278)
  have lk30 := hts _ (hB _ m_281)
  obtain ⟨Z, hZ⟩ : ∃ Z : State → Prop, Z = MQ below (va_Qv (fun (u : (Nat → Int32) × (Nat → Int64) × Int32) => Q u.1 u.2.1 u.2.2) (fun (u : (Nat → Int32) × (Nat → Int64) × Int32) t => PW D A (wdC cI cL cZ ad ga_sightings ga_bestShifts ga_commonLength ga_allTimes gr_width gr_height gr_size gr_kinds gr_before gr_columns gr_rows gr_floorCells gr_clearCells gr_standCells gr_firstColumn gr_lastColumn pi_cells pi_facings pi_sets pi_size po_needs ro_cells ro_lengths ro_shifts si_sightLaw si_sightRange th_unseen th_goals th_commonLength u.1 u.2.1 u.2.2 wh_places) t.heap) A) args s 0 0 A := ⟨_, rfl⟩
  rw [← hZ]
  have hw : SW D A s.heap (wdC cI cL cZ ad ga_sightings ga_bestShifts ga_commonLength ga_allTimes gr_width gr_height gr_size gr_kinds gr_before gr_columns gr_rows gr_floorCells gr_clearCells gr_standCells gr_firstColumn gr_lastColumn pi_cells pi_facings pi_sets pi_size po_needs ro_cells ro_lengths ro_shifts si_sightLaw si_sightRange th_unseen th_goals th_commonLength tr_marks tr_visited tr_size wh_places) s.heap [] := ⟨hP0, hD0, va_S.rf⟩
  clear hP0 hD0 B
  have J69 : ∀ (_ : True) (k3 : (Nat → Int32) → (Nat → Int64) → Int32 → Int32 → Int32 → Int32 → Int32 → Int32 → Prop) (hk3 : ∀ (tr_marks : (Nat → Int32)) (tr_visited : (Nat → Int64)) (tr_size : Int32) (x1 : Int32) (x2 : Int32) (x3 : Int32) (x4 : Int32) (x5 : Int32) , k3 tr_marks tr_visited tr_size x1 x2 x3 x4 x5 → ∀ (H : Heap) (locs : List Loc) (ls : Array Slot), SW D A s.heap (wdC cI cL cZ ad ga_sightings ga_bestShifts ga_commonLength ga_allTimes gr_width gr_height gr_size gr_kinds gr_before gr_columns gr_rows gr_floorCells gr_clearCells gr_standCells gr_firstColumn gr_lastColumn pi_cells pi_facings pi_sets pi_size po_needs ro_cells ro_lengths ro_shifts si_sightLaw si_sightRange th_unseen th_goals th_commonLength tr_marks tr_visited tr_size wh_places) H locs → lv_has ls 7 [(0, .ref (ad 6)), (1, .int x1), (2, .int x2), (3, .int x3), (4, .int x4), (5, .int x5)] → W p l e (headSpec wsX6_goOn rm_th_goOn).room s m args below meth c H locs 0 0 Z (F0 m 3 ls [])) (tr_marks : (Nat → Int32)) (tr_visited : (Nat → Int64)) (tr_size : Int32) (x1 : Int32) (x2 : Int32) (x3 : Int32) (x4 : Int32) (x5 : Int32) (x6 : Int32) (y2 : Int32) , B_th_goOn_69 gr_width gr_height gr_columns gr_rows gr_standCells th_unseen th_commonLength Q k3 tr_marks tr_visited tr_size x1 x2 x3 x4 x5 x6 y2 → ∀ (H : Heap) (locs : List Loc) (ls : Array Slot), SW D A s.heap (wdC cI cL cZ ad ga_sightings ga_bestShifts ga_commonLength ga_allTimes gr_width gr_height gr_size gr_kinds gr_before gr_columns gr_rows gr_floorCells gr_clearCells gr_standCells gr_firstColumn gr_lastColumn pi_cells pi_facings pi_sets pi_size po_needs ro_cells ro_lengths ro_shifts si_sightLaw si_sightRange th_unseen th_goals th_commonLength tr_marks tr_visited tr_size wh_places) H locs → lv_has ls 7 [(0, .ref (ad 6)), (1, .int x1), (2, .int x2), (3, .int x3), (4, .int x4), (5, .int x5), (6, .int x6)] → W p l e (headSpec wsX6_goOn rm_th_goOn).room s m args below meth c H locs 0 0 Z (F0 m 69 ls [.int y2, .ref (ad 6), .ref (ad 8)]) := by
    intro _ k3 hk3 tr_marks tr_visited tr_size x1 x2 x3 x4 x5 x6 y2 h H locs ls hw hl
    unfold B_th_goOn_69 at h
    refine lv_iload_n hx hb dX6_goOn_69 rfl (lv_at hl 3 rfl) ?_
    refine cV_i (b := (ad 6)) (As := [.int y2, .int x3]) (rest := [.ref (ad 8)]) ⟨hx, hb, hml, hown, hts⟩ hK hw (c_th_layerFor y2 x3 h) (cwV 2 hts (gd_RX6_101 hB) rfl rfl rfl (by decide +kernel) ⟨Nat.le_of_ble_eq_true rfl, Nat.le_of_ble_eq_true rfl⟩) (rC_th hK hw) hl.1 ⟨Nat.zero_le _, Nat.zero_le _⟩ rfl rfl (Nat.le_of_ble_eq_true rfl) dX6_goOn_70 (fun r70 _ H locs h hw => ?_)
    refine lv_iload hx hb dX6_goOn_73 (lv_at hl 6 rfl) ?_
    refine lv_iload hx hb dX6_goOn_75 (lv_at hl 5 rfl) ?_
    refine lv_iload_n hx hb dX6_goOn_77 rfl (lv_at hl 1 rfl) ?_
    refine cV_v (b := (ad 8)) (As := [.int r70, .int x6, .int x5, .int x1]) (rest := []) ⟨hx, hb, hml, hown, hts⟩ hK hw (c_tr_visit r70 x6 x5 x1 h) (cwV 4 hts (gd_RX6_105 hB) rfl rfl rfl (by decide +kernel) ⟨Nat.le_of_ble_eq_true rfl, Nat.le_of_ble_eq_true rfl⟩) (rC_tr hK hw) hl.1 ⟨Nat.zero_le _, Nat.zero_le _⟩ rfl rfl (Nat.le_of_ble_eq_true rfl) dX6_goOn_78 (fun u78 H locs h hw => ?_)
    obtain ⟨tr_marks_78, tr_visited_78, tr_size_78⟩ := u78
    refine lv_iinc (v := (x5 + (1 : Int32))) (lv' := [(5, .int (x5 + (1 : Int32))), (0, .ref (ad 6)), (1, .int x1), (2, .int x2), (3, .int x3), (4, .int x4), (6, .int x6)]) hx hb dX6_goOn_81 hl (k := 5) rfl rfl (by decide) rfl (fun ls hl => ?_)
    refine lv_goto (tgt := 3) hx hb dX6_goOn_84 (by decide) ?_
    exact hk3 _ _ _ _ _ _ _ _ h _ _ _ hw (lv_sub hl [1, 2, 3, 4, 5, 0] rfl)
  have J3 : ∀ (n : Nat) (tr_marks : (Nat → Int32)) (tr_visited : (Nat → Int64)) (tr_size : Int32) (x1 : Int32) (x2 : Int32) (x3 : Int32) (x4 : Int32) (x5 : Int32) , L_th_goOn_3 gr_width gr_height gr_columns gr_rows gr_standCells th_unseen th_commonLength Q n tr_marks tr_visited tr_size x1 x2 x3 x4 x5 → ∀ (H : Heap) (locs : List Loc) (ls : Array Slot), SW D A s.heap (wdC cI cL cZ ad ga_sightings ga_bestShifts ga_commonLength ga_allTimes gr_width gr_height gr_size gr_kinds gr_before gr_columns gr_rows gr_floorCells gr_clearCells gr_standCells gr_firstColumn gr_lastColumn pi_cells pi_facings pi_sets pi_size po_needs ro_cells ro_lengths ro_shifts si_sightLaw si_sightRange th_unseen th_goals th_commonLength tr_marks tr_visited tr_size wh_places) H locs → lv_has ls 7 [(0, .ref (ad 6)), (1, .int x1), (2, .int x2), (3, .int x3), (4, .int x4), (5, .int x5)] → W p l e (headSpec wsX6_goOn rm_th_goOn).room s m args below meth c H locs 0 0 Z (F0 m 3 ls []) := by
    intro  n
    induction n with
    | zero => intro tr_marks tr_visited tr_size x1 x2 x3 x4 x5 h; exact h.elim
    | succ n ih =>
    intro tr_marks tr_visited tr_size x1 x2 x3 x4 x5 h H locs ls hw hl
    unfold L_th_goOn_3 at h
    refine lv_iload hx hb dX6_goOn_3 (lv_at hl 5 rfl) ?_
    refine lv_iconst (v := 5) hx hb dX6_goOn_5 (by decide) ?_
    refine lv_icmp_ge (tgt := 87) hx hb dX6_goOn_6 (by decide) (fun hc => ?_) (fun hc => ?_)
    · replace h := h.1 hc
      rw [hZ]
      exact rt_v (tr_marks, tr_visited, tr_size) hx hb hr hlocks hw h dX6_goOn_87
    · replace h := h.2 hc
      refine lv_aload_n hx hb dX6_goOn_9 rfl (lv_at hl 0 rfl) ?_
      refine gC_th_grid hx hb hts hin hown hK hw lk18 dX6_goOn_10 ?_
      refine lv_aload_n hx hb dX6_goOn_13 rfl (lv_at hl 0 rfl) ?_
      refine gC_th_trail hx hb hts hin hown hK hw lk30 dX6_goOn_14 ?_
      refine lv_iload_n hx hb dX6_goOn_17 rfl (lv_at hl 1 rfl) ?_
      refine cV_i (b := (ad 8)) (As := [.int x1]) (rest := [.ref (ad 1)]) ⟨hx, hb, hml, hown, hts⟩ hK hw (c_tr_cellAt x1 h) (cwV 1 hts (gd_RX6_115 hB) rfl rfl rfl (by decide +kernel) ⟨Nat.le_of_ble_eq_true rfl, Nat.le_of_ble_eq_true rfl⟩) (rC_tr hK hw) hl.1 ⟨Nat.zero_le _, Nat.zero_le _⟩ rfl rfl (Nat.le_of_ble_eq_true rfl) dX6_goOn_18 (fun r18 _ H locs h hw => ?_)
      refine lv_iload hx hb dX6_goOn_21 (lv_at hl 5 rfl) ?_
      refine cV_i (b := (ad 1)) (As := [.int r18, .int x5]) (rest := []) ⟨hx, hb, hml, hown, hts⟩ hK hw (c_gr_placeAfter r18 x5 h) (cwV 2 hts (gd_RX6_125 hB) rfl rfl rfl (by decide +kernel) ⟨Nat.le_of_ble_eq_true rfl, Nat.le_of_ble_eq_true rfl⟩) (rC_gr hK hw) hl.1 ⟨Nat.zero_le _, Nat.zero_le _⟩ rfl rfl (Nat.le_of_ble_eq_true rfl) dX6_goOn_23 (fun r23 _ H locs h hw => ?_)
      refine lv_istore (lv' := [(6, .int r23), (0, .ref (ad 6)), (1, .int x1), (2, .int x2), (3, .int x3), (4, .int x4), (5, .int x5)]) hx hb dX6_goOn_26 hl (by decide) rfl (fun ls hl => ?_)
      refine lv_iload hx hb dX6_goOn_28 (lv_at hl 0 rfl) ?_
      refine lv_iconst (v := (-1)) hx hb dX6_goOn_30 (by decide) ?_
      refine lv_icmp_eq (tgt := 81) hx hb dX6_goOn_31 (by decide) (fun hc => ?_) (fun hc => ?_)
      · replace h := h.1 hc
        refine lv_iinc (v := (x5 + (1 : Int32))) (lv' := [(5, .int (x5 + (1 : Int32))), (6, .int r23), (0, .ref (ad 6)), (1, .int x1), (2, .int x2), (3, .int x3), (4, .int x4)]) hx hb dX6_goOn_81 hl (k := 6) rfl rfl (by decide) rfl (fun ls hl => ?_)
        refine lv_goto (tgt := 3) hx hb dX6_goOn_84 (by decide) ?_
        exact ih _ _ _ _ _ _ _ _ h _ _ _ hw (lv_sub hl [2, 3, 4, 5, 6, 0] rfl)
      · replace h := h.2 hc
        refine lv_aload_n hx hb dX6_goOn_34 rfl (lv_at hl 1 rfl) ?_
        refine gC_th_unseen hx hb hts hin hown hK hw lk9 dX6_goOn_35 ?_
        refine lv_iload_n hx hb dX6_goOn_38 rfl (lv_at hl 4 rfl) ?_
        refine aC_th_unseen hx hb hK hw h.1 dX6_goOn_39 ?_
        replace h := h.2
        refine lv_iload hx hb dX6_goOn_40 (lv_at hl 0 rfl) ?_
        refine cSN_i (host := "WatchedHalls") (As := [.long (th_unseen x3.toNatClampNeg), .int r23]) (rest := []) ⟨hx, hb, hml, hown, hts⟩ hK hw (c_wh_holds (th_unseen x3.toNatClampNeg) r23 h) ⟨va_cnB 2 hts (gw_X9_holds hB) rfl rfl rfl hK.2.1.2.2.2.2.2.2.2.2 (hts _ (hB _ m_59)) (by decide +kernel) ⟨Nat.le_of_ble_eq_true rfl, Nat.le_of_ble_eq_true rfl⟩, hts _ (hB _ m_394), trivial⟩ hl.1 ⟨Nat.zero_le _, Nat.zero_le _⟩ rfl rfl (Nat.le_of_ble_eq_true rfl) dX6_goOn_42 (fun r42 _ H locs h hw => ?_)
        refine lv_if_eq (tgt := 81) hx hb dX6_goOn_45 (by decide) (fun hc => ?_) (fun hc => ?_)
        · replace h := h.1 hc
          refine lv_iinc (v := (x5 + (1 : Int32))) (lv' := [(5, .int (x5 + (1 : Int32))), (6, .int r23), (0, .ref (ad 6)), (1, .int x1), (2, .int x2), (3, .int x3), (4, .int x4)]) hx hb dX6_goOn_81 hl (k := 6) rfl rfl (by decide) rfl (fun ls hl => ?_)
          refine lv_goto (tgt := 3) hx hb dX6_goOn_84 (by decide) ?_
          exact ih _ _ _ _ _ _ _ _ h _ _ _ hw (lv_sub hl [2, 3, 4, 5, 6, 0] rfl)
        · replace h := h.2 hc
          refine lv_aload_n hx hb dX6_goOn_48 rfl (lv_at hl 1 rfl) ?_
          refine gC_th_trail hx hb hts hin hown hK hw lk30 dX6_goOn_49 ?_
          refine lv_aload_n hx hb dX6_goOn_52 rfl (lv_at hl 1 rfl) ?_
          refine lv_iload_n hx hb dX6_goOn_53 rfl (lv_at hl 3 rfl) ?_
          refine lv_if_ne (tgt := 64) hx hb dX6_goOn_54 (by decide) (fun hc => ?_) (fun hc => ?_)
          · replace h := h.2 hc
            refine lv_iconst (v := 1) hx hb dX6_goOn_64 (by decide) ?_
            refine lv_goto (tgt := 69) hx hb dX6_goOn_65 (by decide) ?_
            exact J69 trivial (L_th_goOn_3 gr_width gr_height gr_columns gr_rows gr_standCells th_unseen th_commonLength Q n) ih _ _ _ _ _ _ _ _ _ _ h _ _ _ hw (lv_sub hl [1, 2, 3, 4, 5, 6, 0] rfl)
          · replace h := h.1 hc
            refine lv_iload hx hb dX6_goOn_57 (lv_at hl 0 rfl) ?_
            refine lv_iload hx hb dX6_goOn_59 (lv_at hl 5 rfl) ?_
            refine lv_icmp_ne (tgt := 68) hx hb dX6_goOn_61 (by decide) (fun hc => ?_) (fun hc => ?_)
            · replace h := h.2 hc
              refine lv_iconst (v := 0) hx hb dX6_goOn_68 (by decide) ?_
              exact J69 trivial (L_th_goOn_3 gr_width gr_height gr_columns gr_rows gr_standCells th_unseen th_commonLength Q n) ih _ _ _ _ _ _ _ _ _ _ h _ _ _ hw (lv_sub hl [1, 2, 3, 4, 5, 6, 0] rfl)
            · replace h := h.1 hc
              refine lv_iconst (v := 1) hx hb dX6_goOn_64 (by decide) ?_
              refine lv_goto (tgt := 69) hx hb dX6_goOn_65 (by decide) ?_
              exact J69 trivial (L_th_goOn_3 gr_width gr_height gr_columns gr_rows gr_standCells th_unseen th_commonLength Q n) ih _ _ _ _ _ _ _ _ _ _ h _ _ _ hw (lv_sub hl [1, 2, 3, 4, 5, 6, 0] rfl)
  unfold P_th_goOn at h
  have he : entryFrame m args 7 = entryFrame m ([.ref (ad 6), .int x1, .int x2, .int x3, .int x4] : List Value).toArray 7 := by rw [hav]
  refine W.eq he ?_
  have hl := lv_entry ([.ref (ad 6), .int x1, .int x2, .int x3, .int x4]) (n := 7) (Nat.le_of_ble_eq_true rfl)
  rw [lg_entry_eq]
  generalize (lg_sl ([.ref (ad 6), .int x1, .int x2, .int x3, .int x4]) ++ List.replicate (7 - (lg_sl ([.ref (ad 6), .int x1, .int x2, .int x3, .int x4])).length) Slot.unset).toArray = ls at hl ⊢
  have hl : lv_has ls 7 [(0, .ref (ad 6)), (1, .int x1), (2, .int x2), (3, .int x3), (4, .int x4)] := hl
  refine lv_iconst (v := 0) hx hb dX6_goOn_0 (by decide) ?_
  refine lv_istore (lv' := [(5, .int (0 : Int32)), (0, .ref (ad 6)), (1, .int x1), (2, .int x2), (3, .int x3), (4, .int x4)]) hx hb dX6_goOn_1 hl (by decide) rfl (fun ls hl => ?_)
  obtain ⟨n3, h⟩ := h
  exact J3  n3 _ _ _ _ _ _ _ _ h _ _ _ hw (lv_sub hl [1, 2, 3, 4, 5, 0] rfl)
def rm_tr_clear : Room := { frames := 1, cells := 0, slots := 0, locals := 24 }
set_option maxHeartbeats 4000000 in
set_option maxRecDepth 100000 in
theorem c_tr_clear {l : Launch} {D : va_G} {cI cL cZ : ClassId} {mx my : Nat} {A : Nat → Prop} {ad : Nat → Nat} {ga_sightings th_unseen th_goals tr_visited : Nat → Int64} {ga_bestShifts gr_kinds gr_before gr_columns gr_rows pi_cells pi_facings pi_sets po_needs ro_cells ro_lengths ro_shifts tr_marks wh_places : Nat → Int32} {ga_commonLength gr_width gr_height gr_size pi_size si_sightLaw si_sightRange th_commonLength tr_size : Int32} {ga_allTimes gr_floorCells gr_clearCells gr_standCells gr_firstColumn gr_lastColumn : Int64}  {Q : (Nat → Int64) → Int32 → Prop} (h : P_tr_clear tr_visited tr_size Q) : Met l yX8_clear wsX8_clear rm_tr_clear (va_Pc [.ref (ad 8)] (WC D cI cL cZ mx my A (wdC cI cL cZ ad ga_sightings ga_bestShifts ga_commonLength ga_allTimes gr_width gr_height gr_size gr_kinds gr_before gr_columns gr_rows gr_floorCells gr_clearCells gr_standCells gr_firstColumn gr_lastColumn pi_cells pi_facings pi_sets pi_size po_needs ro_cells ro_lengths ro_shifts si_sightLaw si_sightRange th_unseen th_goals th_commonLength tr_marks tr_visited tr_size wh_places))) (va_Qv (fun (u : (Nat → Int64) × Int32) => Q u.1 u.2) (fun (u : (Nat → Int64) × Int32) t => PW D A (wdC cI cL cZ ad ga_sightings ga_bestShifts ga_commonLength ga_allTimes gr_width gr_height gr_size gr_kinds gr_before gr_columns gr_rows gr_floorCells gr_clearCells gr_standCells gr_firstColumn gr_lastColumn pi_cells pi_facings pi_sets pi_size po_needs ro_cells ro_lengths ro_shifts si_sightLaw si_sightRange th_unseen th_goals th_commonLength tr_marks u.1 u.2 wh_places) t.heap) A) 0 0 A := by
  refine Met.ofW (cc := cX8_clear) (maxL := 1) (ret := none) (by decide) rfl ?_
  intro p e s m args below meth c s₁ B hml hv
  obtain ⟨hav, hP0, hD0, hK⟩ := hv
  have hx := B.exec
  have hb := B.bytes
  have hr := B.returns
  have hts := atoms_spec (ws := wsX8_clear) B.pre
  have hown : s.vm.findClass RX8 = some m.cls := findClass_of_methodNamed B.named
  have hlocks := B.notSynchronized
  have hB : ∀ w ∈ BIG, w ∈ wsX8_clear := fun _ h => List.mem_cons_of_mem _ h
  have hin : ∀ w ∈ wsX80, w ∈ wsX8_clear := fun w h => hB w (inB_X8 w h)
  have lk15 := hts _ (hB _ m_247)
  have lk25 := hts _ (hB _ m_248)
  obtain ⟨Z, hZ⟩ : ∃ Z : State → Prop, Z = MQ below (va_Qv (fun (u : (Nat → Int64) × Int32) => Q u.1 u.2) (fun (u : (Nat → Int64) × Int32) t => PW D A (wdC cI cL cZ ad ga_sightings ga_bestShifts ga_commonLength ga_allTimes gr_width gr_height gr_size gr_kinds gr_before gr_columns gr_rows gr_floorCells gr_clearCells gr_standCells gr_firstColumn gr_lastColumn pi_cells pi_facings pi_sets pi_size po_needs ro_cells ro_lengths ro_shifts si_sightLaw si_sightRange th_unseen th_goals th_commonLength tr_marks u.1 u.2 wh_places) t.heap) A) args s 0 0 A := ⟨_, rfl⟩
  rw [← hZ]
  have hw : SW D A s.heap (wdC cI cL cZ ad ga_sightings ga_bestShifts ga_commonLength ga_allTimes gr_width gr_height gr_size gr_kinds gr_before gr_columns gr_rows gr_floorCells gr_clearCells gr_standCells gr_firstColumn gr_lastColumn pi_cells pi_facings pi_sets pi_size po_needs ro_cells ro_lengths ro_shifts si_sightLaw si_sightRange th_unseen th_goals th_commonLength tr_marks tr_visited tr_size wh_places) s.heap [] := ⟨hP0, hD0, va_S.rf⟩
  clear hP0 hD0 B
  unfold P_tr_clear at h
  have he : entryFrame m args 1 = entryFrame m ([.ref (ad 8)] : List Value).toArray 1 := by rw [hav]
  refine W.eq he ?_
  have hl := lv_entry ([.ref (ad 8)]) (n := 1) (Nat.le_of_ble_eq_true rfl)
  rw [lg_entry_eq]
  generalize (lg_sl ([.ref (ad 8)]) ++ List.replicate (1 - (lg_sl ([.ref (ad 8)])).length) Slot.unset).toArray = ls at hl ⊢
  have hl : lv_has ls 1 [(0, .ref (ad 8))] := hl
  refine lv_aload_n hx hb dX8_clear_0 rfl (lv_at hl 0 rfl) ?_
  refine gC_tr_visited hx hb hts hin hown hK hw lk15 dX8_clear_1 ?_
  refine lv_lconst (v := 0) hx hb dX8_clear_4 (by decide) ?_
  refine cS_v (As := [.ref (ad 26), .long (0 : Int64)]) (rest := []) ⟨hx, hb, hml, hown, hts⟩ hK hw (c_fill_l (q0 := 26) (0 : Int64) rfl (by decide)) (va_cwS 2 hts (gd_RX8_19 hB) rfl rfl rfl (by decide +kernel) ⟨Nat.le_of_ble_eq_true rfl, Nat.le_of_ble_eq_true rfl⟩) hl.1 ⟨Nat.zero_le _, Nat.zero_le _⟩ rfl rfl (Nat.le_of_ble_eq_true rfl) dX8_clear_5 (fun _ H locs _ hw => ?_)
  have hw : SW D A s.heap (wdC cI cL cZ ad ga_sightings ga_bestShifts ga_commonLength ga_allTimes gr_width gr_height gr_size gr_kinds gr_before gr_columns gr_rows gr_floorCells gr_clearCells gr_standCells gr_firstColumn gr_lastColumn pi_cells pi_facings pi_sets pi_size po_needs ro_cells ro_lengths ro_shifts si_sightLaw si_sightRange th_unseen th_goals th_commonLength tr_marks (filll 256 (0 : Int64) tr_visited) tr_size wh_places) H locs := hw
  refine lv_aload_n hx hb dX8_clear_8 rfl (lv_at hl 0 rfl) ?_
  refine lv_iconst (v := 0) hx hb dX8_clear_9 (by decide) ?_
  refine sC_tr_size hx hb hts hin hown hK hw lk25 dX8_clear_10 (fun H locs hw => ?_)
  rw [hZ]
  exact rt_v ((filll 256 (0 : Int64) tr_visited), (0 : Int32)) hx hb hr hlocks hw h dX8_clear_13
def rm_tr_layerAt : Room := { frames := 0, cells := 0, slots := 0, locals := 0 }
set_option maxHeartbeats 4000000 in
set_option maxRecDepth 100000 in
theorem c_tr_layerAt {l : Launch} {D : va_G} {cI cL cZ : ClassId} {mx my : Nat} {A : Nat → Prop} {ad : Nat → Nat} {ga_sightings th_unseen th_goals tr_visited : Nat → Int64} {ga_bestShifts gr_kinds gr_before gr_columns gr_rows pi_cells pi_facings pi_sets po_needs ro_cells ro_lengths ro_shifts tr_marks wh_places : Nat → Int32} {ga_commonLength gr_width gr_height gr_size pi_size si_sightLaw si_sightRange th_commonLength tr_size : Int32} {ga_allTimes gr_floorCells gr_clearCells gr_standCells gr_firstColumn gr_lastColumn : Int64} (x1 : Int32) {Q : Int32 → Prop} (h : P_tr_layerAt tr_marks x1 Q) : Met l yX8_layerAt wsX8_layerAt rm_tr_layerAt (va_Pc [.ref (ad 8), .int x1] (WC D cI cL cZ mx my A (wdC cI cL cZ ad ga_sightings ga_bestShifts ga_commonLength ga_allTimes gr_width gr_height gr_size gr_kinds gr_before gr_columns gr_rows gr_floorCells gr_clearCells gr_standCells gr_firstColumn gr_lastColumn pi_cells pi_facings pi_sets pi_size po_needs ro_cells ro_lengths ro_shifts si_sightLaw si_sightRange th_unseen th_goals th_commonLength tr_marks tr_visited tr_size wh_places))) (va_Qi (fun (r : Int32) (u : Unit) => Q r) (fun (u : Unit) t => PW D A (wdC cI cL cZ ad ga_sightings ga_bestShifts ga_commonLength ga_allTimes gr_width gr_height gr_size gr_kinds gr_before gr_columns gr_rows gr_floorCells gr_clearCells gr_standCells gr_firstColumn gr_lastColumn pi_cells pi_facings pi_sets pi_size po_needs ro_cells ro_lengths ro_shifts si_sightLaw si_sightRange th_unseen th_goals th_commonLength tr_marks tr_visited tr_size wh_places) t.heap) A) 0 0 A := by
  refine Met.ofW (cc := cX8_layerAt) (maxL := 2) (ret := (some .int)) (by decide) rfl ?_
  intro p e s m args below meth c s₁ B hml hv
  obtain ⟨hav, hP0, hD0, hK⟩ := hv
  have hx := B.exec
  have hb := B.bytes
  have hr := B.returns
  have hts := atoms_spec (ws := wsX8_layerAt) B.pre
  have hown : s.vm.findClass RX8 = some m.cls := findClass_of_methodNamed B.named
  have hlocks := B.notSynchronized
  have hB : ∀ w ∈ BIG, w ∈ wsX8_layerAt := fun _ h => List.mem_cons_of_mem _ h
  have hin : ∀ w ∈ wsX80, w ∈ wsX8_layerAt := fun w h => hB w (inB_X8 w h)
  have lk9 := hts _ (hB _ m_246)
  obtain ⟨Z, hZ⟩ : ∃ Z : State → Prop, Z = MQ below (va_Qi (fun (r : Int32) (u : Unit) => Q r) (fun (u : Unit) t => PW D A (wdC cI cL cZ ad ga_sightings ga_bestShifts ga_commonLength ga_allTimes gr_width gr_height gr_size gr_kinds gr_before gr_columns gr_rows gr_floorCells gr_clearCells gr_standCells gr_firstColumn gr_lastColumn pi_cells pi_facings pi_sets pi_size po_needs ro_cells ro_lengths ro_shifts si_sightLaw si_sightRange th_unseen th_goals th_commonLength tr_marks tr_visited tr_size wh_places) t.heap) A) args s 0 0 A := ⟨_, rfl⟩
  rw [← hZ]
  have hw : SW D A s.heap (wdC cI cL cZ ad ga_sightings ga_bestShifts ga_commonLength ga_allTimes gr_width gr_height gr_size gr_kinds gr_before gr_columns gr_rows gr_floorCells gr_clearCells gr_standCells gr_firstColumn gr_lastColumn pi_cells pi_facings pi_sets pi_size po_needs ro_cells ro_lengths ro_shifts si_sightLaw si_sightRange th_unseen th_goals th_commonLength tr_marks tr_visited tr_size wh_places) s.heap [] := ⟨hP0, hD0, va_S.rf⟩
  clear hP0 hD0 B
  unfold P_tr_layerAt at h
  have he : entryFrame m args 2 = entryFrame m ([.ref (ad 8), .int x1] : List Value).toArray 2 := by rw [hav]
  refine W.eq he ?_
  have hl := lv_entry ([.ref (ad 8), .int x1]) (n := 2) (Nat.le_of_ble_eq_true rfl)
  rw [lg_entry_eq]
  generalize (lg_sl ([.ref (ad 8), .int x1]) ++ List.replicate (2 - (lg_sl ([.ref (ad 8), .int x1])).length) Slot.unset).toArray = ls at hl ⊢
  have hl : lv_has ls 2 [(0, .ref (ad 8)), (1, .int x1)] := hl
  refine lv_aload_n hx hb dX8_layerAt_0 rfl (lv_at hl 0 rfl) ?_
  refine gC_tr_marks hx hb hts hin hown hK hw lk9 dX8_layerAt_1 ?_
  refine lv_iload_n hx hb dX8_layerAt_4 rfl (lv_at hl 1 rfl) ?_
  refine aC_tr_marks hx hb hK hw h.1 dX8_layerAt_5 ?_
  replace h := h.2
  refine lv_bipush (v := 6) hx hb dX8_layerAt_6 (by decide) ?_
  refine lv_ishr hx hb dX8_layerAt_8 ?_
  refine lv_sipush (v := 255) hx hb dX8_layerAt_9 (by decide) ?_
  refine lv_iand hx hb dX8_layerAt_12 ?_
  rw [hZ]
  exact rt_i () hx hb hr hlocks hw h dX8_layerAt_13
def rm_tr_size : Room := { frames := 0, cells := 0, slots := 0, locals := 0 }
set_option maxHeartbeats 4000000 in
set_option maxRecDepth 100000 in
theorem c_tr_size {l : Launch} {D : va_G} {cI cL cZ : ClassId} {mx my : Nat} {A : Nat → Prop} {ad : Nat → Nat} {ga_sightings th_unseen th_goals tr_visited : Nat → Int64} {ga_bestShifts gr_kinds gr_before gr_columns gr_rows pi_cells pi_facings pi_sets po_needs ro_cells ro_lengths ro_shifts tr_marks wh_places : Nat → Int32} {ga_commonLength gr_width gr_height gr_size pi_size si_sightLaw si_sightRange th_commonLength tr_size : Int32} {ga_allTimes gr_floorCells gr_clearCells gr_standCells gr_firstColumn gr_lastColumn : Int64}  {Q : Int32 → Prop} (h : P_tr_size tr_size Q) : Met l yX8_size wsX8_size rm_tr_size (va_Pc [.ref (ad 8)] (WC D cI cL cZ mx my A (wdC cI cL cZ ad ga_sightings ga_bestShifts ga_commonLength ga_allTimes gr_width gr_height gr_size gr_kinds gr_before gr_columns gr_rows gr_floorCells gr_clearCells gr_standCells gr_firstColumn gr_lastColumn pi_cells pi_facings pi_sets pi_size po_needs ro_cells ro_lengths ro_shifts si_sightLaw si_sightRange th_unseen th_goals th_commonLength tr_marks tr_visited tr_size wh_places))) (va_Qi (fun (r : Int32) (u : Unit) => Q r) (fun (u : Unit) t => PW D A (wdC cI cL cZ ad ga_sightings ga_bestShifts ga_commonLength ga_allTimes gr_width gr_height gr_size gr_kinds gr_before gr_columns gr_rows gr_floorCells gr_clearCells gr_standCells gr_firstColumn gr_lastColumn pi_cells pi_facings pi_sets pi_size po_needs ro_cells ro_lengths ro_shifts si_sightLaw si_sightRange th_unseen th_goals th_commonLength tr_marks tr_visited tr_size wh_places) t.heap) A) 0 0 A := by
  refine Met.ofW (cc := cX8_size) (maxL := 1) (ret := (some .int)) (by decide) rfl ?_
  intro p e s m args below meth c s₁ B hml hv
  obtain ⟨hav, hP0, hD0, hK⟩ := hv
  have hx := B.exec
  have hb := B.bytes
  have hr := B.returns
  have hts := atoms_spec (ws := wsX8_size) B.pre
  have hown : s.vm.findClass RX8 = some m.cls := findClass_of_methodNamed B.named
  have hlocks := B.notSynchronized
  have hB : ∀ w ∈ BIG, w ∈ wsX8_size := fun _ h => List.mem_cons_of_mem _ h
  have hin : ∀ w ∈ wsX80, w ∈ wsX8_size := fun w h => hB w (inB_X8 w h)
  have lk25 := hts _ (hB _ m_248)
  obtain ⟨Z, hZ⟩ : ∃ Z : State → Prop, Z = MQ below (va_Qi (fun (r : Int32) (u : Unit) => Q r) (fun (u : Unit) t => PW D A (wdC cI cL cZ ad ga_sightings ga_bestShifts ga_commonLength ga_allTimes gr_width gr_height gr_size gr_kinds gr_before gr_columns gr_rows gr_floorCells gr_clearCells gr_standCells gr_firstColumn gr_lastColumn pi_cells pi_facings pi_sets pi_size po_needs ro_cells ro_lengths ro_shifts si_sightLaw si_sightRange th_unseen th_goals th_commonLength tr_marks tr_visited tr_size wh_places) t.heap) A) args s 0 0 A := ⟨_, rfl⟩
  rw [← hZ]
  have hw : SW D A s.heap (wdC cI cL cZ ad ga_sightings ga_bestShifts ga_commonLength ga_allTimes gr_width gr_height gr_size gr_kinds gr_before gr_columns gr_rows gr_floorCells gr_clearCells gr_standCells gr_firstColumn gr_lastColumn pi_cells pi_facings pi_sets pi_size po_needs ro_cells ro_lengths ro_shifts si_sightLaw si_sightRange th_unseen th_goals th_commonLength tr_marks tr_visited tr_size wh_places) s.heap [] := ⟨hP0, hD0, va_S.rf⟩
  clear hP0 hD0 B
  unfold P_tr_size at h
  have he : entryFrame m args 1 = entryFrame m ([.ref (ad 8)] : List Value).toArray 1 := by rw [hav]
  refine W.eq he ?_
  have hl := lv_entry ([.ref (ad 8)]) (n := 1) (Nat.le_of_ble_eq_true rfl)
  rw [lg_entry_eq]
  generalize (lg_sl ([.ref (ad 8)]) ++ List.replicate (1 - (lg_sl ([.ref (ad 8)])).length) Slot.unset).toArray = ls at hl ⊢
  have hl : lv_has ls 1 [(0, .ref (ad 8))] := hl
  refine lv_aload_n hx hb dX8_size_0 rfl (lv_at hl 0 rfl) ?_
  refine gC_tr_size hx hb hts hin hown hK hw lk25 dX8_size_1 ?_
  rw [hZ]
  exact rt_i () hx hb hr hlocks hw h dX8_size_4
def rm_th_search : Room := { frames := 4, cells := 0, slots := 0, locals := 94 }
set_option maxHeartbeats 4000000 in
set_option maxRecDepth 100000 in
theorem c_th_search {l : Launch} {D : va_G} {cI cL cZ : ClassId} {mx my : Nat} {A : Nat → Prop} {ad : Nat → Nat} {ga_sightings th_unseen th_goals tr_visited : Nat → Int64} {ga_bestShifts gr_kinds gr_before gr_columns gr_rows pi_cells pi_facings pi_sets po_needs ro_cells ro_lengths ro_shifts tr_marks wh_places : Nat → Int32} {ga_commonLength gr_width gr_height gr_size pi_size si_sightLaw si_sightRange th_commonLength tr_size : Int32} {ga_allTimes gr_floorCells gr_clearCells gr_standCells gr_firstColumn gr_lastColumn : Int64} (x1 : Int32) (x2 : Int32) (x3 : Int32) {Q : Int32 → (Nat → Int32) → (Nat → Int64) → Int32 → Prop} (h : P_th_search gr_width gr_height gr_columns gr_rows gr_standCells th_unseen th_commonLength tr_marks tr_visited tr_size x1 x2 x3 Q) : Met l yX6_search wsX6_search rm_th_search (va_Pc [.ref (ad 6), .int x1, .int x2, .int x3] (WC D cI cL cZ mx my A (wdC cI cL cZ ad ga_sightings ga_bestShifts ga_commonLength ga_allTimes gr_width gr_height gr_size gr_kinds gr_before gr_columns gr_rows gr_floorCells gr_clearCells gr_standCells gr_firstColumn gr_lastColumn pi_cells pi_facings pi_sets pi_size po_needs ro_cells ro_lengths ro_shifts si_sightLaw si_sightRange th_unseen th_goals th_commonLength tr_marks tr_visited tr_size wh_places))) (va_Qi (fun (r : Int32) (u : (Nat → Int32) × (Nat → Int64) × Int32) => Q r u.1 u.2.1 u.2.2) (fun (u : (Nat → Int32) × (Nat → Int64) × Int32) t => PW D A (wdC cI cL cZ ad ga_sightings ga_bestShifts ga_commonLength ga_allTimes gr_width gr_height gr_size gr_kinds gr_before gr_columns gr_rows gr_floorCells gr_clearCells gr_standCells gr_firstColumn gr_lastColumn pi_cells pi_facings pi_sets pi_size po_needs ro_cells ro_lengths ro_shifts si_sightLaw si_sightRange th_unseen th_goals th_commonLength u.1 u.2.1 u.2.2 wh_places) t.heap) A) 0 0 A := by
  refine Met.ofW (cc := cX6_search) (maxL := 8) (ret := (some .int)) (by decide) rfl ?_
  intro p e s m args below meth c s₁ B hml hv
  obtain ⟨hav, hP0, hD0, hK⟩ := hv
  have hx := B.exec
  have hb := B.bytes
  have hr := B.returns
  have hts := atoms_spec (ws := wsX6_search) B.pre
  have hown : s.vm.findClass RX6 = some m.cls := findClass_of_methodNamed B.named
  have hlocks := B.notSynchronized
  have hB : ∀ w ∈ BIG, w ∈ wsX6_search := fun _ h => List.mem_cons_of_mem _ h
  have hin : ∀ w ∈ wsX60, w ∈ wsX6_search := fun w h => hB w (inB_X6 w h)
  have lk9 := hts _ (hB _ m_282)
  have lk30 := hts _ (hB _ m_281)
  have lk40 := hts _ (hB _ m_284)
  obtain ⟨Z, hZ⟩ : ∃ Z : State → Prop, Z = MQ below (va_Qi (fun (r : Int32) (u : (Nat → Int32) × (Nat → Int64) × Int32) => Q r u.1 u.2.1 u.2.2) (fun (u : (Nat → Int32) × (Nat → Int64) × Int32) t => PW D A (wdC cI cL cZ ad ga_sightings ga_bestShifts ga_commonLength ga_allTimes gr_width gr_height gr_size gr_kinds gr_before gr_columns gr_rows gr_floorCells gr_clearCells gr_standCells gr_firstColumn gr_lastColumn pi_cells pi_facings pi_sets pi_size po_needs ro_cells ro_lengths ro_shifts si_sightLaw si_sightRange th_unseen th_goals th_commonLength u.1 u.2.1 u.2.2 wh_places) t.heap) A) args s 0 0 A := ⟨_, rfl⟩
  rw [← hZ]
  have hw : SW D A s.heap (wdC cI cL cZ ad ga_sightings ga_bestShifts ga_commonLength ga_allTimes gr_width gr_height gr_size gr_kinds gr_before gr_columns gr_rows gr_floorCells gr_clearCells gr_standCells gr_firstColumn gr_lastColumn pi_cells pi_facings pi_sets pi_size po_needs ro_cells ro_lengths ro_shifts si_sightLaw si_sightRange th_unseen th_goals th_commonLength tr_marks tr_visited tr_size wh_places) s.heap [] := ⟨hP0, hD0, va_S.rf⟩
  clear hP0 hD0 B
  have J148 : ∀ (_ : True) (k62 : (Nat → Int32) → (Nat → Int64) → Int32 → Int32 → Int32 → Int32 → Prop) (hk62 : ∀ (tr_marks : (Nat → Int32)) (tr_visited : (Nat → Int64)) (tr_size : Int32) (x1 : Int32) (x2 : Int32) (x5 : Int32) , k62 tr_marks tr_visited tr_size x1 x2 x5 → ∀ (H : Heap) (locs : List Loc) (ls : Array Slot), SW D A s.heap (wdC cI cL cZ ad ga_sightings ga_bestShifts ga_commonLength ga_allTimes gr_width gr_height gr_size gr_kinds gr_before gr_columns gr_rows gr_floorCells gr_clearCells gr_standCells gr_firstColumn gr_lastColumn pi_cells pi_facings pi_sets pi_size po_needs ro_cells ro_lengths ro_shifts si_sightLaw si_sightRange th_unseen th_goals th_commonLength tr_marks tr_visited tr_size wh_places) H locs → lv_has ls 8 [(0, .ref (ad 6)), (1, .int x1), (2, .int x2), (5, .int x5)] → W p l e (headSpec wsX6_search rm_th_search).room s m args below meth c H locs 0 0 Z (F0 m 62 ls [])) (tr_marks : (Nat → Int32)) (tr_visited : (Nat → Int64)) (tr_size : Int32) (x1 : Int32) (x2 : Int32) (x5 : Int32) (x6 : Int32) (y0 : Int32) (y1 : Int32) , B_th_search_148 gr_width gr_height gr_columns gr_rows gr_standCells th_unseen th_commonLength Q k62 tr_marks tr_visited tr_size x1 x2 x5 x6 y0 y1 → ∀ (H : Heap) (locs : List Loc) (ls : Array Slot), SW D A s.heap (wdC cI cL cZ ad ga_sightings ga_bestShifts ga_commonLength ga_allTimes gr_width gr_height gr_size gr_kinds gr_before gr_columns gr_rows gr_floorCells gr_clearCells gr_standCells gr_firstColumn gr_lastColumn pi_cells pi_facings pi_sets pi_size po_needs ro_cells ro_lengths ro_shifts si_sightLaw si_sightRange th_unseen th_goals th_commonLength tr_marks tr_visited tr_size wh_places) H locs → lv_has ls 8 [(0, .ref (ad 6)), (1, .int x1), (2, .int x2), (5, .int x5), (6, .int x6)] → W p l e (headSpec wsX6_search rm_th_search).room s m args below meth c H locs 0 0 Z (F0 m 148 ls [.int y1, .int y0]) := by
    intro _ k62 hk62 tr_marks tr_visited tr_size x1 x2 x5 x6 y0 y1 h H locs ls hw hl
    unfold B_th_search_148 at h
    refine lv_isub hx hb dX6_search_148 ?_
    refine lv_topi (fun x7_149 ex7_149 => ?_)
    replace h := h x7_149 ex7_149
    refine lv_istore (lv' := [(7, .int x7_149), (0, .ref (ad 6)), (1, .int x1), (2, .int x2), (5, .int x5), (6, .int x6)]) hx hb dX6_search_149 hl (by decide) rfl (fun ls hl => ?_)
    refine lv_aload_n hx hb dX6_search_151 rfl (lv_at hl 1 rfl) ?_
    refine lv_iload hx hb dX6_search_152 (lv_at hl 4 rfl) ?_
    refine lv_iload hx hb dX6_search_154 (lv_at hl 5 rfl) ?_
    refine lv_aload_n hx hb dX6_search_156 rfl (lv_at hl 1 rfl) ?_
    refine lv_iload hx hb dX6_search_157 (lv_at hl 0 rfl) ?_
    refine cV_i (b := (ad 6)) (As := [.int x7_149]) (rest := [.int x6, .int x5, .ref (ad 6)]) ⟨hx, hb, hml, hown, hts⟩ hK hw (c_th_after x7_149 h) (cwV 1 hts (gd_RX6_118 hB) rfl rfl rfl (by decide +kernel) ⟨Nat.le_of_ble_eq_true rfl, Nat.le_of_ble_eq_true rfl⟩) (rC_th hK hw) hl.1 ⟨Nat.zero_le _, Nat.zero_le _⟩ rfl rfl (Nat.le_of_ble_eq_true rfl) dX6_search_159 (fun r159 _ H locs h hw => ?_)
    refine lv_iload_n hx hb dX6_search_162 rfl (lv_at hl 2 rfl) ?_
    refine cV_v (b := (ad 6)) (As := [.int x5, .int x6, .int r159, .int x1]) (rest := []) ⟨hx, hb, hml, hown, hts⟩ hK hw (c_th_goOn x5 x6 r159 x1 h) (cwV 4 hts (gd_RX6_121 hB) rfl rfl rfl (by decide +kernel) ⟨Nat.le_of_ble_eq_true rfl, Nat.le_of_ble_eq_true rfl⟩) (rC_th hK hw) hl.1 ⟨Nat.zero_le _, Nat.zero_le _⟩ rfl rfl (Nat.le_of_ble_eq_true rfl) dX6_search_163 (fun u163 H locs h hw => ?_)
    obtain ⟨tr_marks_163, tr_visited_163, tr_size_163⟩ := u163
    refine lv_iinc (v := (x5 + (1 : Int32))) (lv' := [(5, .int (x5 + (1 : Int32))), (7, .int x7_149), (0, .ref (ad 6)), (1, .int x1), (2, .int x2), (6, .int x6)]) hx hb dX6_search_166 hl (k := 4) rfl rfl (by decide) rfl (fun ls hl => ?_)
    refine lv_goto (tgt := 62) hx hb dX6_search_169 (by decide) ?_
    exact hk62 _ _ _ _ _ _ h _ _ _ hw (lv_sub hl [2, 3, 4, 0] rfl)
  have J126 : ∀ (_ : True) (k62 : (Nat → Int32) → (Nat → Int64) → Int32 → Int32 → Int32 → Int32 → Prop) (hk62 : ∀ (tr_marks : (Nat → Int32)) (tr_visited : (Nat → Int64)) (tr_size : Int32) (x1 : Int32) (x2 : Int32) (x5 : Int32) , k62 tr_marks tr_visited tr_size x1 x2 x5 → ∀ (H : Heap) (locs : List Loc) (ls : Array Slot), SW D A s.heap (wdC cI cL cZ ad ga_sightings ga_bestShifts ga_commonLength ga_allTimes gr_width gr_height gr_size gr_kinds gr_before gr_columns gr_rows gr_floorCells gr_clearCells gr_standCells gr_firstColumn gr_lastColumn pi_cells pi_facings pi_sets pi_size po_needs ro_cells ro_lengths ro_shifts si_sightLaw si_sightRange th_unseen th_goals th_commonLength tr_marks tr_visited tr_size wh_places) H locs → lv_has ls 8 [(0, .ref (ad 6)), (1, .int x1), (2, .int x2), (5, .int x5)] → W p l e (headSpec wsX6_search rm_th_search).room s m args below meth c H locs 0 0 Z (F0 m 62 ls [])) (tr_marks : (Nat → Int32)) (tr_visited : (Nat → Int64)) (tr_size : Int32) (x1 : Int32) (x2 : Int32) (x5 : Int32) (x6 : Int32) , B_th_search_126 gr_width gr_height gr_columns gr_rows gr_standCells th_unseen th_commonLength Q k62 tr_marks tr_visited tr_size x1 x2 x5 x6 → ∀ (H : Heap) (locs : List Loc) (ls : Array Slot), SW D A s.heap (wdC cI cL cZ ad ga_sightings ga_bestShifts ga_commonLength ga_allTimes gr_width gr_height gr_size gr_kinds gr_before gr_columns gr_rows gr_floorCells gr_clearCells gr_standCells gr_firstColumn gr_lastColumn pi_cells pi_facings pi_sets pi_size po_needs ro_cells ro_lengths ro_shifts si_sightLaw si_sightRange th_unseen th_goals th_commonLength tr_marks tr_visited tr_size wh_places) H locs → lv_has ls 8 [(0, .ref (ad 6)), (1, .int x1), (2, .int x2), (5, .int x5), (6, .int x6)] → W p l e (headSpec wsX6_search rm_th_search).room s m args below meth c H locs 0 0 Z (F0 m 126 ls []) := by
    intro _ k62 hk62 tr_marks tr_visited tr_size x1 x2 x5 x6 h H locs ls hw hl
    unfold B_th_search_126 at h
    refine lv_aload_n hx hb dX6_search_126 rfl (lv_at hl 0 rfl) ?_
    refine gC_th_trail hx hb hts hin hown hK hw lk30 dX6_search_127 ?_
    refine lv_iload hx hb dX6_search_130 (lv_at hl 3 rfl) ?_
    refine cV_i (b := (ad 8)) (As := [.int x5]) (rest := []) ⟨hx, hb, hml, hown, hts⟩ hK hw (c_tr_layerAt x5 h) (cwV 1 hts (gd_RX6_112 hB) rfl rfl rfl (by decide +kernel) ⟨Nat.le_of_ble_eq_true rfl, Nat.le_of_ble_eq_true rfl⟩) (rC_tr hK hw) hl.1 ⟨Nat.zero_le _, Nat.zero_le _⟩ rfl rfl (Nat.le_of_ble_eq_true rfl) dX6_search_132 (fun r132 _ H locs h hw => ?_)
    refine lv_iload hx hb dX6_search_135 (lv_at hl 4 rfl) ?_
    refine lv_if_eq (tgt := 147) hx hb dX6_search_137 (by decide) (fun hc => ?_) (fun hc => ?_)
    · replace h := h.1 hc
      refine lv_iconst (v := 0) hx hb dX6_search_147 (by decide) ?_
      exact J148 trivial k62 hk62 _ _ _ _ _ _ _ _ _ h _ _ _ hw (lv_sub hl [0, 1, 2, 3, 4] rfl)
    · replace h := h.2 hc
      refine lv_aload_n hx hb dX6_search_140 rfl (lv_at hl 0 rfl) ?_
      refine gC_th_commonLength hx hb hts hin hown hK hw lk40 dX6_search_141 ?_
      refine lv_goto (tgt := 148) hx hb dX6_search_144 (by decide) ?_
      exact J148 trivial k62 hk62 _ _ _ _ _ _ _ _ _ h _ _ _ hw (lv_sub hl [0, 1, 2, 3, 4] rfl)
  have J103 : ∀ (_ : True) (k62 : (Nat → Int32) → (Nat → Int64) → Int32 → Int32 → Int32 → Int32 → Prop) (hk62 : ∀ (tr_marks : (Nat → Int32)) (tr_visited : (Nat → Int64)) (tr_size : Int32) (x1 : Int32) (x2 : Int32) (x5 : Int32) , k62 tr_marks tr_visited tr_size x1 x2 x5 → ∀ (H : Heap) (locs : List Loc) (ls : Array Slot), SW D A s.heap (wdC cI cL cZ ad ga_sightings ga_bestShifts ga_commonLength ga_allTimes gr_width gr_height gr_size gr_kinds gr_before gr_columns gr_rows gr_floorCells gr_clearCells gr_standCells gr_firstColumn gr_lastColumn pi_cells pi_facings pi_sets pi_size po_needs ro_cells ro_lengths ro_shifts si_sightLaw si_sightRange th_unseen th_goals th_commonLength tr_marks tr_visited tr_size wh_places) H locs → lv_has ls 8 [(0, .ref (ad 6)), (1, .int x1), (2, .int x2), (5, .int x5)] → W p l e (headSpec wsX6_search rm_th_search).room s m args below meth c H locs 0 0 Z (F0 m 62 ls [])) (tr_marks : (Nat → Int32)) (tr_visited : (Nat → Int64)) (tr_size : Int32) (x1 : Int32) (x2 : Int32) (x5 : Int32) (y0 : Int32) , B_th_search_103 gr_width gr_height gr_columns gr_rows gr_standCells th_unseen th_commonLength Q k62 tr_marks tr_visited tr_size x1 x2 x5 y0 → ∀ (H : Heap) (locs : List Loc) (ls : Array Slot), SW D A s.heap (wdC cI cL cZ ad ga_sightings ga_bestShifts ga_commonLength ga_allTimes gr_width gr_height gr_size gr_kinds gr_before gr_columns gr_rows gr_floorCells gr_clearCells gr_standCells gr_firstColumn gr_lastColumn pi_cells pi_facings pi_sets pi_size po_needs ro_cells ro_lengths ro_shifts si_sightLaw si_sightRange th_unseen th_goals th_commonLength tr_marks tr_visited tr_size wh_places) H locs → lv_has ls 8 [(0, .ref (ad 6)), (1, .int x1), (2, .int x2), (5, .int x5)] → W p l e (headSpec wsX6_search rm_th_search).room s m args below meth c H locs 0 0 Z (F0 m 103 ls [.int y0]) := by
    intro _ k62 hk62 tr_marks tr_visited tr_size x1 x2 x5 y0 h H locs ls hw hl
    unfold B_th_search_103 at h
    refine lv_istore (lv' := [(6, .int y0), (0, .ref (ad 6)), (1, .int x1), (2, .int x2), (5, .int x5)]) hx hb dX6_search_103 hl (by decide) rfl (fun ls hl => ?_)
    refine lv_iload hx hb dX6_search_105 (lv_at hl 0 rfl) ?_
    refine lv_if_eq (tgt := 126) hx hb dX6_search_107 (by decide) (fun hc => ?_) (fun hc => ?_)
    · replace h := h.1 hc
      exact J126 trivial k62 hk62 _ _ _ _ _ _ _ h _ _ _ hw (lv_sub hl [1, 2, 3, 4, 0] rfl)
    · replace h := h.2 hc
      refine lv_aload_n hx hb dX6_search_110 rfl (lv_at hl 1 rfl) ?_
      refine gC_th_trail hx hb hts hin hown hK hw lk30 dX6_search_111 ?_
      refine lv_iload hx hb dX6_search_114 (lv_at hl 4 rfl) ?_
      refine cV_i (b := (ad 8)) (As := [.int x5]) (rest := []) ⟨hx, hb, hml, hown, hts⟩ hK hw (c_tr_cellAt x5 h) (cwV 1 hts (gd_RX6_115 hB) rfl rfl rfl (by decide +kernel) ⟨Nat.le_of_ble_eq_true rfl, Nat.le_of_ble_eq_true rfl⟩) (rC_tr hK hw) hl.1 ⟨Nat.zero_le _, Nat.zero_le _⟩ rfl rfl (Nat.le_of_ble_eq_true rfl) dX6_search_116 (fun r116 _ H locs h hw => ?_)
      refine lv_iload_n hx hb dX6_search_119 rfl (lv_at hl 3 rfl) ?_
      refine lv_icmp_ne (tgt := 126) hx hb dX6_search_120 (by decide) (fun hc => ?_) (fun hc => ?_)
      · replace h := h.2 hc
        exact J126 trivial k62 hk62 _ _ _ _ _ _ _ h _ _ _ hw (lv_sub hl [1, 2, 3, 4, 0] rfl)
      · replace h := h.1 hc
        refine lv_iload hx hb dX6_search_123 (lv_at hl 4 rfl) ?_
        rw [hZ]
        exact rt_i (tr_marks, tr_visited, tr_size) hx hb hr hlocks hw h dX6_search_125
  have J62 : ∀ (n : Nat) (tr_marks : (Nat → Int32)) (tr_visited : (Nat → Int64)) (tr_size : Int32) (x1 : Int32) (x2 : Int32) (x5 : Int32) , L_th_search_62 gr_width gr_height gr_columns gr_rows gr_standCells th_unseen th_commonLength Q n tr_marks tr_visited tr_size x1 x2 x5 → ∀ (H : Heap) (locs : List Loc) (ls : Array Slot), SW D A s.heap (wdC cI cL cZ ad ga_sightings ga_bestShifts ga_commonLength ga_allTimes gr_width gr_height gr_size gr_kinds gr_before gr_columns gr_rows gr_floorCells gr_clearCells gr_standCells gr_firstColumn gr_lastColumn pi_cells pi_facings pi_sets pi_size po_needs ro_cells ro_lengths ro_shifts si_sightLaw si_sightRange th_unseen th_goals th_commonLength tr_marks tr_visited tr_size wh_places) H locs → lv_has ls 8 [(0, .ref (ad 6)), (1, .int x1), (2, .int x2), (5, .int x5)] → W p l e (headSpec wsX6_search rm_th_search).room s m args below meth c H locs 0 0 Z (F0 m 62 ls []) := by
    intro  n
    induction n with
    | zero => intro tr_marks tr_visited tr_size x1 x2 x5 h; exact h.elim
    | succ n ih =>
    intro tr_marks tr_visited tr_size x1 x2 x5 h H locs ls hw hl
    unfold L_th_search_62 at h
    refine lv_iload hx hb dX6_search_62 (lv_at hl 3 rfl) ?_
    refine lv_sipush (v := 16384) hx hb dX6_search_64 (by decide) ?_
    refine lv_icmp_ge (tgt := 172) hx hb dX6_search_67 (by decide) (fun hc => ?_) (fun hc => ?_)
    · replace h := h.1 hc
      refine lv_iconst (v := (-1)) hx hb dX6_search_172 (by decide) ?_
      rw [hZ]
      exact rt_i (tr_marks, tr_visited, tr_size) hx hb hr hlocks hw h dX6_search_173
    · replace h := h.2 hc
      refine lv_iload hx hb dX6_search_70 (lv_at hl 3 rfl) ?_
      refine lv_aload_n hx hb dX6_search_72 rfl (lv_at hl 0 rfl) ?_
      refine gC_th_trail hx hb hts hin hown hK hw lk30 dX6_search_73 ?_
      refine cV_i (b := (ad 8)) (As := []) (rest := [.int x5]) ⟨hx, hb, hml, hown, hts⟩ hK hw (c_tr_size h) (cwV 0 hts (gd_RX6_109 hB) rfl rfl rfl (by decide +kernel) ⟨Nat.le_of_ble_eq_true rfl, Nat.le_of_ble_eq_true rfl⟩) (rC_tr hK hw) hl.1 ⟨Nat.zero_le _, Nat.zero_le _⟩ rfl rfl (Nat.le_of_ble_eq_true rfl) dX6_search_76 (fun r76 _ H locs h hw => ?_)
      refine lv_icmp_ge (tgt := 172) hx hb dX6_search_79 (by decide) (fun hc => ?_) (fun hc => ?_)
      · replace h := h.1 hc
        refine lv_iconst (v := (-1)) hx hb dX6_search_172 (by decide) ?_
        rw [hZ]
        exact rt_i (tr_marks, tr_visited, tr_size) hx hb hr hlocks hw h dX6_search_173
      · replace h := h.2 hc
        refine lv_aload_n hx hb dX6_search_82 rfl (lv_at hl 0 rfl) ?_
        refine gC_th_trail hx hb hts hin hown hK hw lk30 dX6_search_83 ?_
        refine lv_iload hx hb dX6_search_86 (lv_at hl 3 rfl) ?_
        refine cV_i (b := (ad 8)) (As := [.int x5]) (rest := []) ⟨hx, hb, hml, hown, hts⟩ hK hw (c_tr_layerAt x5 h) (cwV 1 hts (gd_RX6_112 hB) rfl rfl rfl (by decide +kernel) ⟨Nat.le_of_ble_eq_true rfl, Nat.le_of_ble_eq_true rfl⟩) (rC_tr hK hw) hl.1 ⟨Nat.zero_le _, Nat.zero_le _⟩ rfl rfl (Nat.le_of_ble_eq_true rfl) dX6_search_88 (fun r88 _ H locs h hw => ?_)
        refine lv_aload_n hx hb dX6_search_91 rfl (lv_at hl 0 rfl) ?_
        refine gC_th_commonLength hx hb hts hin hown hK hw lk40 dX6_search_92 ?_
        refine lv_icmp_lt (tgt := 102) hx hb dX6_search_95 (by decide) (fun hc => ?_) (fun hc => ?_)
        · replace h := h.1 hc
          refine lv_iconst (v := 0) hx hb dX6_search_102 (by decide) ?_
          exact J103 trivial (L_th_search_62 gr_width gr_height gr_columns gr_rows gr_standCells th_unseen th_commonLength Q n) ih _ _ _ _ _ _ _ h _ _ _ hw (lv_sub hl [0, 1, 2, 3] rfl)
        · replace h := h.2 hc
          refine lv_iconst (v := 1) hx hb dX6_search_98 (by decide) ?_
          refine lv_goto (tgt := 103) hx hb dX6_search_99 (by decide) ?_
          exact J103 trivial (L_th_search_62 gr_width gr_height gr_columns gr_rows gr_standCells th_unseen th_commonLength Q n) ih _ _ _ _ _ _ _ h _ _ _ hw (lv_sub hl [0, 1, 2, 3] rfl)
  have J48 : ∀ (_ : True) (tr_marks : (Nat → Int32)) (tr_visited : (Nat → Int64)) (tr_size : Int32) (x1 : Int32) (x2 : Int32) (x4 : Int32) (y2 : Int32) , B_th_search_48 gr_width gr_height gr_columns gr_rows gr_standCells th_unseen th_commonLength Q tr_marks tr_visited tr_size x1 x2 x4 y2 → ∀ (H : Heap) (locs : List Loc) (ls : Array Slot), SW D A s.heap (wdC cI cL cZ ad ga_sightings ga_bestShifts ga_commonLength ga_allTimes gr_width gr_height gr_size gr_kinds gr_before gr_columns gr_rows gr_floorCells gr_clearCells gr_standCells gr_firstColumn gr_lastColumn pi_cells pi_facings pi_sets pi_size po_needs ro_cells ro_lengths ro_shifts si_sightLaw si_sightRange th_unseen th_goals th_commonLength tr_marks tr_visited tr_size wh_places) H locs → lv_has ls 8 [(0, .ref (ad 6)), (1, .int x1), (2, .int x2), (4, .int x4)] → W p l e (headSpec wsX6_search rm_th_search).room s m args below meth c H locs 0 0 Z (F0 m 48 ls [.int y2, .ref (ad 6), .ref (ad 8)]) := by
    intro _  tr_marks tr_visited tr_size x1 x2 x4 y2 h H locs ls hw hl
    unfold B_th_search_48 at h
    refine lv_iload hx hb dX6_search_48 (lv_at hl 3 rfl) ?_
    refine cV_i (b := (ad 6)) (As := [.int y2, .int x4]) (rest := [.ref (ad 8)]) ⟨hx, hb, hml, hown, hts⟩ hK hw (c_th_layerFor y2 x4 h) (cwV 2 hts (gd_RX6_101 hB) rfl rfl rfl (by decide +kernel) ⟨Nat.le_of_ble_eq_true rfl, Nat.le_of_ble_eq_true rfl⟩) (rC_th hK hw) hl.1 ⟨Nat.zero_le _, Nat.zero_le _⟩ rfl rfl (Nat.le_of_ble_eq_true rfl) dX6_search_50 (fun r50 _ H locs h hw => ?_)
    refine lv_iload_n hx hb dX6_search_53 rfl (lv_at hl 2 rfl) ?_
    refine lv_iconst (v := 4) hx hb dX6_search_54 (by decide) ?_
    refine lv_iconst (v := 0) hx hb dX6_search_55 (by decide) ?_
    refine cV_v (b := (ad 8)) (As := [.int r50, .int x2, .int (4 : Int32), .int (0 : Int32)]) (rest := []) ⟨hx, hb, hml, hown, hts⟩ hK hw (c_tr_visit r50 x2 (4 : Int32) (0 : Int32) h) (cwV 4 hts (gd_RX6_105 hB) rfl rfl rfl (by decide +kernel) ⟨Nat.le_of_ble_eq_true rfl, Nat.le_of_ble_eq_true rfl⟩) (rC_tr hK hw) hl.1 ⟨Nat.zero_le _, Nat.zero_le _⟩ rfl rfl (Nat.le_of_ble_eq_true rfl) dX6_search_56 (fun u56 H locs h hw => ?_)
    obtain ⟨tr_marks_56, tr_visited_56, tr_size_56⟩ := u56
    refine lv_iconst (v := 0) hx hb dX6_search_59 (by decide) ?_
    refine lv_istore (lv' := [(5, .int (0 : Int32)), (0, .ref (ad 6)), (1, .int x1), (2, .int x2), (4, .int x4)]) hx hb dX6_search_60 hl (by decide) rfl (fun ls hl => ?_)
    obtain ⟨n62, h⟩ := h
    exact J62  n62 _ _ _ _ _ _ h _ _ _ hw (lv_sub hl [1, 2, 3, 0] rfl)
  unfold P_th_search at h
  have he : entryFrame m args 8 = entryFrame m ([.ref (ad 6), .int x1, .int x2, .int x3] : List Value).toArray 8 := by rw [hav]
  refine W.eq he ?_
  have hl := lv_entry ([.ref (ad 6), .int x1, .int x2, .int x3]) (n := 8) (Nat.le_of_ble_eq_true rfl)
  rw [lg_entry_eq]
  generalize (lg_sl ([.ref (ad 6), .int x1, .int x2, .int x3]) ++ List.replicate (8 - (lg_sl ([.ref (ad 6), .int x1, .int x2, .int x3])).length) Slot.unset).toArray = ls at hl ⊢
  have hl : lv_has ls 8 [(0, .ref (ad 6)), (1, .int x1), (2, .int x2), (3, .int x3)] := hl
  refine lv_aload_n hx hb dX6_search_0 rfl (lv_at hl 0 rfl) ?_
  refine gC_th_trail hx hb hts hin hown hK hw lk30 dX6_search_1 ?_
  refine cV_v (b := (ad 8)) (As := []) (rest := []) ⟨hx, hb, hml, hown, hts⟩ hK hw (c_tr_clear h) (cwV 0 hts (gd_RX6_91 hB) rfl rfl rfl (by decide +kernel) ⟨Nat.le_of_ble_eq_true rfl, Nat.le_of_ble_eq_true rfl⟩) (rC_tr hK hw) hl.1 ⟨Nat.zero_le _, Nat.zero_le _⟩ rfl rfl (Nat.le_of_ble_eq_true rfl) dX6_search_4 (fun u4 H locs h hw => ?_)
  obtain ⟨tr_visited_4, tr_size_4⟩ := u4
  refine lv_iload_n hx hb dX6_search_7 rfl (lv_at hl 3 rfl) ?_
  refine lv_iconst (v := 1) hx hb dX6_search_8 (by decide) ?_
  refine lv_aload_n hx hb dX6_search_9 rfl (lv_at hl 0 rfl) ?_
  refine gC_th_commonLength hx hb hts hin hown hK hw lk40 dX6_search_10 ?_
  refine va_mmax hx hb (by rw [hml]; exact hl.1.symm) hown (hts _ (hB _ m_817)) (hts _ (hB _ m_441)) (hts _ (hB _ m_71)) (hts _ (hB _ m_442)) (Nat.le_of_ble_eq_true rfl) (Nat.le_of_ble_eq_true rfl) (Nat.zero_le _) (Nat.zero_le _) dX6_search_13 ?_
  refine lv_irem hx hb dX6_search_16 h.1 ?_
  replace h := h.2
  refine lv_topi (fun x4_17 ex4_17 => ?_)
  replace h := h x4_17 ex4_17
  refine lv_istore (lv' := [(4, .int x4_17), (0, .ref (ad 6)), (1, .int x1), (2, .int x2), (3, .int x3)]) hx hb dX6_search_17 hl (by decide) rfl (fun ls hl => ?_)
  refine lv_aload_n hx hb dX6_search_19 rfl (lv_at hl 1 rfl) ?_
  refine gC_th_unseen hx hb hts hin hown hK hw lk9 dX6_search_20 ?_
  refine lv_iload hx hb dX6_search_23 (lv_at hl 0 rfl) ?_
  refine aC_th_unseen hx hb hK hw h.1 dX6_search_25 ?_
  replace h := h.2
  refine lv_iload_n hx hb dX6_search_26 rfl (lv_at hl 3 rfl) ?_
  refine cSN_i (host := "WatchedHalls") (As := [.long (th_unseen x4_17.toNatClampNeg), .int x2]) (rest := []) ⟨hx, hb, hml, hown, hts⟩ hK hw (c_wh_holds (th_unseen x4_17.toNatClampNeg) x2 h) ⟨va_cnB 2 hts (gw_X9_holds hB) rfl rfl rfl hK.2.1.2.2.2.2.2.2.2.2 (hts _ (hB _ m_59)) (by decide +kernel) ⟨Nat.le_of_ble_eq_true rfl, Nat.le_of_ble_eq_true rfl⟩, hts _ (hB _ m_394), trivial⟩ hl.1 ⟨Nat.zero_le _, Nat.zero_le _⟩ rfl rfl (Nat.le_of_ble_eq_true rfl) dX6_search_27 (fun r27 _ H locs h hw => ?_)
  refine lv_if_eq (tgt := 59) hx hb dX6_search_30 (by decide) (fun hc => ?_) (fun hc => ?_)
  · replace h := h.1 hc
    refine lv_iconst (v := 0) hx hb dX6_search_59 (by decide) ?_
    refine lv_istore (lv' := [(5, .int (0 : Int32)), (4, .int x4_17), (0, .ref (ad 6)), (1, .int x1), (2, .int x2), (3, .int x3)]) hx hb dX6_search_60 hl (by decide) rfl (fun ls hl => ?_)
    obtain ⟨n62, h⟩ := h
    exact J62  n62 _ _ _ _ _ _ h _ _ _ hw (lv_sub hl [2, 3, 4, 0] rfl)
  · replace h := h.2 hc
    refine lv_aload_n hx hb dX6_search_33 rfl (lv_at hl 1 rfl) ?_
    refine gC_th_trail hx hb hts hin hown hK hw lk30 dX6_search_34 ?_
    refine lv_aload_n hx hb dX6_search_37 rfl (lv_at hl 1 rfl) ?_
    refine lv_iload_n hx hb dX6_search_38 rfl (lv_at hl 3 rfl) ?_
    refine lv_iload_n hx hb dX6_search_39 rfl (lv_at hl 2 rfl) ?_
    refine lv_icmp_ne (tgt := 47) hx hb dX6_search_40 (by decide) (fun hc => ?_) (fun hc => ?_)
    · replace h := h.2 hc
      refine lv_iconst (v := 0) hx hb dX6_search_47 (by decide) ?_
      exact J48 trivial  _ _ _ _ _ _ _ h _ _ _ hw (lv_sub hl [1, 2, 3, 0] rfl)
    · replace h := h.1 hc
      refine lv_iconst (v := 1) hx hb dX6_search_43 (by decide) ?_
      refine lv_goto (tgt := 48) hx hb dX6_search_44 (by decide) ?_
      exact J48 trivial  _ _ _ _ _ _ _ h _ _ _ hw (lv_sub hl [1, 2, 3, 0] rfl)
