def rm_mo_mayTour : Room := { frames := 2, cells := 0, slots := 0, locals := 46 }
set_option maxHeartbeats 4000000 in
set_option maxRecDepth 100000 in
theorem c_mo_mayTour {l : Launch} {D : va_G} {cI cL cZ : ClassId} {mx my : Nat} {A : Nat → Prop} {ad : Nat → Nat} {mo_wide mo_tall mo_law mo_range mo_pictures mo_postMany : Int32} {mo_kind mo_queue mo_far mo_pictureCell mo_facing mo_sights mo_fewest mo_posts mo_left mo_roundMany mo_round mo_shift mo_thief mo_danger mo_old : Nat → Int32} (x1 : Int32) {Q : Int32 → Prop} (h : P_mo_mayTour mo_wide mo_tall mo_kind x1 Q) : Met l yX10_mayTour wsX10_mayTour rm_mo_mayTour (va_Pc [.ref (ad 0), .int x1] (WC D cI cL cZ mx my A (wdM cI cL cZ ad mo_wide mo_tall mo_kind mo_law mo_range mo_queue mo_far mo_pictures mo_pictureCell mo_facing mo_sights mo_fewest mo_posts mo_postMany mo_left mo_roundMany mo_round mo_shift mo_thief mo_danger mo_old))) (va_Qi (fun (r : Int32) (u : Unit) => Q r) (fun (u : Unit) t => PW D A (wdM cI cL cZ ad mo_wide mo_tall mo_kind mo_law mo_range mo_queue mo_far mo_pictures mo_pictureCell mo_facing mo_sights mo_fewest mo_posts mo_postMany mo_left mo_roundMany mo_round mo_shift mo_thief mo_danger mo_old) t.heap) A) 0 0 A := by
  refine Met.ofW (cc := cX10_mayTour) (maxL := 2) (ret := (some .int)) (by decide) rfl ?_
  intro p e s m args below meth c s₁ B hml hv
  obtain ⟨hav, hP0, hD0, hK⟩ := hv
  have hx := B.exec
  have hb := B.bytes
  have hr := B.returns
  have hts := atoms_spec (ws := wsX10_mayTour) B.pre
  have hown : s.vm.findClass RX10 = some m.cls := findClass_of_methodNamed B.named
  have hlocks := B.notSynchronized
  have hB : ∀ w ∈ BIG, w ∈ wsX10_mayTour := fun _ h => List.mem_cons_of_mem _ h
  obtain ⟨Z, hZ⟩ : ∃ Z : State → Prop, Z = MQ below (va_Qi (fun (r : Int32) (u : Unit) => Q r) (fun (u : Unit) t => PW D A (wdM cI cL cZ ad mo_wide mo_tall mo_kind mo_law mo_range mo_queue mo_far mo_pictures mo_pictureCell mo_facing mo_sights mo_fewest mo_posts mo_postMany mo_left mo_roundMany mo_round mo_shift mo_thief mo_danger mo_old) t.heap) A) args s 0 0 A := ⟨_, rfl⟩
  rw [← hZ]
  have hw : SW D A s.heap (wdM cI cL cZ ad mo_wide mo_tall mo_kind mo_law mo_range mo_queue mo_far mo_pictures mo_pictureCell mo_facing mo_sights mo_fewest mo_posts mo_postMany mo_left mo_roundMany mo_round mo_shift mo_thief mo_danger mo_old) s.heap [] := ⟨hP0, hD0, va_S.rf⟩
  clear hP0 hD0 B
  unfold P_mo_mayTour at h
  have he : entryFrame m args 2 = entryFrame m ([.ref (ad 0), .int x1] : List Value).toArray 2 := by rw [hav]
  refine W.eq he ?_
  have hl := lv_entry ([.ref (ad 0), .int x1]) (n := 2) (Nat.le_of_ble_eq_true rfl)
  rw [lg_entry_eq]
  generalize (lg_sl ([.ref (ad 0), .int x1]) ++ List.replicate (2 - (lg_sl ([.ref (ad 0), .int x1])).length) Slot.unset).toArray = ls at hl ⊢
  have hl : lv_has ls 2 [(0, .ref (ad 0)), (1, .int x1)] := hl
  refine lv_aload_n hx hb dX10_mayTour_0 rfl (lv_at hl 0 rfl) ?_
  refine lv_iload_n hx hb dX10_mayTour_1 rfl (lv_at hl 1 rfl) ?_
  refine cV_i (b := (ad 0)) (As := [.int x1]) (rest := []) ⟨hx, hb, hml, hown, hts⟩ hK hw (c_mo_isCell x1 h) (cwV 1 hts (gd_RX10_85 hB) rfl rfl rfl (by decide +kernel) ⟨Nat.le_of_ble_eq_true rfl, Nat.le_of_ble_eq_true rfl⟩) (rM_mo hK hw) hl.1 ⟨Nat.zero_le _, Nat.zero_le _⟩ rfl rfl (Nat.le_of_ble_eq_true rfl) dX10_mayTour_2 (fun r2 _ H locs h hw => ?_)
  refine lv_if_ne (tgt := 12) hx hb dX10_mayTour_5 (by decide) (fun hc => ?_) (fun hc => ?_)
  · replace h := h.2 hc
    refine lv_aload_n hx hb dX10_mayTour_12 rfl (lv_at hl 0 rfl) ?_
    refine lv_iload_n hx hb dX10_mayTour_13 rfl (lv_at hl 1 rfl) ?_
    refine cV_i (b := (ad 0)) (As := [.int x1]) (rest := []) ⟨hx, hb, hml, hown, hts⟩ hK hw (c_mo_stands x1 h) (cwV 1 hts (gd_RX10_91 hB) rfl rfl rfl (by decide +kernel) ⟨Nat.le_of_ble_eq_true rfl, Nat.le_of_ble_eq_true rfl⟩) (rM_mo hK hw) hl.1 ⟨Nat.zero_le _, Nat.zero_le _⟩ rfl rfl (Nat.le_of_ble_eq_true rfl) dX10_mayTour_14 (fun r14 _ H locs h hw => ?_)
    refine lv_if_eq (tgt := 24) hx hb dX10_mayTour_17 (by decide) (fun hc => ?_) (fun hc => ?_)
    · replace h := h.1 hc
      refine lv_bipush (v := (-3)) hx hb dX10_mayTour_24 (by decide) ?_
      rw [hZ]
      exact rt_i () hx hb hr hlocks hw h dX10_mayTour_26
    · replace h := h.2 hc
      refine lv_iconst (v := 0) hx hb dX10_mayTour_20 (by decide) ?_
      refine lv_goto (tgt := 26) hx hb dX10_mayTour_21 (by decide) ?_
      rw [hZ]
      exact rt_i () hx hb hr hlocks hw h dX10_mayTour_26
  · replace h := h.1 hc
    refine lv_iconst (v := (-1)) hx hb dX10_mayTour_8 (by decide) ?_
    refine lv_goto (tgt := 26) hx hb dX10_mayTour_9 (by decide) ?_
    rw [hZ]
    exact rt_i () hx hb hr hlocks hw h dX10_mayTour_26
def rm_mo_tour : Room := { frames := 7, cells := 0, slots := 0, locals := 178 }
set_option maxHeartbeats 4000000 in
set_option maxRecDepth 100000 in
theorem c_mo_tour {l : Launch} {D : va_G} {cI cL cZ : ClassId} {mx my : Nat} {A : Nat → Prop} {ad : Nat → Nat} {mo_wide mo_tall mo_law mo_range mo_pictures mo_postMany : Int32} {mo_kind mo_queue mo_far mo_pictureCell mo_facing mo_sights mo_fewest mo_posts mo_left mo_roundMany mo_round mo_shift mo_thief mo_danger mo_old : Nat → Int32} (x1 : Int32) {Q : Int32 → (Nat → Int32) → (Nat → Int32) → (Nat → Int32) → Prop} (h : P_mo_tour mo_wide mo_tall mo_kind mo_law mo_range mo_queue mo_pictures mo_pictureCell mo_facing mo_sights mo_left x1 Q) : Met l yX10_tour wsX10_tour rm_mo_tour (va_Pc [.ref (ad 0), .int x1] (WC D cI cL cZ mx my A (wdM cI cL cZ ad mo_wide mo_tall mo_kind mo_law mo_range mo_queue mo_far mo_pictures mo_pictureCell mo_facing mo_sights mo_fewest mo_posts mo_postMany mo_left mo_roundMany mo_round mo_shift mo_thief mo_danger mo_old))) (va_Qi (fun (r : Int32) (u : (Nat → Int32) × (Nat → Int32) × (Nat → Int32)) => Q r u.1 u.2.1 u.2.2) (fun (u : (Nat → Int32) × (Nat → Int32) × (Nat → Int32)) t => PW D A (wdM cI cL cZ ad mo_wide mo_tall mo_kind mo_law mo_range u.1 mo_far mo_pictures mo_pictureCell mo_facing u.2.1 mo_fewest mo_posts mo_postMany u.2.2 mo_roundMany mo_round mo_shift mo_thief mo_danger mo_old) t.heap) A) 0 0 A := by
  refine Met.ofW (cc := cX10_tour) (maxL := 3) (ret := (some .int)) (by decide) rfl ?_
  intro p e s m args below meth c s₁ B hml hv
  obtain ⟨hav, hP0, hD0, hK⟩ := hv
  have hx := B.exec
  have hb := B.bytes
  have hr := B.returns
  have hts := atoms_spec (ws := wsX10_tour) B.pre
  have hown : s.vm.findClass RX10 = some m.cls := findClass_of_methodNamed B.named
  have hlocks := B.notSynchronized
  have hB : ∀ w ∈ BIG, w ∈ wsX10_tour := fun _ h => List.mem_cons_of_mem _ h
  have hin : ∀ w ∈ wsX100, w ∈ wsX10_tour := fun w h => hB w (inB_X10 w h)
  have lk33 := hts _ (hB _ m_941)
  have lk42 := hts _ (hB _ m_945)
  obtain ⟨Z, hZ⟩ : ∃ Z : State → Prop, Z = MQ below (va_Qi (fun (r : Int32) (u : (Nat → Int32) × (Nat → Int32) × (Nat → Int32)) => Q r u.1 u.2.1 u.2.2) (fun (u : (Nat → Int32) × (Nat → Int32) × (Nat → Int32)) t => PW D A (wdM cI cL cZ ad mo_wide mo_tall mo_kind mo_law mo_range u.1 mo_far mo_pictures mo_pictureCell mo_facing u.2.1 mo_fewest mo_posts mo_postMany u.2.2 mo_roundMany mo_round mo_shift mo_thief mo_danger mo_old) t.heap) A) args s 0 0 A := ⟨_, rfl⟩
  rw [← hZ]
  have hw : SW D A s.heap (wdM cI cL cZ ad mo_wide mo_tall mo_kind mo_law mo_range mo_queue mo_far mo_pictures mo_pictureCell mo_facing mo_sights mo_fewest mo_posts mo_postMany mo_left mo_roundMany mo_round mo_shift mo_thief mo_danger mo_old) s.heap [] := ⟨hP0, hD0, va_S.rf⟩
  clear hP0 hD0 B
  unfold P_mo_tour at h
  have he : entryFrame m args 3 = entryFrame m ([.ref (ad 0), .int x1] : List Value).toArray 3 := by rw [hav]
  refine W.eq he ?_
  have hl := lv_entry ([.ref (ad 0), .int x1]) (n := 3) (Nat.le_of_ble_eq_true rfl)
  rw [lg_entry_eq]
  generalize (lg_sl ([.ref (ad 0), .int x1]) ++ List.replicate (3 - (lg_sl ([.ref (ad 0), .int x1])).length) Slot.unset).toArray = ls at hl ⊢
  have hl : lv_has ls 3 [(0, .ref (ad 0)), (1, .int x1)] := hl
  refine lv_aload_n hx hb dX10_tour_0 rfl (lv_at hl 0 rfl) ?_
  refine lv_iload_n hx hb dX10_tour_1 rfl (lv_at hl 1 rfl) ?_
  refine cV_i (b := (ad 0)) (As := [.int x1]) (rest := []) ⟨hx, hb, hml, hown, hts⟩ hK hw (c_mo_mayTour x1 h) (cwV 1 hts (gd_RX10_144 hB) rfl rfl rfl (by decide +kernel) ⟨Nat.le_of_ble_eq_true rfl, Nat.le_of_ble_eq_true rfl⟩) (rM_mo hK hw) hl.1 ⟨Nat.zero_le _, Nat.zero_le _⟩ rfl rfl (Nat.le_of_ble_eq_true rfl) dX10_tour_2 (fun r2 _ H locs h hw => ?_)
  refine lv_istore_n (lv' := [(2, .int r2), (0, .ref (ad 0)), (1, .int x1)]) hx hb dX10_tour_5 rfl hl (by decide) rfl (fun ls hl => ?_)
  refine lv_iload_n hx hb dX10_tour_6 rfl (lv_at hl 0 rfl) ?_
  refine lv_if_ge (tgt := 12) hx hb dX10_tour_7 (by decide) (fun hc => ?_) (fun hc => ?_)
  · replace h := h.1 hc
    refine lv_aload_n hx hb dX10_tour_12 rfl (lv_at hl 1 rfl) ?_
    refine lv_iload_n hx hb dX10_tour_13 rfl (lv_at hl 2 rfl) ?_
    refine cV_v (b := (ad 0)) (As := [.int x1]) (rest := []) ⟨hx, hb, hml, hown, hts⟩ hK hw (c_mo_layTour x1 h) (cwV 1 hts (gd_RX10_147 hB) rfl rfl rfl (by decide +kernel) ⟨Nat.le_of_ble_eq_true rfl, Nat.le_of_ble_eq_true rfl⟩) (rM_mo hK hw) hl.1 ⟨Nat.zero_le _, Nat.zero_le _⟩ rfl rfl (Nat.le_of_ble_eq_true rfl) dX10_tour_14 (fun u14 H locs h hw => ?_)
    obtain ⟨mo_queue_14, mo_sights_14, mo_left_14⟩ := u14
    refine lv_aload_n hx hb dX10_tour_17 rfl (lv_at hl 1 rfl) ?_
    refine gM_mo_left hx hb hts hin hown hK hw lk42 dX10_tour_18 ?_
    refine lv_sipush (v := 256) hx hb dX10_tour_21 (by decide) ?_
    refine lv_iload_n hx hb dX10_tour_24 rfl (lv_at hl 2 rfl) ?_
    refine lv_imul hx hb dX10_tour_25 ?_
    refine lv_aload_n hx hb dX10_tour_26 rfl (lv_at hl 1 rfl) ?_
    refine gM_mo_sights hx hb hts hin hown hK hw lk33 dX10_tour_27 ?_
    refine lv_iload_n hx hb dX10_tour_30 rfl (lv_at hl 2 rfl) ?_
    refine aM_mo_sights hx hb hK hw h.1 dX10_tour_31 ?_
    replace h := h.2
    refine lv_iadd hx hb dX10_tour_32 ?_
    refine aM_mo_left hx hb hK hw h.1 dX10_tour_33 ?_
    replace h := h.2
    rw [hZ]
    exact rt_i (mo_queue_14, mo_sights_14, mo_left_14) hx hb hr hlocks hw h dX10_tour_34
  · replace h := h.2 hc
    refine lv_iload_n hx hb dX10_tour_10 rfl (lv_at hl 0 rfl) ?_
    rw [hZ]
    exact rt_i (mo_queue, mo_sights, mo_left) hx hb hr hlocks hw h dX10_tour_11
def rm_mo_isNearer : Room := { frames := 2, cells := 0, slots := 0, locals := 50 }
set_option maxHeartbeats 4000000 in
set_option maxRecDepth 100000 in
theorem c_mo_isNearer {l : Launch} {D : va_G} {cI cL cZ : ClassId} {mx my : Nat} {A : Nat → Prop} {ad : Nat → Nat} {mo_wide mo_tall mo_law mo_range mo_pictures mo_postMany : Int32} {mo_kind mo_queue mo_far mo_pictureCell mo_facing mo_sights mo_fewest mo_posts mo_left mo_roundMany mo_round mo_shift mo_thief mo_danger mo_old : Nat → Int32} (x1 : Int32) (x2 : Int32) {Q : Int32 → Prop} (h : P_mo_isNearer mo_wide mo_tall mo_kind mo_sights mo_left x1 x2 Q) : Met l yX10_isNearer wsX10_isNearer rm_mo_isNearer (va_Pc [.ref (ad 0), .int x1, .int x2] (WC D cI cL cZ mx my A (wdM cI cL cZ ad mo_wide mo_tall mo_kind mo_law mo_range mo_queue mo_far mo_pictures mo_pictureCell mo_facing mo_sights mo_fewest mo_posts mo_postMany mo_left mo_roundMany mo_round mo_shift mo_thief mo_danger mo_old))) (va_Qi (fun (r : Int32) (u : Unit) => Q r) (fun (u : Unit) t => PW D A (wdM cI cL cZ ad mo_wide mo_tall mo_kind mo_law mo_range mo_queue mo_far mo_pictures mo_pictureCell mo_facing mo_sights mo_fewest mo_posts mo_postMany mo_left mo_roundMany mo_round mo_shift mo_thief mo_danger mo_old) t.heap) A) 0 0 A := by
  refine Met.ofW (cc := cX10_isNearer) (maxL := 4) (ret := (some .boolean)) (by decide) rfl ?_
  intro p e s m args below meth c s₁ B hml hv
  obtain ⟨hav, hP0, hD0, hK⟩ := hv
  have hx := B.exec
  have hb := B.bytes
  have hr := B.returns
  have hts := atoms_spec (ws := wsX10_isNearer) B.pre
  have hown : s.vm.findClass RX10 = some m.cls := findClass_of_methodNamed B.named
  have hlocks := B.notSynchronized
  have hB : ∀ w ∈ BIG, w ∈ wsX10_isNearer := fun _ h => List.mem_cons_of_mem _ h
  have hin : ∀ w ∈ wsX100, w ∈ wsX10_isNearer := fun w h => hB w (inB_X10 w h)
  have lk33 := hts _ (hB _ m_941)
  have lk42 := hts _ (hB _ m_945)
  obtain ⟨Z, hZ⟩ : ∃ Z : State → Prop, Z = MQ below (va_Qi (fun (r : Int32) (u : Unit) => Q r) (fun (u : Unit) t => PW D A (wdM cI cL cZ ad mo_wide mo_tall mo_kind mo_law mo_range mo_queue mo_far mo_pictures mo_pictureCell mo_facing mo_sights mo_fewest mo_posts mo_postMany mo_left mo_roundMany mo_round mo_shift mo_thief mo_danger mo_old) t.heap) A) args s 0 0 A := ⟨_, rfl⟩
  rw [← hZ]
  have hw : SW D A s.heap (wdM cI cL cZ ad mo_wide mo_tall mo_kind mo_law mo_range mo_queue mo_far mo_pictures mo_pictureCell mo_facing mo_sights mo_fewest mo_posts mo_postMany mo_left mo_roundMany mo_round mo_shift mo_thief mo_danger mo_old) s.heap [] := ⟨hP0, hD0, va_S.rf⟩
  clear hP0 hD0 B
  unfold P_mo_isNearer at h
  have he : entryFrame m args 4 = entryFrame m ([.ref (ad 0), .int x1, .int x2] : List Value).toArray 4 := by rw [hav]
  refine W.eq he ?_
  have hl := lv_entry ([.ref (ad 0), .int x1, .int x2]) (n := 4) (Nat.le_of_ble_eq_true rfl)
  rw [lg_entry_eq]
  generalize (lg_sl ([.ref (ad 0), .int x1, .int x2]) ++ List.replicate (4 - (lg_sl ([.ref (ad 0), .int x1, .int x2])).length) Slot.unset).toArray = ls at hl ⊢
  have hl : lv_has ls 4 [(0, .ref (ad 0)), (1, .int x1), (2, .int x2)] := hl
  refine lv_aload_n hx hb dX10_isNearer_0 rfl (lv_at hl 0 rfl) ?_
  refine lv_iload_n hx hb dX10_isNearer_1 rfl (lv_at hl 1 rfl) ?_
  refine lv_sipush (v := 256) hx hb dX10_isNearer_2 (by decide) ?_
  refine lv_idiv hx hb dX10_isNearer_5 h.1 ?_
  replace h := h.2
  refine lv_iload_n hx hb dX10_isNearer_6 rfl (lv_at hl 2 rfl) ?_
  refine cV_i (b := (ad 0)) (As := [.int (x1 / (256 : Int32)), .int x2]) (rest := []) ⟨hx, hb, hml, hown, hts⟩ hK hw (c_mo_beside (x1 / (256 : Int32)) x2 h) (cwV 2 hts (gd_RX10_94 hB) rfl rfl rfl (by decide +kernel) ⟨Nat.le_of_ble_eq_true rfl, Nat.le_of_ble_eq_true rfl⟩) (rM_mo hK hw) hl.1 ⟨Nat.zero_le _, Nat.zero_le _⟩ rfl rfl (Nat.le_of_ble_eq_true rfl) dX10_isNearer_7 (fun r7 _ H locs h hw => ?_)
  refine lv_istore_n (lv' := [(3, .int r7), (0, .ref (ad 0)), (1, .int x1), (2, .int x2)]) hx hb dX10_isNearer_10 rfl hl (by decide) rfl (fun ls hl => ?_)
  refine lv_iload_n hx hb dX10_isNearer_11 rfl (lv_at hl 0 rfl) ?_
  refine lv_bipush (v := (-9)) hx hb dX10_isNearer_12 (by decide) ?_
  refine lv_icmp_eq (tgt := 55) hx hb dX10_isNearer_14 (by decide) (fun hc => ?_) (fun hc => ?_)
  · replace h := h.1 hc
    refine lv_iconst (v := 0) hx hb dX10_isNearer_55 (by decide) ?_
    rw [hZ]
    exact rt_z () hx hb hr hlocks hw (by decide) h dX10_isNearer_56
  · replace h := h.2 hc
    refine lv_aload_n hx hb dX10_isNearer_17 rfl (lv_at hl 1 rfl) ?_
    refine gM_mo_left hx hb hts hin hown hK hw lk42 dX10_isNearer_18 ?_
    refine lv_sipush (v := 256) hx hb dX10_isNearer_21 (by decide) ?_
    refine lv_iload_n hx hb dX10_isNearer_24 rfl (lv_at hl 0 rfl) ?_
    refine lv_imul hx hb dX10_isNearer_25 ?_
    refine lv_iload_n hx hb dX10_isNearer_26 rfl (lv_at hl 2 rfl) ?_
    refine lv_sipush (v := 256) hx hb dX10_isNearer_27 (by decide) ?_
    refine lv_irem hx hb dX10_isNearer_30 h.1 ?_
    replace h := h.2
    refine lv_aload_n hx hb dX10_isNearer_31 rfl (lv_at hl 1 rfl) ?_
    refine gM_mo_sights hx hb hts hin hown hK hw lk33 dX10_isNearer_32 ?_
    refine lv_iload_n hx hb dX10_isNearer_35 rfl (lv_at hl 0 rfl) ?_
    refine aM_mo_sights hx hb hK hw h.1 dX10_isNearer_36 ?_
    replace h := h.2
    refine lv_ior hx hb dX10_isNearer_37 ?_
    refine lv_iadd hx hb dX10_isNearer_38 ?_
    refine aM_mo_left hx hb hK hw h.1 dX10_isNearer_39 ?_
    replace h := h.2
    refine lv_aload_n hx hb dX10_isNearer_40 rfl (lv_at hl 1 rfl) ?_
    refine gM_mo_left hx hb hts hin hown hK hw lk42 dX10_isNearer_41 ?_
    refine lv_iload_n hx hb dX10_isNearer_44 rfl (lv_at hl 2 rfl) ?_
    refine aM_mo_left hx hb hK hw h.1 dX10_isNearer_45 ?_
    replace h := h.2
    refine lv_iconst (v := 1) hx hb dX10_isNearer_46 (by decide) ?_
    refine lv_isub hx hb dX10_isNearer_47 ?_
    refine lv_icmp_ne (tgt := 55) hx hb dX10_isNearer_48 (by decide) (fun hc => ?_) (fun hc => ?_)
    · replace h := h.2 hc
      refine lv_iconst (v := 0) hx hb dX10_isNearer_55 (by decide) ?_
      rw [hZ]
      exact rt_z () hx hb hr hlocks hw (by decide) h dX10_isNearer_56
    · replace h := h.1 hc
      refine lv_iconst (v := 1) hx hb dX10_isNearer_51 (by decide) ?_
      refine lv_goto (tgt := 56) hx hb dX10_isNearer_52 (by decide) ?_
      rw [hZ]
      exact rt_z () hx hb hr hlocks hw (by decide) h dX10_isNearer_56
def rm_mo_tourStep : Room := { frames := 7, cells := 0, slots := 0, locals := 178 }
set_option maxHeartbeats 4000000 in
set_option maxRecDepth 100000 in
theorem c_mo_tourStep {l : Launch} {D : va_G} {cI cL cZ : ClassId} {mx my : Nat} {A : Nat → Prop} {ad : Nat → Nat} {mo_wide mo_tall mo_law mo_range mo_pictures mo_postMany : Int32} {mo_kind mo_queue mo_far mo_pictureCell mo_facing mo_sights mo_fewest mo_posts mo_left mo_roundMany mo_round mo_shift mo_thief mo_danger mo_old : Nat → Int32} (x1 : Int32) (x2 : Int32) {Q : Int32 → (Nat → Int32) → (Nat → Int32) → (Nat → Int32) → Prop} (h : P_mo_tourStep mo_wide mo_tall mo_kind mo_law mo_range mo_queue mo_pictures mo_pictureCell mo_facing mo_sights mo_left x1 x2 Q) : Met l yX10_tourStep wsX10_tourStep rm_mo_tourStep (va_Pc [.ref (ad 0), .int x1, .int x2] (WC D cI cL cZ mx my A (wdM cI cL cZ ad mo_wide mo_tall mo_kind mo_law mo_range mo_queue mo_far mo_pictures mo_pictureCell mo_facing mo_sights mo_fewest mo_posts mo_postMany mo_left mo_roundMany mo_round mo_shift mo_thief mo_danger mo_old))) (va_Qi (fun (r : Int32) (u : (Nat → Int32) × (Nat → Int32) × (Nat → Int32)) => Q r u.1 u.2.1 u.2.2) (fun (u : (Nat → Int32) × (Nat → Int32) × (Nat → Int32)) t => PW D A (wdM cI cL cZ ad mo_wide mo_tall mo_kind mo_law mo_range u.1 mo_far mo_pictures mo_pictureCell mo_facing u.2.1 mo_fewest mo_posts mo_postMany u.2.2 mo_roundMany mo_round mo_shift mo_thief mo_danger mo_old) t.heap) A) 0 0 A := by
  refine Met.ofW (cc := cX10_tourStep) (maxL := 8) (ret := (some .int)) (by decide) rfl ?_
  intro p e s m args below meth c s₁ B hml hv
  obtain ⟨hav, hP0, hD0, hK⟩ := hv
  have hx := B.exec
  have hb := B.bytes
  have hr := B.returns
  have hts := atoms_spec (ws := wsX10_tourStep) B.pre
  have hown : s.vm.findClass RX10 = some m.cls := findClass_of_methodNamed B.named
  have hlocks := B.notSynchronized
  have hB : ∀ w ∈ BIG, w ∈ wsX10_tourStep := fun _ h => List.mem_cons_of_mem _ h
  have hin : ∀ w ∈ wsX100, w ∈ wsX10_tourStep := fun w h => hB w (inB_X10 w h)
  have lk33 := hts _ (hB _ m_941)
  have lk42 := hts _ (hB _ m_945)
  obtain ⟨Z, hZ⟩ : ∃ Z : State → Prop, Z = MQ below (va_Qi (fun (r : Int32) (u : (Nat → Int32) × (Nat → Int32) × (Nat → Int32)) => Q r u.1 u.2.1 u.2.2) (fun (u : (Nat → Int32) × (Nat → Int32) × (Nat → Int32)) t => PW D A (wdM cI cL cZ ad mo_wide mo_tall mo_kind mo_law mo_range u.1 mo_far mo_pictures mo_pictureCell mo_facing u.2.1 mo_fewest mo_posts mo_postMany u.2.2 mo_roundMany mo_round mo_shift mo_thief mo_danger mo_old) t.heap) A) args s 0 0 A := ⟨_, rfl⟩
  rw [← hZ]
  have hw : SW D A s.heap (wdM cI cL cZ ad mo_wide mo_tall mo_kind mo_law mo_range mo_queue mo_far mo_pictures mo_pictureCell mo_facing mo_sights mo_fewest mo_posts mo_postMany mo_left mo_roundMany mo_round mo_shift mo_thief mo_danger mo_old) s.heap [] := ⟨hP0, hD0, va_S.rf⟩
  clear hP0 hD0 B
  have J98 : ∀ (_ : True) (k72 : (Nat → Int32) → (Nat → Int32) → (Nat → Int32) → Int32 → Int32 → Int32 → Int32 → Prop) (hk72 : ∀ (mo_queue : (Nat → Int32)) (mo_sights : (Nat → Int32)) (mo_left : (Nat → Int32)) (x2 : Int32) (x4 : Int32) (x5 : Int32) (x6 : Int32) , k72 mo_queue mo_sights mo_left x2 x4 x5 x6 → ∀ (H : Heap) (locs : List Loc) (ls : Array Slot), SW D A s.heap (wdM cI cL cZ ad mo_wide mo_tall mo_kind mo_law mo_range mo_queue mo_far mo_pictures mo_pictureCell mo_facing mo_sights mo_fewest mo_posts mo_postMany mo_left mo_roundMany mo_round mo_shift mo_thief mo_danger mo_old) H locs → lv_has ls 8 [(0, .ref (ad 0)), (2, .int x2), (4, .int x4), (5, .int x5), (6, .int x6)] → W p l e (headSpec wsX10_tourStep rm_mo_tourStep).room s m args below meth c H locs 0 0 Z (F0 m 72 ls [])) (mo_queue : (Nat → Int32)) (mo_sights : (Nat → Int32)) (mo_left : (Nat → Int32)) (x2 : Int32) (x4 : Int32) (x5 : Int32) (x6 : Int32) , B_mo_tourStep_98 mo_wide mo_tall mo_kind Q k72 mo_queue mo_sights mo_left x2 x4 x5 x6 → ∀ (H : Heap) (locs : List Loc) (ls : Array Slot), SW D A s.heap (wdM cI cL cZ ad mo_wide mo_tall mo_kind mo_law mo_range mo_queue mo_far mo_pictures mo_pictureCell mo_facing mo_sights mo_fewest mo_posts mo_postMany mo_left mo_roundMany mo_round mo_shift mo_thief mo_danger mo_old) H locs → lv_has ls 8 [(0, .ref (ad 0)), (2, .int x2), (4, .int x4), (5, .int x5), (6, .int x6)] → W p l e (headSpec wsX10_tourStep rm_mo_tourStep).room s m args below meth c H locs 0 0 Z (F0 m 98 ls []) := by
    intro _ k72 hk72 mo_queue mo_sights mo_left x2 x4 x5 x6 h H locs ls hw hl
    unfold B_mo_tourStep_98 at h
    refine lv_aload_n hx hb dX10_tourStep_98 rfl (lv_at hl 0 rfl) ?_
    refine lv_iload hx hb dX10_tourStep_99 (lv_at hl 2 rfl) ?_
    refine lv_sipush (v := 256) hx hb dX10_tourStep_101 (by decide) ?_
    refine lv_idiv hx hb dX10_tourStep_104 h.1 ?_
    replace h := h.2
    refine lv_iload hx hb dX10_tourStep_105 (lv_at hl 3 rfl) ?_
    refine cV_i (b := (ad 0)) (As := [.int (x4 / (256 : Int32)), .int x5]) (rest := []) ⟨hx, hb, hml, hown, hts⟩ hK hw (c_mo_beside (x4 / (256 : Int32)) x5 h) (cwV 2 hts (gd_RX10_94 hB) rfl rfl rfl (by decide +kernel) ⟨Nat.le_of_ble_eq_true rfl, Nat.le_of_ble_eq_true rfl⟩) (rM_mo hK hw) hl.1 ⟨Nat.zero_le _, Nat.zero_le _⟩ rfl rfl (Nat.le_of_ble_eq_true rfl) dX10_tourStep_107 (fun r107 _ H locs h hw => ?_)
    refine lv_istore (lv' := [(7, .int r107), (0, .ref (ad 0)), (2, .int x2), (4, .int x4), (5, .int x5), (6, .int x6)]) hx hb dX10_tourStep_110 hl (by decide) rfl (fun ls hl => ?_)
    refine lv_sipush (v := 256) hx hb dX10_tourStep_112 (by decide) ?_
    refine lv_iload hx hb dX10_tourStep_115 (lv_at hl 0 rfl) ?_
    refine lv_imul hx hb dX10_tourStep_117 ?_
    refine lv_iload hx hb dX10_tourStep_118 (lv_at hl 3 rfl) ?_
    refine lv_sipush (v := 256) hx hb dX10_tourStep_120 (by decide) ?_
    refine lv_irem hx hb dX10_tourStep_123 h.1 ?_
    replace h := h.2
    refine lv_aload_n hx hb dX10_tourStep_124 rfl (lv_at hl 1 rfl) ?_
    refine gM_mo_sights hx hb hts hin hown hK hw lk33 dX10_tourStep_125 ?_
    refine lv_iload hx hb dX10_tourStep_128 (lv_at hl 0 rfl) ?_
    refine aM_mo_sights hx hb hK hw h.1 dX10_tourStep_130 ?_
    replace h := h.2
    refine lv_ior hx hb dX10_tourStep_131 ?_
    refine lv_iadd hx hb dX10_tourStep_132 ?_
    refine lv_topi (fun x4_133 ex4_133 => ?_)
    replace h := h x4_133 ex4_133
    refine lv_istore (lv' := [(4, .int x4_133), (7, .int r107), (0, .ref (ad 0)), (2, .int x2), (5, .int x5), (6, .int x6)]) hx hb dX10_tourStep_133 hl (by decide) rfl (fun ls hl => ?_)
    refine lv_iinc (v := (x6 + (1 : Int32))) (lv' := [(6, .int (x6 + (1 : Int32))), (4, .int x4_133), (7, .int r107), (0, .ref (ad 0)), (2, .int x2), (5, .int x5)]) hx hb dX10_tourStep_135 hl (k := 5) rfl rfl (by decide) rfl (fun ls hl => ?_)
    refine lv_goto (tgt := 72) hx hb dX10_tourStep_138 (by decide) ?_
    exact hk72 _ _ _ _ _ _ _ h _ _ _ hw (lv_sub hl [3, 4, 1, 5, 0] rfl)
  have J81 : ∀ (k72 : (Nat → Int32) → (Nat → Int32) → (Nat → Int32) → Int32 → Int32 → Int32 → Int32 → Prop) (hk72 : ∀ (mo_queue : (Nat → Int32)) (mo_sights : (Nat → Int32)) (mo_left : (Nat → Int32)) (x2 : Int32) (x4 : Int32) (x5 : Int32) (x6 : Int32) , k72 mo_queue mo_sights mo_left x2 x4 x5 x6 → ∀ (H : Heap) (locs : List Loc) (ls : Array Slot), SW D A s.heap (wdM cI cL cZ ad mo_wide mo_tall mo_kind mo_law mo_range mo_queue mo_far mo_pictures mo_pictureCell mo_facing mo_sights mo_fewest mo_posts mo_postMany mo_left mo_roundMany mo_round mo_shift mo_thief mo_danger mo_old) H locs → lv_has ls 8 [(0, .ref (ad 0)), (2, .int x2), (4, .int x4), (5, .int x5), (6, .int x6)] → W p l e (headSpec wsX10_tourStep rm_mo_tourStep).room s m args below meth c H locs 0 0 Z (F0 m 72 ls [])) (n : Nat) (mo_queue : (Nat → Int32)) (mo_sights : (Nat → Int32)) (mo_left : (Nat → Int32)) (x2 : Int32) (x4 : Int32) (x5 : Int32) (x6 : Int32) , L_mo_tourStep_81 mo_wide mo_tall mo_kind Q k72 n mo_queue mo_sights mo_left x2 x4 x5 x6 → ∀ (H : Heap) (locs : List Loc) (ls : Array Slot), SW D A s.heap (wdM cI cL cZ ad mo_wide mo_tall mo_kind mo_law mo_range mo_queue mo_far mo_pictures mo_pictureCell mo_facing mo_sights mo_fewest mo_posts mo_postMany mo_left mo_roundMany mo_round mo_shift mo_thief mo_danger mo_old) H locs → lv_has ls 8 [(0, .ref (ad 0)), (2, .int x2), (4, .int x4), (5, .int x5), (6, .int x6)] → W p l e (headSpec wsX10_tourStep rm_mo_tourStep).room s m args below meth c H locs 0 0 Z (F0 m 81 ls []) := by
    intro k72 hk72 n
    induction n with
    | zero => intro mo_queue mo_sights mo_left x2 x4 x5 x6 h; exact h.elim
    | succ n ih =>
    intro mo_queue mo_sights mo_left x2 x4 x5 x6 h H locs ls hw hl
    unfold L_mo_tourStep_81 at h
    refine lv_aload_n hx hb dX10_tourStep_81 rfl (lv_at hl 0 rfl) ?_
    refine lv_iload hx hb dX10_tourStep_82 (lv_at hl 2 rfl) ?_
    refine lv_iload hx hb dX10_tourStep_84 (lv_at hl 3 rfl) ?_
    refine cV_i (b := (ad 0)) (As := [.int x4, .int x5]) (rest := []) ⟨hx, hb, hml, hown, hts⟩ hK hw (c_mo_isNearer x4 x5 h) (cwV 2 hts (gd_RX10_150 hB) rfl rfl rfl (by decide +kernel) ⟨Nat.le_of_ble_eq_true rfl, Nat.le_of_ble_eq_true rfl⟩) (rM_mo hK hw) hl.1 ⟨Nat.zero_le _, Nat.zero_le _⟩ rfl rfl (Nat.le_of_ble_eq_true rfl) dX10_tourStep_86 (fun r86 _ H locs h hw => ?_)
    refine lv_if_ne (tgt := 98) hx hb dX10_tourStep_89 (by decide) (fun hc => ?_) (fun hc => ?_)
    · replace h := h.2 hc
      exact J98 trivial k72 hk72 _ _ _ _ _ _ _ h _ _ _ hw (lv_sub hl [0, 1, 2, 3, 4] rfl)
    · replace h := h.1 hc
      refine lv_iinc (v := (x5 + (1 : Int32))) (lv' := [(5, .int (x5 + (1 : Int32))), (0, .ref (ad 0)), (2, .int x2), (4, .int x4), (6, .int x6)]) hx hb dX10_tourStep_92 hl (k := 3) rfl rfl (by decide) rfl (fun ls hl => ?_)
      refine lv_goto (tgt := 81) hx hb dX10_tourStep_95 (by decide) ?_
      exact ih _ _ _ _ _ _ _ h _ _ _ hw (lv_sub hl [1, 2, 3, 0, 4] rfl)
  have J72 : ∀ (n : Nat) (mo_queue : (Nat → Int32)) (mo_sights : (Nat → Int32)) (mo_left : (Nat → Int32)) (x2 : Int32) (x4 : Int32) (x5 : Int32) (x6 : Int32) , L_mo_tourStep_72 mo_wide mo_tall mo_kind Q n mo_queue mo_sights mo_left x2 x4 x5 x6 → ∀ (H : Heap) (locs : List Loc) (ls : Array Slot), SW D A s.heap (wdM cI cL cZ ad mo_wide mo_tall mo_kind mo_law mo_range mo_queue mo_far mo_pictures mo_pictureCell mo_facing mo_sights mo_fewest mo_posts mo_postMany mo_left mo_roundMany mo_round mo_shift mo_thief mo_danger mo_old) H locs → lv_has ls 8 [(0, .ref (ad 0)), (2, .int x2), (4, .int x4), (5, .int x5), (6, .int x6)] → W p l e (headSpec wsX10_tourStep rm_mo_tourStep).room s m args below meth c H locs 0 0 Z (F0 m 72 ls []) := by
    intro  n
    induction n with
    | zero => intro mo_queue mo_sights mo_left x2 x4 x5 x6 h; exact h.elim
    | succ n ih =>
    intro mo_queue mo_sights mo_left x2 x4 x5 x6 h H locs ls hw hl
    unfold L_mo_tourStep_72 at h
    refine lv_iload hx hb dX10_tourStep_72 (lv_at hl 4 rfl) ?_
    refine lv_iload_n hx hb dX10_tourStep_74 rfl (lv_at hl 1 rfl) ?_
    refine lv_icmp_gt (tgt := 141) hx hb dX10_tourStep_75 (by decide) (fun hc => ?_) (fun hc => ?_)
    · replace h := h.1 hc
      refine lv_iload hx hb dX10_tourStep_141 (lv_at hl 3 rfl) ?_
      rw [hZ]
      exact rt_i (mo_queue, mo_sights, mo_left) hx hb hr hlocks hw h dX10_tourStep_143
    · replace h := h.2 hc
      refine lv_iconst (v := 0) hx hb dX10_tourStep_78 (by decide) ?_
      refine lv_istore (lv' := [(5, .int (0 : Int32)), (0, .ref (ad 0)), (2, .int x2), (4, .int x4), (6, .int x6)]) hx hb dX10_tourStep_79 hl (by decide) rfl (fun ls hl => ?_)
      obtain ⟨n81, h⟩ := h
      exact J81 (L_mo_tourStep_72 mo_wide mo_tall mo_kind Q n) ih n81 _ _ _ _ _ _ _ h _ _ _ hw (lv_sub hl [1, 2, 3, 0, 4] rfl)
  unfold P_mo_tourStep at h
  have he : entryFrame m args 8 = entryFrame m ([.ref (ad 0), .int x1, .int x2] : List Value).toArray 8 := by rw [hav]
  refine W.eq he ?_
  have hl := lv_entry ([.ref (ad 0), .int x1, .int x2]) (n := 8) (Nat.le_of_ble_eq_true rfl)
  rw [lg_entry_eq]
  generalize (lg_sl ([.ref (ad 0), .int x1, .int x2]) ++ List.replicate (8 - (lg_sl ([.ref (ad 0), .int x1, .int x2])).length) Slot.unset).toArray = ls at hl ⊢
  have hl : lv_has ls 8 [(0, .ref (ad 0)), (1, .int x1), (2, .int x2)] := hl
  refine lv_aload_n hx hb dX10_tourStep_0 rfl (lv_at hl 0 rfl) ?_
  refine lv_iload_n hx hb dX10_tourStep_1 rfl (lv_at hl 1 rfl) ?_
  refine cV_i (b := (ad 0)) (As := [.int x1]) (rest := []) ⟨hx, hb, hml, hown, hts⟩ hK hw (c_mo_mayTour x1 h) (cwV 1 hts (gd_RX10_144 hB) rfl rfl rfl (by decide +kernel) ⟨Nat.le_of_ble_eq_true rfl, Nat.le_of_ble_eq_true rfl⟩) (rM_mo hK hw) hl.1 ⟨Nat.zero_le _, Nat.zero_le _⟩ rfl rfl (Nat.le_of_ble_eq_true rfl) dX10_tourStep_2 (fun r2 _ H locs h hw => ?_)
  refine lv_istore_n (lv' := [(3, .int r2), (0, .ref (ad 0)), (1, .int x1), (2, .int x2)]) hx hb dX10_tourStep_5 rfl hl (by decide) rfl (fun ls hl => ?_)
  refine lv_iload_n hx hb dX10_tourStep_6 rfl (lv_at hl 0 rfl) ?_
  refine lv_if_ge (tgt := 12) hx hb dX10_tourStep_7 (by decide) (fun hc => ?_) (fun hc => ?_)
  · replace h := h.1 hc
    refine lv_aload_n hx hb dX10_tourStep_12 rfl (lv_at hl 1 rfl) ?_
    refine lv_iload_n hx hb dX10_tourStep_13 rfl (lv_at hl 2 rfl) ?_
    refine cV_v (b := (ad 0)) (As := [.int x1]) (rest := []) ⟨hx, hb, hml, hown, hts⟩ hK hw (c_mo_layTour x1 h) (cwV 1 hts (gd_RX10_147 hB) rfl rfl rfl (by decide +kernel) ⟨Nat.le_of_ble_eq_true rfl, Nat.le_of_ble_eq_true rfl⟩) (rM_mo hK hw) hl.1 ⟨Nat.zero_le _, Nat.zero_le _⟩ rfl rfl (Nat.le_of_ble_eq_true rfl) dX10_tourStep_14 (fun u14 H locs h hw => ?_)
    obtain ⟨mo_queue_14, mo_sights_14, mo_left_14⟩ := u14
    refine lv_sipush (v := 256) hx hb dX10_tourStep_17 (by decide) ?_
    refine lv_iload_n hx hb dX10_tourStep_20 rfl (lv_at hl 2 rfl) ?_
    refine lv_imul hx hb dX10_tourStep_21 ?_
    refine lv_aload_n hx hb dX10_tourStep_22 rfl (lv_at hl 1 rfl) ?_
    refine gM_mo_sights hx hb hts hin hown hK hw lk33 dX10_tourStep_23 ?_
    refine lv_iload_n hx hb dX10_tourStep_26 rfl (lv_at hl 2 rfl) ?_
    refine aM_mo_sights hx hb hK hw h.1 dX10_tourStep_27 ?_
    replace h := h.2
    refine lv_iadd hx hb dX10_tourStep_28 ?_
    refine lv_topi (fun x4_29 ex4_29 => ?_)
    replace h := h x4_29 ex4_29
    refine lv_istore (lv' := [(4, .int x4_29), (3, .int r2), (0, .ref (ad 0)), (1, .int x1), (2, .int x2)]) hx hb dX10_tourStep_29 hl (by decide) rfl (fun ls hl => ?_)
    refine lv_aload_n hx hb dX10_tourStep_31 rfl (lv_at hl 2 rfl) ?_
    refine gM_mo_left hx hb hts hin hown hK hw lk42 dX10_tourStep_32 ?_
    refine lv_iload hx hb dX10_tourStep_35 (lv_at hl 0 rfl) ?_
    refine aM_mo_left hx hb hK hw h.1 dX10_tourStep_37 ?_
    replace h := h.2
    refine lv_bipush (v := (-9)) hx hb dX10_tourStep_38 (by decide) ?_
    refine lv_icmp_eq (tgt := 62) hx hb dX10_tourStep_40 (by decide) (fun hc => ?_) (fun hc => ?_)
    · replace h := h.1 hc
      refine lv_bipush (v := (-9)) hx hb dX10_tourStep_62 (by decide) ?_
      rw [hZ]
      exact rt_i (mo_queue_14, mo_sights_14, mo_left_14) hx hb hr hlocks hw h dX10_tourStep_64
    · replace h := h.2 hc
      refine lv_iload_n hx hb dX10_tourStep_43 rfl (lv_at hl 4 rfl) ?_
      refine lv_i2l hx hb dX10_tourStep_44 rfl ?_
      refine lv_lconst (v := 0) hx hb dX10_tourStep_45 (by decide) ?_
      refine lv_aload_n hx hb dX10_tourStep_46 rfl (lv_at hl 2 rfl) ?_
      refine gM_mo_left hx hb hts hin hown hK hw lk42 dX10_tourStep_47 ?_
      refine lv_iload hx hb dX10_tourStep_50 (lv_at hl 0 rfl) ?_
      refine aM_mo_left hx hb hK hw h.1 dX10_tourStep_52 ?_
      replace h := h.2
      refine lv_iconst (v := 1) hx hb dX10_tourStep_53 (by decide) ?_
      refine lv_isub hx hb dX10_tourStep_54 ?_
      refine lv_i2l hx hb dX10_tourStep_55 rfl ?_
      refine cS_i (As := [.long (Int32.toInt64 x2), .long (0 : Int64), .long (Int32.toInt64 ((mo_left_14 x4_29.toNatClampNeg) - (1 : Int32)))]) (rest := []) ⟨hx, hb, hml, hown, hts⟩ hK hw (c_mo_in (Int32.toInt64 x2) (0 : Int64) (Int32.toInt64 ((mo_left_14 x4_29.toNatClampNeg) - (1 : Int32))) h) (va_cwS 3 hts (gd_RX10_77 hB) rfl rfl rfl (by decide +kernel) ⟨Nat.le_of_ble_eq_true rfl, Nat.le_of_ble_eq_true rfl⟩) hl.1 ⟨Nat.zero_le _, Nat.zero_le _⟩ rfl rfl (Nat.le_of_ble_eq_true rfl) dX10_tourStep_56 (fun r56 _ H locs h hw => ?_)
      refine lv_if_ne (tgt := 65) hx hb dX10_tourStep_59 (by decide) (fun hc => ?_) (fun hc => ?_)
      · replace h := h.2 hc
        refine lv_bipush (v := (-9)) hx hb dX10_tourStep_65 (by decide) ?_
        refine lv_istore (lv' := [(5, .int (-9 : Int32)), (4, .int x4_29), (3, .int r2), (0, .ref (ad 0)), (1, .int x1), (2, .int x2)]) hx hb dX10_tourStep_67 hl (by decide) rfl (fun ls hl => ?_)
        refine lv_iconst (v := 0) hx hb dX10_tourStep_69 (by decide) ?_
        refine lv_istore (lv' := [(6, .int (0 : Int32)), (5, .int (-9 : Int32)), (4, .int x4_29), (3, .int r2), (0, .ref (ad 0)), (1, .int x1), (2, .int x2)]) hx hb dX10_tourStep_70 hl (by decide) rfl (fun ls hl => ?_)
        obtain ⟨n72, h⟩ := h
        exact J72  n72 _ _ _ _ _ _ _ h _ _ _ hw (lv_sub hl [4, 6, 2, 1, 0] rfl)
      · replace h := h.1 hc
        refine lv_bipush (v := (-9)) hx hb dX10_tourStep_62 (by decide) ?_
        rw [hZ]
        exact rt_i (mo_queue_14, mo_sights_14, mo_left_14) hx hb hr hlocks hw h dX10_tourStep_64
  · replace h := h.2 hc
    refine lv_iload_n hx hb dX10_tourStep_10 rfl (lv_at hl 0 rfl) ?_
    rw [hZ]
    exact rt_i (mo_queue, mo_sights, mo_left) hx hb hr hlocks hw h dX10_tourStep_11
def rm_mo_isWatcher : Room := { frames := 1, cells := 0, slots := 0, locals := 25 }
set_option maxHeartbeats 4000000 in
set_option maxRecDepth 100000 in
theorem c_mo_isWatcher {l : Launch} {D : va_G} {cI cL cZ : ClassId} {mx my : Nat} {A : Nat → Prop}  {w : va_W} (x0 : Int32) {Q : Int32 → Prop} (h : P_mo_isWatcher x0 Q) : Met l yX10_isWatcher wsX10_isWatcher rm_mo_isWatcher (va_Pc [.int x0] (WC D cI cL cZ mx my A w)) (va_Qi (fun (r : Int32) (u : Unit) => Q r) (fun (u : Unit) t => PW D A w t.heap) A) 0 0 A := by
  refine Met.ofW (cc := cX10_isWatcher) (maxL := 1) (ret := (some .boolean)) (by decide) rfl ?_
  intro p e s m args below meth c s₁ B hml hv
  obtain ⟨hav, hP0, hD0, hK⟩ := hv
  have hx := B.exec
  have hb := B.bytes
  have hr := B.returns
  have hts := atoms_spec (ws := wsX10_isWatcher) B.pre
  have hown : s.vm.findClass RX10 = some m.cls := findClass_of_methodNamed B.named
  have hlocks := B.notSynchronized
  have hB : ∀ w ∈ BIG, w ∈ wsX10_isWatcher := fun _ h => List.mem_cons_of_mem _ h
  obtain ⟨Z, hZ⟩ : ∃ Z : State → Prop, Z = MQ below (va_Qi (fun (r : Int32) (u : Unit) => Q r) (fun (u : Unit) t => PW D A w t.heap) A) args s 0 0 A := ⟨_, rfl⟩
  rw [← hZ]
  have hw : SW D A s.heap w s.heap [] := ⟨hP0, hD0, va_S.rf⟩
  clear hP0 hD0 B
  unfold P_mo_isWatcher at h
  have he : entryFrame m args 1 = entryFrame m ([.int x0] : List Value).toArray 1 := by rw [hav]
  refine W.eq he ?_
  have hl := lv_entry ([.int x0]) (n := 1) (Nat.le_of_ble_eq_true rfl)
  rw [lg_entry_eq]
  generalize (lg_sl ([.int x0]) ++ List.replicate (1 - (lg_sl ([.int x0])).length) Slot.unset).toArray = ls at hl ⊢
  have hl : lv_has ls 1 [(0, .int x0)] := hl
  refine lv_iload_n hx hb dX10_isWatcher_0 rfl (lv_at hl 0 rfl) ?_
  refine lv_i2l hx hb dX10_isWatcher_1 rfl ?_
  refine lv_lconst (v := 0) hx hb dX10_isWatcher_2 (by decide) ?_
  refine lv_ldc2 (v := (3)) hx hb hown (hts _ (hB _ m_1013)) dX10_isWatcher_3 ?_
  refine cS_i (As := [.long (Int32.toInt64 x0), .long (0 : Int64), .long (3 : Int64)]) (rest := []) ⟨hx, hb, hml, hown, hts⟩ hK hw (c_mo_in (Int32.toInt64 x0) (0 : Int64) (3 : Int64) h) (va_cwS 3 hts (gd_RX10_77 hB) rfl rfl rfl (by decide +kernel) ⟨Nat.le_of_ble_eq_true rfl, Nat.le_of_ble_eq_true rfl⟩) hl.1 ⟨Nat.zero_le _, Nat.zero_le _⟩ rfl rfl (Nat.le_of_ble_eq_true rfl) dX10_isWatcher_6 (fun r6 _ H locs h hw => ?_)
  rw [hZ]
  exact rt_z () hx hb hr hlocks hw h.1 h.2 dX10_isWatcher_9
def rm_mo_areNear : Room := { frames := 2, cells := 0, slots := 0, locals := 50 }
set_option maxHeartbeats 4000000 in
set_option maxRecDepth 100000 in
theorem c_mo_areNear {l : Launch} {D : va_G} {cI cL cZ : ClassId} {mx my : Nat} {A : Nat → Prop} {ad : Nat → Nat} {mo_wide mo_tall mo_law mo_range mo_pictures mo_postMany : Int32} {mo_kind mo_queue mo_far mo_pictureCell mo_facing mo_sights mo_fewest mo_posts mo_left mo_roundMany mo_round mo_shift mo_thief mo_danger mo_old : Nat → Int32} (x1 : Int32) (x2 : Int32) {Q : Int32 → Prop} (h : P_mo_areNear mo_wide mo_tall mo_kind x1 x2 Q) : Met l yX10_areNear wsX10_areNear rm_mo_areNear (va_Pc [.ref (ad 0), .int x1, .int x2] (WC D cI cL cZ mx my A (wdM cI cL cZ ad mo_wide mo_tall mo_kind mo_law mo_range mo_queue mo_far mo_pictures mo_pictureCell mo_facing mo_sights mo_fewest mo_posts mo_postMany mo_left mo_roundMany mo_round mo_shift mo_thief mo_danger mo_old))) (va_Qi (fun (r : Int32) (u : Unit) => Q r) (fun (u : Unit) t => PW D A (wdM cI cL cZ ad mo_wide mo_tall mo_kind mo_law mo_range mo_queue mo_far mo_pictures mo_pictureCell mo_facing mo_sights mo_fewest mo_posts mo_postMany mo_left mo_roundMany mo_round mo_shift mo_thief mo_danger mo_old) t.heap) A) 0 0 A := by
  refine Met.ofW (cc := cX10_areNear) (maxL := 5) (ret := (some .boolean)) (by decide) rfl ?_
  intro p e s m args below meth c s₁ B hml hv
  obtain ⟨hav, hP0, hD0, hK⟩ := hv
  have hx := B.exec
  have hb := B.bytes
  have hr := B.returns
  have hts := atoms_spec (ws := wsX10_areNear) B.pre
  have hown : s.vm.findClass RX10 = some m.cls := findClass_of_methodNamed B.named
  have hlocks := B.notSynchronized
  have hB : ∀ w ∈ BIG, w ∈ wsX10_areNear := fun _ h => List.mem_cons_of_mem _ h
  obtain ⟨Z, hZ⟩ : ∃ Z : State → Prop, Z = MQ below (va_Qi (fun (r : Int32) (u : Unit) => Q r) (fun (u : Unit) t => PW D A (wdM cI cL cZ ad mo_wide mo_tall mo_kind mo_law mo_range mo_queue mo_far mo_pictures mo_pictureCell mo_facing mo_sights mo_fewest mo_posts mo_postMany mo_left mo_roundMany mo_round mo_shift mo_thief mo_danger mo_old) t.heap) A) args s 0 0 A := ⟨_, rfl⟩
  rw [← hZ]
  have hw : SW D A s.heap (wdM cI cL cZ ad mo_wide mo_tall mo_kind mo_law mo_range mo_queue mo_far mo_pictures mo_pictureCell mo_facing mo_sights mo_fewest mo_posts mo_postMany mo_left mo_roundMany mo_round mo_shift mo_thief mo_danger mo_old) s.heap [] := ⟨hP0, hD0, va_S.rf⟩
  clear hP0 hD0 B
  have J14 : ∀ (n : Nat) (x1 : Int32) (x2 : Int32) (x3 : Int32) (x4 : Int32) , L_mo_areNear_14 mo_wide mo_tall mo_kind Q n x1 x2 x3 x4 → ∀ (H : Heap) (locs : List Loc) (ls : Array Slot), SW D A s.heap (wdM cI cL cZ ad mo_wide mo_tall mo_kind mo_law mo_range mo_queue mo_far mo_pictures mo_pictureCell mo_facing mo_sights mo_fewest mo_posts mo_postMany mo_left mo_roundMany mo_round mo_shift mo_thief mo_danger mo_old) H locs → lv_has ls 5 [(0, .ref (ad 0)), (1, .int x1), (2, .int x2), (3, .int x3), (4, .int x4)] → W p l e (headSpec wsX10_areNear rm_mo_areNear).room s m args below meth c H locs 0 0 Z (F0 m 14 ls []) := by
    intro  n
    induction n with
    | zero => intro x1 x2 x3 x4 h; exact h.elim
    | succ n ih =>
    intro x1 x2 x3 x4 h H locs ls hw hl
    unfold L_mo_areNear_14 at h
    refine lv_iload hx hb dX10_areNear_14 (lv_at hl 4 rfl) ?_
    refine lv_iconst (v := 4) hx hb dX10_areNear_16 (by decide) ?_
    refine lv_icmp_ge (tgt := 47) hx hb dX10_areNear_17 (by decide) (fun hc => ?_) (fun hc => ?_)
    · replace h := h.1 hc
      refine lv_iload_n hx hb dX10_areNear_47 rfl (lv_at hl 3 rfl) ?_
      rw [hZ]
      exact rt_z () hx hb hr hlocks hw h.1 h.2 dX10_areNear_48
    · replace h := h.2 hc
      refine lv_iload_n hx hb dX10_areNear_20 rfl (lv_at hl 3 rfl) ?_
      refine lv_if_ne (tgt := 35) hx hb dX10_areNear_21 (by decide) (fun hc => ?_) (fun hc => ?_)
      · replace h := h.2 hc
        refine lv_iconst (v := 1) hx hb dX10_areNear_35 (by decide) ?_
        refine lv_goto (tgt := 40) hx hb dX10_areNear_36 (by decide) ?_
        refine lv_istore_n (lv' := [(3, .int (1 : Int32)), (0, .ref (ad 0)), (1, .int x1), (2, .int x2), (4, .int x4)]) hx hb dX10_areNear_40 rfl hl (by decide) rfl (fun ls hl => ?_)
        refine lv_iinc (v := (x4 + (1 : Int32))) (lv' := [(4, .int (x4 + (1 : Int32))), (3, .int (1 : Int32)), (0, .ref (ad 0)), (1, .int x1), (2, .int x2)]) hx hb dX10_areNear_41 hl (k := 4) rfl rfl (by decide) rfl (fun ls hl => ?_)
        refine lv_goto (tgt := 14) hx hb dX10_areNear_44 (by decide) ?_
        exact ih _ _ _ _ h _ _ _ hw (lv_sub hl [2, 3, 4, 1, 0] rfl)
      · replace h := h.1 hc
        refine lv_aload_n hx hb dX10_areNear_24 rfl (lv_at hl 0 rfl) ?_
        refine lv_iload_n hx hb dX10_areNear_25 rfl (lv_at hl 1 rfl) ?_
        refine lv_iload hx hb dX10_areNear_26 (lv_at hl 4 rfl) ?_
        refine cV_i (b := (ad 0)) (As := [.int x1, .int x4]) (rest := []) ⟨hx, hb, hml, hown, hts⟩ hK hw (c_mo_beside x1 x4 h) (cwV 2 hts (gd_RX10_94 hB) rfl rfl rfl (by decide +kernel) ⟨Nat.le_of_ble_eq_true rfl, Nat.le_of_ble_eq_true rfl⟩) (rM_mo hK hw) hl.1 ⟨Nat.zero_le _, Nat.zero_le _⟩ rfl rfl (Nat.le_of_ble_eq_true rfl) dX10_areNear_28 (fun r28 _ H locs h hw => ?_)
        refine lv_iload_n hx hb dX10_areNear_31 rfl (lv_at hl 2 rfl) ?_
        refine lv_icmp_ne (tgt := 39) hx hb dX10_areNear_32 (by decide) (fun hc => ?_) (fun hc => ?_)
        · replace h := h.2 hc
          refine lv_iconst (v := 0) hx hb dX10_areNear_39 (by decide) ?_
          refine lv_istore_n (lv' := [(3, .int (0 : Int32)), (0, .ref (ad 0)), (1, .int x1), (2, .int x2), (4, .int x4)]) hx hb dX10_areNear_40 rfl hl (by decide) rfl (fun ls hl => ?_)
          refine lv_iinc (v := (x4 + (1 : Int32))) (lv' := [(4, .int (x4 + (1 : Int32))), (3, .int (0 : Int32)), (0, .ref (ad 0)), (1, .int x1), (2, .int x2)]) hx hb dX10_areNear_41 hl (k := 4) rfl rfl (by decide) rfl (fun ls hl => ?_)
          refine lv_goto (tgt := 14) hx hb dX10_areNear_44 (by decide) ?_
          exact ih _ _ _ _ h _ _ _ hw (lv_sub hl [2, 3, 4, 1, 0] rfl)
        · replace h := h.1 hc
          refine lv_iconst (v := 1) hx hb dX10_areNear_35 (by decide) ?_
          refine lv_goto (tgt := 40) hx hb dX10_areNear_36 (by decide) ?_
          refine lv_istore_n (lv' := [(3, .int (1 : Int32)), (0, .ref (ad 0)), (1, .int x1), (2, .int x2), (4, .int x4)]) hx hb dX10_areNear_40 rfl hl (by decide) rfl (fun ls hl => ?_)
          refine lv_iinc (v := (x4 + (1 : Int32))) (lv' := [(4, .int (x4 + (1 : Int32))), (3, .int (1 : Int32)), (0, .ref (ad 0)), (1, .int x1), (2, .int x2)]) hx hb dX10_areNear_41 hl (k := 4) rfl rfl (by decide) rfl (fun ls hl => ?_)
          refine lv_goto (tgt := 14) hx hb dX10_areNear_44 (by decide) ?_
          exact ih _ _ _ _ h _ _ _ hw (lv_sub hl [2, 3, 4, 1, 0] rfl)
  unfold P_mo_areNear at h
  have he : entryFrame m args 5 = entryFrame m ([.ref (ad 0), .int x1, .int x2] : List Value).toArray 5 := by rw [hav]
  refine W.eq he ?_
  have hl := lv_entry ([.ref (ad 0), .int x1, .int x2]) (n := 5) (Nat.le_of_ble_eq_true rfl)
  rw [lg_entry_eq]
  generalize (lg_sl ([.ref (ad 0), .int x1, .int x2]) ++ List.replicate (5 - (lg_sl ([.ref (ad 0), .int x1, .int x2])).length) Slot.unset).toArray = ls at hl ⊢
  have hl : lv_has ls 5 [(0, .ref (ad 0)), (1, .int x1), (2, .int x2)] := hl
  refine lv_iload_n hx hb dX10_areNear_0 rfl (lv_at hl 1 rfl) ?_
  refine lv_iload_n hx hb dX10_areNear_1 rfl (lv_at hl 2 rfl) ?_
  refine lv_icmp_ne (tgt := 9) hx hb dX10_areNear_2 (by decide) (fun hc => ?_) (fun hc => ?_)
  · replace h := h.2 hc
    refine lv_iconst (v := 0) hx hb dX10_areNear_9 (by decide) ?_
    refine lv_istore_n (lv' := [(3, .int (0 : Int32)), (0, .ref (ad 0)), (1, .int x1), (2, .int x2)]) hx hb dX10_areNear_10 rfl hl (by decide) rfl (fun ls hl => ?_)
    refine lv_iconst (v := 0) hx hb dX10_areNear_11 (by decide) ?_
    refine lv_istore (lv' := [(4, .int (0 : Int32)), (3, .int (0 : Int32)), (0, .ref (ad 0)), (1, .int x1), (2, .int x2)]) hx hb dX10_areNear_12 hl (by decide) rfl (fun ls hl => ?_)
    obtain ⟨n14, h⟩ := h
    exact J14  n14 _ _ _ _ h _ _ _ hw (lv_sub hl [2, 3, 4, 1, 0] rfl)
  · replace h := h.1 hc
    refine lv_iconst (v := 1) hx hb dX10_areNear_5 (by decide) ?_
    refine lv_goto (tgt := 10) hx hb dX10_areNear_6 (by decide) ?_
    refine lv_istore_n (lv' := [(3, .int (1 : Int32)), (0, .ref (ad 0)), (1, .int x1), (2, .int x2)]) hx hb dX10_areNear_10 rfl hl (by decide) rfl (fun ls hl => ?_)
    refine lv_iconst (v := 0) hx hb dX10_areNear_11 (by decide) ?_
    refine lv_istore (lv' := [(4, .int (0 : Int32)), (3, .int (1 : Int32)), (0, .ref (ad 0)), (1, .int x1), (2, .int x2)]) hx hb dX10_areNear_12 hl (by decide) rfl (fun ls hl => ?_)
    obtain ⟨n14, h⟩ := h
    exact J14  n14 _ _ _ _ h _ _ _ hw (lv_sub hl [2, 3, 4, 1, 0] rfl)
def rm_mo_step : Room := { frames := 3, cells := 0, slots := 0, locals := 74 }
set_option maxHeartbeats 4000000 in
set_option maxRecDepth 100000 in
theorem c_mo_step {l : Launch} {D : va_G} {cI cL cZ : ClassId} {mx my : Nat} {A : Nat → Prop} {ad : Nat → Nat} {mo_wide mo_tall mo_law mo_range mo_pictures mo_postMany : Int32} {mo_kind mo_queue mo_far mo_pictureCell mo_facing mo_sights mo_fewest mo_posts mo_left mo_roundMany mo_round mo_shift mo_thief mo_danger mo_old : Nat → Int32} (x1 : Int32) (x2 : Int32) {Q : Int32 → (Nat → Int32) → (Nat → Int32) → Prop} (h : P_mo_step mo_wide mo_tall mo_kind mo_roundMany mo_round x1 x2 Q) : Met l yX10_step wsX10_step rm_mo_step (va_Pc [.ref (ad 0), .int x1, .int x2] (WC D cI cL cZ mx my A (wdM cI cL cZ ad mo_wide mo_tall mo_kind mo_law mo_range mo_queue mo_far mo_pictures mo_pictureCell mo_facing mo_sights mo_fewest mo_posts mo_postMany mo_left mo_roundMany mo_round mo_shift mo_thief mo_danger mo_old))) (va_Qi (fun (r : Int32) (u : (Nat → Int32) × (Nat → Int32)) => Q r u.1 u.2) (fun (u : (Nat → Int32) × (Nat → Int32)) t => PW D A (wdM cI cL cZ ad mo_wide mo_tall mo_kind mo_law mo_range mo_queue mo_far mo_pictures mo_pictureCell mo_facing mo_sights mo_fewest mo_posts mo_postMany mo_left u.1 u.2 mo_shift mo_thief mo_danger mo_old) t.heap) A) 0 0 A := by
  refine Met.ofW (cc := cX10_step) (maxL := 4) (ret := (some .int)) (by decide) rfl ?_
  intro p e s m args below meth c s₁ B hml hv
  obtain ⟨hav, hP0, hD0, hK⟩ := hv
  have hx := B.exec
  have hb := B.bytes
  have hr := B.returns
  have hts := atoms_spec (ws := wsX10_step) B.pre
  have hown : s.vm.findClass RX10 = some m.cls := findClass_of_methodNamed B.named
  have hlocks := B.notSynchronized
  have hB : ∀ w ∈ BIG, w ∈ wsX10_step := fun _ h => List.mem_cons_of_mem _ h
  have hin : ∀ w ∈ wsX100, w ∈ wsX10_step := fun w h => hB w (inB_X10 w h)
  have lk45 := hts _ (hB _ m_946)
  have lk48 := hts _ (hB _ m_947)
  obtain ⟨Z, hZ⟩ : ∃ Z : State → Prop, Z = MQ below (va_Qi (fun (r : Int32) (u : (Nat → Int32) × (Nat → Int32)) => Q r u.1 u.2) (fun (u : (Nat → Int32) × (Nat → Int32)) t => PW D A (wdM cI cL cZ ad mo_wide mo_tall mo_kind mo_law mo_range mo_queue mo_far mo_pictures mo_pictureCell mo_facing mo_sights mo_fewest mo_posts mo_postMany mo_left u.1 u.2 mo_shift mo_thief mo_danger mo_old) t.heap) A) args s 0 0 A := ⟨_, rfl⟩
  rw [← hZ]
  have hw : SW D A s.heap (wdM cI cL cZ ad mo_wide mo_tall mo_kind mo_law mo_range mo_queue mo_far mo_pictures mo_pictureCell mo_facing mo_sights mo_fewest mo_posts mo_postMany mo_left mo_roundMany mo_round mo_shift mo_thief mo_danger mo_old) s.heap [] := ⟨hP0, hD0, va_S.rf⟩
  clear hP0 hD0 B
  have J60 : ∀ (_ : True) (mo_roundMany : (Nat → Int32)) (mo_round : (Nat → Int32)) (x1 : Int32) (x2 : Int32) (x3 : Int32) , B_mo_step_60 Q mo_roundMany mo_round x1 x2 x3 → ∀ (H : Heap) (locs : List Loc) (ls : Array Slot), SW D A s.heap (wdM cI cL cZ ad mo_wide mo_tall mo_kind mo_law mo_range mo_queue mo_far mo_pictures mo_pictureCell mo_facing mo_sights mo_fewest mo_posts mo_postMany mo_left mo_roundMany mo_round mo_shift mo_thief mo_danger mo_old) H locs → lv_has ls 4 [(0, .ref (ad 0)), (1, .int x1), (2, .int x2), (3, .int x3)] → W p l e (headSpec wsX10_step rm_mo_step).room s m args below meth c H locs 0 0 Z (F0 m 60 ls []) := by
    intro _  mo_roundMany mo_round x1 x2 x3 h H locs ls hw hl
    unfold B_mo_step_60 at h
    refine lv_iload_n hx hb dX10_step_60 rfl (lv_at hl 3 rfl) ?_
    refine lv_bipush (v := 6) hx hb dX10_step_61 (by decide) ?_
    refine lv_icmp_ne (tgt := 69) hx hb dX10_step_63 (by decide) (fun hc => ?_) (fun hc => ?_)
    · replace h := h.2 hc
      refine lv_aload_n hx hb dX10_step_69 rfl (lv_at hl 0 rfl) ?_
      refine gM_mo_round hx hb hts hin hown hK hw lk48 dX10_step_70 ?_
      refine lv_bipush (v := 6) hx hb dX10_step_73 (by decide) ?_
      refine lv_iload_n hx hb dX10_step_75 rfl (lv_at hl 1 rfl) ?_
      refine lv_imul hx hb dX10_step_76 ?_
      refine lv_iload_n hx hb dX10_step_77 rfl (lv_at hl 3 rfl) ?_
      refine lv_iadd hx hb dX10_step_78 ?_
      refine lv_iload_n hx hb dX10_step_79 rfl (lv_at hl 2 rfl) ?_
      refine tM_mo_round hx hb hK hw h.1 dX10_step_80 (fun H locs hw => ?_)
      replace h := h.2
      refine lv_aload_n hx hb dX10_step_81 rfl (lv_at hl 0 rfl) ?_
      refine gM_mo_roundMany hx hb hts hin hown hK hw lk45 dX10_step_82 ?_
      refine lv_iload_n hx hb dX10_step_85 rfl (lv_at hl 1 rfl) ?_
      refine lv_dup2_11 hx hb dX10_step_86 rfl rfl ?_
      refine aM_mo_roundMany hx hb hK hw h.1 dX10_step_87 ?_
      replace h := h.2
      refine lv_iconst (v := 1) hx hb dX10_step_88 (by decide) ?_
      refine lv_iadd hx hb dX10_step_89 ?_
      refine tM_mo_roundMany hx hb hK hw h.1 dX10_step_90 (fun H locs hw => ?_)
      replace h := h.2
      refine lv_iload_n hx hb dX10_step_91 rfl (lv_at hl 3 rfl) ?_
      refine lv_iconst (v := 1) hx hb dX10_step_92 (by decide) ?_
      refine lv_iadd hx hb dX10_step_93 ?_
      rw [hZ]
      exact rt_i ((upd mo_roundMany x1.toNatClampNeg ((mo_roundMany x1.toNatClampNeg) + (1 : Int32))), (upd mo_round (((6 : Int32) * x1) + x3).toNatClampNeg x2)) hx hb hr hlocks hw h dX10_step_94
    · replace h := h.1 hc
      refine lv_bipush (v := (-4)) hx hb dX10_step_66 (by decide) ?_
      rw [hZ]
      exact rt_i (mo_roundMany, mo_round) hx hb hr hlocks hw h dX10_step_68
  unfold P_mo_step at h
  have he : entryFrame m args 4 = entryFrame m ([.ref (ad 0), .int x1, .int x2] : List Value).toArray 4 := by rw [hav]
  refine W.eq he ?_
  have hl := lv_entry ([.ref (ad 0), .int x1, .int x2]) (n := 4) (Nat.le_of_ble_eq_true rfl)
  rw [lg_entry_eq]
  generalize (lg_sl ([.ref (ad 0), .int x1, .int x2]) ++ List.replicate (4 - (lg_sl ([.ref (ad 0), .int x1, .int x2])).length) Slot.unset).toArray = ls at hl ⊢
  have hl : lv_has ls 4 [(0, .ref (ad 0)), (1, .int x1), (2, .int x2)] := hl
  refine lv_iload_n hx hb dX10_step_0 rfl (lv_at hl 1 rfl) ?_
  refine cS_i (As := [.int x1]) (rest := []) ⟨hx, hb, hml, hown, hts⟩ hK hw (c_mo_isWatcher x1 h) (va_cwS 1 hts (gd_RX10_153 hB) rfl rfl rfl (by decide +kernel) ⟨Nat.le_of_ble_eq_true rfl, Nat.le_of_ble_eq_true rfl⟩) hl.1 ⟨Nat.zero_le _, Nat.zero_le _⟩ rfl rfl (Nat.le_of_ble_eq_true rfl) dX10_step_1 (fun r1 _ H locs h hw => ?_)
  refine lv_if_eq (tgt := 15) hx hb dX10_step_4 (by decide) (fun hc => ?_) (fun hc => ?_)
  · replace h := h.1 hc
    refine lv_iconst (v := (-1)) hx hb dX10_step_15 (by decide) ?_
    rw [hZ]
    exact rt_i (mo_roundMany, mo_round) hx hb hr hlocks hw h dX10_step_16
  · replace h := h.2 hc
    refine lv_aload_n hx hb dX10_step_7 rfl (lv_at hl 0 rfl) ?_
    refine lv_iload_n hx hb dX10_step_8 rfl (lv_at hl 2 rfl) ?_
    refine cV_i (b := (ad 0)) (As := [.int x2]) (rest := []) ⟨hx, hb, hml, hown, hts⟩ hK hw (c_mo_isCell x2 h) (cwV 1 hts (gd_RX10_85 hB) rfl rfl rfl (by decide +kernel) ⟨Nat.le_of_ble_eq_true rfl, Nat.le_of_ble_eq_true rfl⟩) (rM_mo hK hw) hl.1 ⟨Nat.zero_le _, Nat.zero_le _⟩ rfl rfl (Nat.le_of_ble_eq_true rfl) dX10_step_9 (fun r9 _ H locs h hw => ?_)
    refine lv_if_ne (tgt := 17) hx hb dX10_step_12 (by decide) (fun hc => ?_) (fun hc => ?_)
    · replace h := h.2 hc
      refine lv_aload_n hx hb dX10_step_17 rfl (lv_at hl 0 rfl) ?_
      refine gM_mo_roundMany hx hb hts hin hown hK hw lk45 dX10_step_18 ?_
      refine lv_iload_n hx hb dX10_step_21 rfl (lv_at hl 1 rfl) ?_
      refine aM_mo_roundMany hx hb hK hw h.1 dX10_step_22 ?_
      replace h := h.2
      refine lv_topi (fun x3_23 ex3_23 => ?_)
      replace h := h x3_23 ex3_23
      refine lv_istore_n (lv' := [(3, .int x3_23), (0, .ref (ad 0)), (1, .int x1), (2, .int x2)]) hx hb dX10_step_23 rfl hl (by decide) rfl (fun ls hl => ?_)
      refine lv_aload_n hx hb dX10_step_24 rfl (lv_at hl 1 rfl) ?_
      refine lv_iload_n hx hb dX10_step_25 rfl (lv_at hl 3 rfl) ?_
      refine cV_i (b := (ad 0)) (As := [.int x2]) (rest := []) ⟨hx, hb, hml, hown, hts⟩ hK hw (c_mo_stands x2 h) (cwV 1 hts (gd_RX10_91 hB) rfl rfl rfl (by decide +kernel) ⟨Nat.le_of_ble_eq_true rfl, Nat.le_of_ble_eq_true rfl⟩) (rM_mo hK hw) hl.1 ⟨Nat.zero_le _, Nat.zero_le _⟩ rfl rfl (Nat.le_of_ble_eq_true rfl) dX10_step_26 (fun r26 _ H locs h hw => ?_)
      refine lv_if_eq (tgt := 57) hx hb dX10_step_29 (by decide) (fun hc => ?_) (fun hc => ?_)
      · replace h := h.1 hc
        refine lv_bipush (v := (-3)) hx hb dX10_step_57 (by decide) ?_
        rw [hZ]
        exact rt_i (mo_roundMany, mo_round) hx hb hr hlocks hw h dX10_step_59
      · replace h := h.2 hc
        refine lv_iload_n hx hb dX10_step_32 rfl (lv_at hl 0 rfl) ?_
        refine lv_if_le (tgt := 60) hx hb dX10_step_33 (by decide) (fun hc => ?_) (fun hc => ?_)
        · replace h := h.1 hc
          exact J60 trivial  _ _ _ _ _ h _ _ _ hw (lv_sub hl [1, 2, 3, 0] rfl)
        · replace h := h.2 hc
          refine lv_aload_n hx hb dX10_step_36 rfl (lv_at hl 1 rfl) ?_
          refine lv_aload_n hx hb dX10_step_37 rfl (lv_at hl 1 rfl) ?_
          refine gM_mo_round hx hb hts hin hown hK hw lk48 dX10_step_38 ?_
          refine lv_bipush (v := 6) hx hb dX10_step_41 (by decide) ?_
          refine lv_iload_n hx hb dX10_step_43 rfl (lv_at hl 2 rfl) ?_
          refine lv_imul hx hb dX10_step_44 ?_
          refine lv_iload_n hx hb dX10_step_45 rfl (lv_at hl 0 rfl) ?_
          refine lv_iadd hx hb dX10_step_46 ?_
          refine lv_iconst (v := 1) hx hb dX10_step_47 (by decide) ?_
          refine lv_isub hx hb dX10_step_48 ?_
          refine aM_mo_round hx hb hK hw h.1 dX10_step_49 ?_
          replace h := h.2
          refine lv_iload_n hx hb dX10_step_50 rfl (lv_at hl 3 rfl) ?_
          refine cV_i (b := (ad 0)) (As := [.int (mo_round ((((6 : Int32) * x1) + x3_23) - (1 : Int32)).toNatClampNeg), .int x2]) (rest := []) ⟨hx, hb, hml, hown, hts⟩ hK hw (c_mo_areNear (mo_round ((((6 : Int32) * x1) + x3_23) - (1 : Int32)).toNatClampNeg) x2 h) (cwV 2 hts (gd_RX10_156 hB) rfl rfl rfl (by decide +kernel) ⟨Nat.le_of_ble_eq_true rfl, Nat.le_of_ble_eq_true rfl⟩) (rM_mo hK hw) hl.1 ⟨Nat.zero_le _, Nat.zero_le _⟩ rfl rfl (Nat.le_of_ble_eq_true rfl) dX10_step_51 (fun r51 _ H locs h hw => ?_)
          refine lv_if_ne (tgt := 60) hx hb dX10_step_54 (by decide) (fun hc => ?_) (fun hc => ?_)
          · replace h := h.2 hc
            exact J60 trivial  _ _ _ _ _ h _ _ _ hw (lv_sub hl [1, 2, 3, 0] rfl)
          · replace h := h.1 hc
            refine lv_bipush (v := (-3)) hx hb dX10_step_57 (by decide) ?_
            rw [hZ]
            exact rt_i (mo_roundMany, mo_round) hx hb hr hlocks hw h dX10_step_59
    · replace h := h.1 hc
      refine lv_iconst (v := (-1)) hx hb dX10_step_15 (by decide) ?_
      rw [hZ]
      exact rt_i (mo_roundMany, mo_round) hx hb hr hlocks hw h dX10_step_16
def rm_mo_wipe : Room := { frames := 2, cells := 0, slots := 0, locals := 45 }
set_option maxHeartbeats 4000000 in
set_option maxRecDepth 100000 in
theorem c_mo_wipe {l : Launch} {D : va_G} {cI cL cZ : ClassId} {mx my : Nat} {A : Nat → Prop} {ad : Nat → Nat} {mo_wide mo_tall mo_law mo_range mo_pictures mo_postMany : Int32} {mo_kind mo_queue mo_far mo_pictureCell mo_facing mo_sights mo_fewest mo_posts mo_left mo_roundMany mo_round mo_shift mo_thief mo_danger mo_old : Nat → Int32} (x1 : Int32) {Q : Int32 → (Nat → Int32) → Prop} (h : P_mo_wipe mo_roundMany x1 Q) : Met l yX10_wipe wsX10_wipe rm_mo_wipe (va_Pc [.ref (ad 0), .int x1] (WC D cI cL cZ mx my A (wdM cI cL cZ ad mo_wide mo_tall mo_kind mo_law mo_range mo_queue mo_far mo_pictures mo_pictureCell mo_facing mo_sights mo_fewest mo_posts mo_postMany mo_left mo_roundMany mo_round mo_shift mo_thief mo_danger mo_old))) (va_Qi (fun (r : Int32) (u : (Nat → Int32)) => Q r u) (fun (u : (Nat → Int32)) t => PW D A (wdM cI cL cZ ad mo_wide mo_tall mo_kind mo_law mo_range mo_queue mo_far mo_pictures mo_pictureCell mo_facing mo_sights mo_fewest mo_posts mo_postMany mo_left u mo_round mo_shift mo_thief mo_danger mo_old) t.heap) A) 0 0 A := by
  refine Met.ofW (cc := cX10_wipe) (maxL := 3) (ret := (some .int)) (by decide) rfl ?_
  intro p e s m args below meth c s₁ B hml hv
  obtain ⟨hav, hP0, hD0, hK⟩ := hv
  have hx := B.exec
  have hb := B.bytes
  have hr := B.returns
  have hts := atoms_spec (ws := wsX10_wipe) B.pre
  have hown : s.vm.findClass RX10 = some m.cls := findClass_of_methodNamed B.named
  have hlocks := B.notSynchronized
  have hB : ∀ w ∈ BIG, w ∈ wsX10_wipe := fun _ h => List.mem_cons_of_mem _ h
  have hin : ∀ w ∈ wsX100, w ∈ wsX10_wipe := fun w h => hB w (inB_X10 w h)
  have lk45 := hts _ (hB _ m_946)
  obtain ⟨Z, hZ⟩ : ∃ Z : State → Prop, Z = MQ below (va_Qi (fun (r : Int32) (u : (Nat → Int32)) => Q r u) (fun (u : (Nat → Int32)) t => PW D A (wdM cI cL cZ ad mo_wide mo_tall mo_kind mo_law mo_range mo_queue mo_far mo_pictures mo_pictureCell mo_facing mo_sights mo_fewest mo_posts mo_postMany mo_left u mo_round mo_shift mo_thief mo_danger mo_old) t.heap) A) args s 0 0 A := ⟨_, rfl⟩
  rw [← hZ]
  have hw : SW D A s.heap (wdM cI cL cZ ad mo_wide mo_tall mo_kind mo_law mo_range mo_queue mo_far mo_pictures mo_pictureCell mo_facing mo_sights mo_fewest mo_posts mo_postMany mo_left mo_roundMany mo_round mo_shift mo_thief mo_danger mo_old) s.heap [] := ⟨hP0, hD0, va_S.rf⟩
  clear hP0 hD0 B
  unfold P_mo_wipe at h
  have he : entryFrame m args 3 = entryFrame m ([.ref (ad 0), .int x1] : List Value).toArray 3 := by rw [hav]
  refine W.eq he ?_
  have hl := lv_entry ([.ref (ad 0), .int x1]) (n := 3) (Nat.le_of_ble_eq_true rfl)
  rw [lg_entry_eq]
  generalize (lg_sl ([.ref (ad 0), .int x1]) ++ List.replicate (3 - (lg_sl ([.ref (ad 0), .int x1])).length) Slot.unset).toArray = ls at hl ⊢
  have hl : lv_has ls 3 [(0, .ref (ad 0)), (1, .int x1)] := hl
  refine lv_iload_n hx hb dX10_wipe_0 rfl (lv_at hl 1 rfl) ?_
  refine cS_i (As := [.int x1]) (rest := []) ⟨hx, hb, hml, hown, hts⟩ hK hw (c_mo_isWatcher x1 h) (va_cwS 1 hts (gd_RX10_153 hB) rfl rfl rfl (by decide +kernel) ⟨Nat.le_of_ble_eq_true rfl, Nat.le_of_ble_eq_true rfl⟩) hl.1 ⟨Nat.zero_le _, Nat.zero_le _⟩ rfl rfl (Nat.le_of_ble_eq_true rfl) dX10_wipe_1 (fun r1 _ H locs h hw => ?_)
  refine lv_if_ne (tgt := 9) hx hb dX10_wipe_4 (by decide) (fun hc => ?_) (fun hc => ?_)
  · replace h := h.2 hc
    refine lv_aload_n hx hb dX10_wipe_9 rfl (lv_at hl 0 rfl) ?_
    refine gM_mo_roundMany hx hb hts hin hown hK hw lk45 dX10_wipe_10 ?_
    refine lv_iload_n hx hb dX10_wipe_13 rfl (lv_at hl 1 rfl) ?_
    refine aM_mo_roundMany hx hb hK hw h.1 dX10_wipe_14 ?_
    replace h := h.2
    refine lv_topi (fun x2_15 ex2_15 => ?_)
    replace h := h x2_15 ex2_15
    refine lv_istore_n (lv' := [(2, .int x2_15), (0, .ref (ad 0)), (1, .int x1)]) hx hb dX10_wipe_15 rfl hl (by decide) rfl (fun ls hl => ?_)
    refine lv_aload_n hx hb dX10_wipe_16 rfl (lv_at hl 1 rfl) ?_
    refine gM_mo_roundMany hx hb hts hin hown hK hw lk45 dX10_wipe_17 ?_
    refine lv_iload_n hx hb dX10_wipe_20 rfl (lv_at hl 2 rfl) ?_
    refine lv_iconst (v := 0) hx hb dX10_wipe_21 (by decide) ?_
    refine tM_mo_roundMany hx hb hK hw h.1 dX10_wipe_22 (fun H locs hw => ?_)
    replace h := h.2
    refine lv_iload_n hx hb dX10_wipe_23 rfl (lv_at hl 0 rfl) ?_
    rw [hZ]
    exact rt_i (upd mo_roundMany x1.toNatClampNeg (0 : Int32)) hx hb hr hlocks hw h dX10_wipe_24
  · replace h := h.1 hc
    refine lv_iconst (v := (-1)) hx hb dX10_wipe_7 (by decide) ?_
    rw [hZ]
    exact rt_i mo_roundMany hx hb hr hlocks hw h dX10_wipe_8
def rm_mo_closed : Room := { frames := 3, cells := 0, slots := 0, locals := 74 }
set_option maxHeartbeats 4000000 in
set_option maxRecDepth 100000 in
theorem c_mo_closed {l : Launch} {D : va_G} {cI cL cZ : ClassId} {mx my : Nat} {A : Nat → Prop} {ad : Nat → Nat} {mo_wide mo_tall mo_law mo_range mo_pictures mo_postMany : Int32} {mo_kind mo_queue mo_far mo_pictureCell mo_facing mo_sights mo_fewest mo_posts mo_left mo_roundMany mo_round mo_shift mo_thief mo_danger mo_old : Nat → Int32} (x1 : Int32) {Q : Int32 → Prop} (h : P_mo_closed mo_wide mo_tall mo_kind mo_roundMany mo_round x1 Q) : Met l yX10_closed wsX10_closed rm_mo_closed (va_Pc [.ref (ad 0), .int x1] (WC D cI cL cZ mx my A (wdM cI cL cZ ad mo_wide mo_tall mo_kind mo_law mo_range mo_queue mo_far mo_pictures mo_pictureCell mo_facing mo_sights mo_fewest mo_posts mo_postMany mo_left mo_roundMany mo_round mo_shift mo_thief mo_danger mo_old))) (va_Qi (fun (r : Int32) (u : Unit) => Q r) (fun (u : Unit) t => PW D A (wdM cI cL cZ ad mo_wide mo_tall mo_kind mo_law mo_range mo_queue mo_far mo_pictures mo_pictureCell mo_facing mo_sights mo_fewest mo_posts mo_postMany mo_left mo_roundMany mo_round mo_shift mo_thief mo_danger mo_old) t.heap) A) 0 0 A := by
  refine Met.ofW (cc := cX10_closed) (maxL := 2) (ret := (some .int)) (by decide) rfl ?_
  intro p e s m args below meth c s₁ B hml hv
  obtain ⟨hav, hP0, hD0, hK⟩ := hv
  have hx := B.exec
  have hb := B.bytes
  have hr := B.returns
  have hts := atoms_spec (ws := wsX10_closed) B.pre
  have hown : s.vm.findClass RX10 = some m.cls := findClass_of_methodNamed B.named
  have hlocks := B.notSynchronized
  have hB : ∀ w ∈ BIG, w ∈ wsX10_closed := fun _ h => List.mem_cons_of_mem _ h
  have hin : ∀ w ∈ wsX100, w ∈ wsX10_closed := fun w h => hB w (inB_X10 w h)
  have lk45 := hts _ (hB _ m_946)
  have lk48 := hts _ (hB _ m_947)
  obtain ⟨Z, hZ⟩ : ∃ Z : State → Prop, Z = MQ below (va_Qi (fun (r : Int32) (u : Unit) => Q r) (fun (u : Unit) t => PW D A (wdM cI cL cZ ad mo_wide mo_tall mo_kind mo_law mo_range mo_queue mo_far mo_pictures mo_pictureCell mo_facing mo_sights mo_fewest mo_posts mo_postMany mo_left mo_roundMany mo_round mo_shift mo_thief mo_danger mo_old) t.heap) A) args s 0 0 A := ⟨_, rfl⟩
  rw [← hZ]
  have hw : SW D A s.heap (wdM cI cL cZ ad mo_wide mo_tall mo_kind mo_law mo_range mo_queue mo_far mo_pictures mo_pictureCell mo_facing mo_sights mo_fewest mo_posts mo_postMany mo_left mo_roundMany mo_round mo_shift mo_thief mo_danger mo_old) s.heap [] := ⟨hP0, hD0, va_S.rf⟩
  clear hP0 hD0 B
  unfold P_mo_closed at h
  have he : entryFrame m args 2 = entryFrame m ([.ref (ad 0), .int x1] : List Value).toArray 2 := by rw [hav]
  refine W.eq he ?_
  have hl := lv_entry ([.ref (ad 0), .int x1]) (n := 2) (Nat.le_of_ble_eq_true rfl)
  rw [lg_entry_eq]
  generalize (lg_sl ([.ref (ad 0), .int x1]) ++ List.replicate (2 - (lg_sl ([.ref (ad 0), .int x1])).length) Slot.unset).toArray = ls at hl ⊢
  have hl : lv_has ls 2 [(0, .ref (ad 0)), (1, .int x1)] := hl
  refine lv_iload_n hx hb dX10_closed_0 rfl (lv_at hl 1 rfl) ?_
  refine cS_i (As := [.int x1]) (rest := []) ⟨hx, hb, hml, hown, hts⟩ hK hw (c_mo_isWatcher x1 h) (va_cwS 1 hts (gd_RX10_153 hB) rfl rfl rfl (by decide +kernel) ⟨Nat.le_of_ble_eq_true rfl, Nat.le_of_ble_eq_true rfl⟩) hl.1 ⟨Nat.zero_le _, Nat.zero_le _⟩ rfl rfl (Nat.le_of_ble_eq_true rfl) dX10_closed_1 (fun r1 _ H locs h hw => ?_)
  refine lv_if_ne (tgt := 9) hx hb dX10_closed_4 (by decide) (fun hc => ?_) (fun hc => ?_)
  · replace h := h.2 hc
    refine lv_aload_n hx hb dX10_closed_9 rfl (lv_at hl 0 rfl) ?_
    refine gM_mo_roundMany hx hb hts hin hown hK hw lk45 dX10_closed_10 ?_
    refine lv_iload_n hx hb dX10_closed_13 rfl (lv_at hl 1 rfl) ?_
    refine aM_mo_roundMany hx hb hK hw h.1 dX10_closed_14 ?_
    replace h := h.2
    refine lv_if_eq (tgt := 52) hx hb dX10_closed_15 (by decide) (fun hc => ?_) (fun hc => ?_)
    · replace h := h.1 hc
      refine lv_iconst (v := 1) hx hb dX10_closed_52 (by decide) ?_
      refine lv_goto (tgt := 57) hx hb dX10_closed_53 (by decide) ?_
      rw [hZ]
      exact rt_i () hx hb hr hlocks hw h dX10_closed_57
    · replace h := h.2 hc
      refine lv_aload_n hx hb dX10_closed_18 rfl (lv_at hl 0 rfl) ?_
      refine lv_aload_n hx hb dX10_closed_19 rfl (lv_at hl 0 rfl) ?_
      refine gM_mo_round hx hb hts hin hown hK hw lk48 dX10_closed_20 ?_
      refine lv_bipush (v := 6) hx hb dX10_closed_23 (by decide) ?_
      refine lv_iload_n hx hb dX10_closed_25 rfl (lv_at hl 1 rfl) ?_
      refine lv_imul hx hb dX10_closed_26 ?_
      refine aM_mo_round hx hb hK hw h.1 dX10_closed_27 ?_
      replace h := h.2
      refine lv_aload_n hx hb dX10_closed_28 rfl (lv_at hl 0 rfl) ?_
      refine gM_mo_round hx hb hts hin hown hK hw lk48 dX10_closed_29 ?_
      refine lv_bipush (v := 6) hx hb dX10_closed_32 (by decide) ?_
      refine lv_iload_n hx hb dX10_closed_34 rfl (lv_at hl 1 rfl) ?_
      refine lv_imul hx hb dX10_closed_35 ?_
      refine lv_aload_n hx hb dX10_closed_36 rfl (lv_at hl 0 rfl) ?_
      refine gM_mo_roundMany hx hb hts hin hown hK hw lk45 dX10_closed_37 ?_
      refine lv_iload_n hx hb dX10_closed_40 rfl (lv_at hl 1 rfl) ?_
      refine aM_mo_roundMany hx hb hK hw h.1 dX10_closed_41 ?_
      replace h := h.2
      refine lv_iadd hx hb dX10_closed_42 ?_
      refine lv_iconst (v := 1) hx hb dX10_closed_43 (by decide) ?_
      refine lv_isub hx hb dX10_closed_44 ?_
      refine aM_mo_round hx hb hK hw h.1 dX10_closed_45 ?_
      replace h := h.2
      refine cV_i (b := (ad 0)) (As := [.int (mo_round ((6 : Int32) * x1).toNatClampNeg), .int (mo_round ((((6 : Int32) * x1) + (mo_roundMany x1.toNatClampNeg)) - (1 : Int32)).toNatClampNeg)]) (rest := []) ⟨hx, hb, hml, hown, hts⟩ hK hw (c_mo_areNear (mo_round ((6 : Int32) * x1).toNatClampNeg) (mo_round ((((6 : Int32) * x1) + (mo_roundMany x1.toNatClampNeg)) - (1 : Int32)).toNatClampNeg) h) (cwV 2 hts (gd_RX10_156 hB) rfl rfl rfl (by decide +kernel) ⟨Nat.le_of_ble_eq_true rfl, Nat.le_of_ble_eq_true rfl⟩) (rM_mo hK hw) hl.1 ⟨Nat.zero_le _, Nat.zero_le _⟩ rfl rfl (Nat.le_of_ble_eq_true rfl) dX10_closed_46 (fun r46 _ H locs h hw => ?_)
      refine lv_if_eq (tgt := 56) hx hb dX10_closed_49 (by decide) (fun hc => ?_) (fun hc => ?_)
      · replace h := h.1 hc
        refine lv_iconst (v := 0) hx hb dX10_closed_56 (by decide) ?_
        rw [hZ]
        exact rt_i () hx hb hr hlocks hw h dX10_closed_57
      · replace h := h.2 hc
        refine lv_iconst (v := 1) hx hb dX10_closed_52 (by decide) ?_
        refine lv_goto (tgt := 57) hx hb dX10_closed_53 (by decide) ?_
        rw [hZ]
        exact rt_i () hx hb hr hlocks hw h dX10_closed_57
  · replace h := h.1 hc
    refine lv_iconst (v := (-1)) hx hb dX10_closed_7 (by decide) ?_
    rw [hZ]
    exact rt_i () hx hb hr hlocks hw h dX10_closed_8
def rm_mo_shift : Room := { frames := 2, cells := 0, slots := 0, locals := 45 }
set_option maxHeartbeats 4000000 in
set_option maxRecDepth 100000 in
theorem c_mo_shift {l : Launch} {D : va_G} {cI cL cZ : ClassId} {mx my : Nat} {A : Nat → Prop} {ad : Nat → Nat} {mo_wide mo_tall mo_law mo_range mo_pictures mo_postMany : Int32} {mo_kind mo_queue mo_far mo_pictureCell mo_facing mo_sights mo_fewest mo_posts mo_left mo_roundMany mo_round mo_shift mo_thief mo_danger mo_old : Nat → Int32} (x1 : Int32) (x2 : Int32) {Q : Int32 → (Nat → Int32) → Prop} (h : P_mo_shift mo_shift x1 x2 Q) : Met l yX10_shift wsX10_shift rm_mo_shift (va_Pc [.ref (ad 0), .int x1, .int x2] (WC D cI cL cZ mx my A (wdM cI cL cZ ad mo_wide mo_tall mo_kind mo_law mo_range mo_queue mo_far mo_pictures mo_pictureCell mo_facing mo_sights mo_fewest mo_posts mo_postMany mo_left mo_roundMany mo_round mo_shift mo_thief mo_danger mo_old))) (va_Qi (fun (r : Int32) (u : (Nat → Int32)) => Q r u) (fun (u : (Nat → Int32)) t => PW D A (wdM cI cL cZ ad mo_wide mo_tall mo_kind mo_law mo_range mo_queue mo_far mo_pictures mo_pictureCell mo_facing mo_sights mo_fewest mo_posts mo_postMany mo_left mo_roundMany mo_round u mo_thief mo_danger mo_old) t.heap) A) 0 0 A := by
  refine Met.ofW (cc := cX10_shift) (maxL := 4) (ret := (some .int)) (by decide) rfl ?_
  intro p e s m args below meth c s₁ B hml hv
  obtain ⟨hav, hP0, hD0, hK⟩ := hv
  have hx := B.exec
  have hb := B.bytes
  have hr := B.returns
  have hts := atoms_spec (ws := wsX10_shift) B.pre
  have hown : s.vm.findClass RX10 = some m.cls := findClass_of_methodNamed B.named
  have hlocks := B.notSynchronized
  have hB : ∀ w ∈ BIG, w ∈ wsX10_shift := fun _ h => List.mem_cons_of_mem _ h
  have hin : ∀ w ∈ wsX100, w ∈ wsX10_shift := fun w h => hB w (inB_X10 w h)
  have lk51 := hts _ (hB _ m_948)
  obtain ⟨Z, hZ⟩ : ∃ Z : State → Prop, Z = MQ below (va_Qi (fun (r : Int32) (u : (Nat → Int32)) => Q r u) (fun (u : (Nat → Int32)) t => PW D A (wdM cI cL cZ ad mo_wide mo_tall mo_kind mo_law mo_range mo_queue mo_far mo_pictures mo_pictureCell mo_facing mo_sights mo_fewest mo_posts mo_postMany mo_left mo_roundMany mo_round u mo_thief mo_danger mo_old) t.heap) A) args s 0 0 A := ⟨_, rfl⟩
  rw [← hZ]
  have hw : SW D A s.heap (wdM cI cL cZ ad mo_wide mo_tall mo_kind mo_law mo_range mo_queue mo_far mo_pictures mo_pictureCell mo_facing mo_sights mo_fewest mo_posts mo_postMany mo_left mo_roundMany mo_round mo_shift mo_thief mo_danger mo_old) s.heap [] := ⟨hP0, hD0, va_S.rf⟩
  clear hP0 hD0 B
  unfold P_mo_shift at h
  have he : entryFrame m args 4 = entryFrame m ([.ref (ad 0), .int x1, .int x2] : List Value).toArray 4 := by rw [hav]
  refine W.eq he ?_
  have hl := lv_entry ([.ref (ad 0), .int x1, .int x2]) (n := 4) (Nat.le_of_ble_eq_true rfl)
  rw [lg_entry_eq]
  generalize (lg_sl ([.ref (ad 0), .int x1, .int x2]) ++ List.replicate (4 - (lg_sl ([.ref (ad 0), .int x1, .int x2])).length) Slot.unset).toArray = ls at hl ⊢
  have hl : lv_has ls 4 [(0, .ref (ad 0)), (1, .int x1), (2, .int x2)] := hl
  refine lv_iload_n hx hb dX10_shift_0 rfl (lv_at hl 1 rfl) ?_
  refine cS_i (As := [.int x1]) (rest := []) ⟨hx, hb, hml, hown, hts⟩ hK hw (c_mo_isWatcher x1 h) (va_cwS 1 hts (gd_RX10_153 hB) rfl rfl rfl (by decide +kernel) ⟨Nat.le_of_ble_eq_true rfl, Nat.le_of_ble_eq_true rfl⟩) hl.1 ⟨Nat.zero_le _, Nat.zero_le _⟩ rfl rfl (Nat.le_of_ble_eq_true rfl) dX10_shift_1 (fun r1 _ H locs h hw => ?_)
  refine lv_if_ne (tgt := 9) hx hb dX10_shift_4 (by decide) (fun hc => ?_) (fun hc => ?_)
  · replace h := h.2 hc
    refine lv_iload_n hx hb dX10_shift_9 rfl (lv_at hl 2 rfl) ?_
    refine lv_i2l hx hb dX10_shift_10 rfl ?_
    refine lv_lconst (v := 0) hx hb dX10_shift_11 (by decide) ?_
    refine lv_ldc2 (v := (5)) hx hb hown (hts _ (hB _ m_1168)) dX10_shift_12 ?_
    refine cS_i (As := [.long (Int32.toInt64 x2), .long (0 : Int64), .long (5 : Int64)]) (rest := []) ⟨hx, hb, hml, hown, hts⟩ hK hw (c_mo_in (Int32.toInt64 x2) (0 : Int64) (5 : Int64) h) (va_cwS 3 hts (gd_RX10_77 hB) rfl rfl rfl (by decide +kernel) ⟨Nat.le_of_ble_eq_true rfl, Nat.le_of_ble_eq_true rfl⟩) hl.1 ⟨Nat.zero_le _, Nat.zero_le _⟩ rfl rfl (Nat.le_of_ble_eq_true rfl) dX10_shift_15 (fun r15 _ H locs h hw => ?_)
    refine lv_if_ne (tgt := 24) hx hb dX10_shift_18 (by decide) (fun hc => ?_) (fun hc => ?_)
    · replace h := h.2 hc
      refine lv_aload_n hx hb dX10_shift_24 rfl (lv_at hl 0 rfl) ?_
      refine gM_mo_shift hx hb hts hin hown hK hw lk51 dX10_shift_25 ?_
      refine lv_iload_n hx hb dX10_shift_28 rfl (lv_at hl 1 rfl) ?_
      refine aM_mo_shift hx hb hK hw h.1 dX10_shift_29 ?_
      replace h := h.2
      refine lv_topi (fun x3_30 ex3_30 => ?_)
      replace h := h x3_30 ex3_30
      refine lv_istore_n (lv' := [(3, .int x3_30), (0, .ref (ad 0)), (1, .int x1), (2, .int x2)]) hx hb dX10_shift_30 rfl hl (by decide) rfl (fun ls hl => ?_)
      refine lv_aload_n hx hb dX10_shift_31 rfl (lv_at hl 1 rfl) ?_
      refine gM_mo_shift hx hb hts hin hown hK hw lk51 dX10_shift_32 ?_
      refine lv_iload_n hx hb dX10_shift_35 rfl (lv_at hl 2 rfl) ?_
      refine lv_iload_n hx hb dX10_shift_36 rfl (lv_at hl 3 rfl) ?_
      refine tM_mo_shift hx hb hK hw h.1 dX10_shift_37 (fun H locs hw => ?_)
      replace h := h.2
      refine lv_iload_n hx hb dX10_shift_38 rfl (lv_at hl 0 rfl) ?_
      rw [hZ]
      exact rt_i (upd mo_shift x1.toNatClampNeg x2) hx hb hr hlocks hw h dX10_shift_39
    · replace h := h.1 hc
      refine lv_bipush (v := (-2)) hx hb dX10_shift_21 (by decide) ?_
      rw [hZ]
      exact rt_i mo_shift hx hb hr hlocks hw h dX10_shift_23
  · replace h := h.1 hc
    refine lv_iconst (v := (-1)) hx hb dX10_shift_7 (by decide) ?_
    rw [hZ]
    exact rt_i mo_shift hx hb hr hlocks hw h dX10_shift_8
def rm_mo_whereAt : Room := { frames := 0, cells := 0, slots := 0, locals := 0 }
set_option maxHeartbeats 4000000 in
set_option maxRecDepth 100000 in
theorem c_mo_whereAt {l : Launch} {D : va_G} {cI cL cZ : ClassId} {mx my : Nat} {A : Nat → Prop} {ad : Nat → Nat} {mo_wide mo_tall mo_law mo_range mo_pictures mo_postMany : Int32} {mo_kind mo_queue mo_far mo_pictureCell mo_facing mo_sights mo_fewest mo_posts mo_left mo_roundMany mo_round mo_shift mo_thief mo_danger mo_old : Nat → Int32} (x1 : Int32) (x2 : Int32) {Q : Int32 → Prop} (h : P_mo_whereAt mo_roundMany mo_round mo_shift x1 x2 Q) : Met l yX10_whereAt wsX10_whereAt rm_mo_whereAt (va_Pc [.ref (ad 0), .int x1, .int x2] (WC D cI cL cZ mx my A (wdM cI cL cZ ad mo_wide mo_tall mo_kind mo_law mo_range mo_queue mo_far mo_pictures mo_pictureCell mo_facing mo_sights mo_fewest mo_posts mo_postMany mo_left mo_roundMany mo_round mo_shift mo_thief mo_danger mo_old))) (va_Qi (fun (r : Int32) (u : Unit) => Q r) (fun (u : Unit) t => PW D A (wdM cI cL cZ ad mo_wide mo_tall mo_kind mo_law mo_range mo_queue mo_far mo_pictures mo_pictureCell mo_facing mo_sights mo_fewest mo_posts mo_postMany mo_left mo_roundMany mo_round mo_shift mo_thief mo_danger mo_old) t.heap) A) 0 0 A := by
  refine Met.ofW (cc := cX10_whereAt) (maxL := 3) (ret := (some .int)) (by decide) rfl ?_
  intro p e s m args below meth c s₁ B hml hv
  obtain ⟨hav, hP0, hD0, hK⟩ := hv
  have hx := B.exec
  have hb := B.bytes
  have hr := B.returns
  have hts := atoms_spec (ws := wsX10_whereAt) B.pre
  have hown : s.vm.findClass RX10 = some m.cls := findClass_of_methodNamed B.named
  have hlocks := B.notSynchronized
  have hB : ∀ w ∈ BIG, w ∈ wsX10_whereAt := fun _ h => List.mem_cons_of_mem _ h
  have hin : ∀ w ∈ wsX100, w ∈ wsX10_whereAt := fun w h => hB w (inB_X10 w h)
  have lk45 := hts _ (hB _ m_946)
  have lk48 := hts _ (hB _ m_947)
  have lk51 := hts _ (hB _ m_948)
  obtain ⟨Z, hZ⟩ : ∃ Z : State → Prop, Z = MQ below (va_Qi (fun (r : Int32) (u : Unit) => Q r) (fun (u : Unit) t => PW D A (wdM cI cL cZ ad mo_wide mo_tall mo_kind mo_law mo_range mo_queue mo_far mo_pictures mo_pictureCell mo_facing mo_sights mo_fewest mo_posts mo_postMany mo_left mo_roundMany mo_round mo_shift mo_thief mo_danger mo_old) t.heap) A) args s 0 0 A := ⟨_, rfl⟩
  rw [← hZ]
  have hw : SW D A s.heap (wdM cI cL cZ ad mo_wide mo_tall mo_kind mo_law mo_range mo_queue mo_far mo_pictures mo_pictureCell mo_facing mo_sights mo_fewest mo_posts mo_postMany mo_left mo_roundMany mo_round mo_shift mo_thief mo_danger mo_old) s.heap [] := ⟨hP0, hD0, va_S.rf⟩
  clear hP0 hD0 B
  unfold P_mo_whereAt at h
  have he : entryFrame m args 3 = entryFrame m ([.ref (ad 0), .int x1, .int x2] : List Value).toArray 3 := by rw [hav]
  refine W.eq he ?_
  have hl := lv_entry ([.ref (ad 0), .int x1, .int x2]) (n := 3) (Nat.le_of_ble_eq_true rfl)
  rw [lg_entry_eq]
  generalize (lg_sl ([.ref (ad 0), .int x1, .int x2]) ++ List.replicate (3 - (lg_sl ([.ref (ad 0), .int x1, .int x2])).length) Slot.unset).toArray = ls at hl ⊢
  have hl : lv_has ls 3 [(0, .ref (ad 0)), (1, .int x1), (2, .int x2)] := hl
  refine lv_aload_n hx hb dX10_whereAt_0 rfl (lv_at hl 0 rfl) ?_
  refine gM_mo_roundMany hx hb hts hin hown hK hw lk45 dX10_whereAt_1 ?_
  refine lv_iload_n hx hb dX10_whereAt_4 rfl (lv_at hl 1 rfl) ?_
  refine aM_mo_roundMany hx hb hK hw h.1 dX10_whereAt_5 ?_
  replace h := h.2
  refine lv_if_ne (tgt := 14) hx hb dX10_whereAt_6 (by decide) (fun hc => ?_) (fun hc => ?_)
  · replace h := h.2 hc
    refine lv_aload_n hx hb dX10_whereAt_14 rfl (lv_at hl 0 rfl) ?_
    refine gM_mo_round hx hb hts hin hown hK hw lk48 dX10_whereAt_15 ?_
    refine lv_bipush (v := 6) hx hb dX10_whereAt_18 (by decide) ?_
    refine lv_iload_n hx hb dX10_whereAt_20 rfl (lv_at hl 1 rfl) ?_
    refine lv_imul hx hb dX10_whereAt_21 ?_
    refine lv_iload_n hx hb dX10_whereAt_22 rfl (lv_at hl 2 rfl) ?_
    refine lv_aload_n hx hb dX10_whereAt_23 rfl (lv_at hl 0 rfl) ?_
    refine gM_mo_shift hx hb hts hin hown hK hw lk51 dX10_whereAt_24 ?_
    refine lv_iload_n hx hb dX10_whereAt_27 rfl (lv_at hl 1 rfl) ?_
    refine aM_mo_shift hx hb hK hw h.1 dX10_whereAt_28 ?_
    replace h := h.2
    refine lv_iadd hx hb dX10_whereAt_29 ?_
    refine lv_aload_n hx hb dX10_whereAt_30 rfl (lv_at hl 0 rfl) ?_
    refine gM_mo_roundMany hx hb hts hin hown hK hw lk45 dX10_whereAt_31 ?_
    refine lv_iload_n hx hb dX10_whereAt_34 rfl (lv_at hl 1 rfl) ?_
    refine aM_mo_roundMany hx hb hK hw h.1 dX10_whereAt_35 ?_
    replace h := h.2
    refine lv_irem hx hb dX10_whereAt_36 h.1 ?_
    replace h := h.2
    refine lv_iadd hx hb dX10_whereAt_37 ?_
    refine aM_mo_round hx hb hK hw h.1 dX10_whereAt_38 ?_
    replace h := h.2
    rw [hZ]
    exact rt_i () hx hb hr hlocks hw h dX10_whereAt_39
  · replace h := h.1 hc
    refine lv_bipush (v := (-9)) hx hb dX10_whereAt_9 (by decide) ?_
    refine lv_goto (tgt := 39) hx hb dX10_whereAt_11 (by decide) ?_
    rw [hZ]
    exact rt_i () hx hb hr hlocks hw h dX10_whereAt_39
def rm_mo_where : Room := { frames := 2, cells := 0, slots := 0, locals := 45 }
set_option maxHeartbeats 4000000 in
set_option maxRecDepth 100000 in
theorem c_mo_where {l : Launch} {D : va_G} {cI cL cZ : ClassId} {mx my : Nat} {A : Nat → Prop} {ad : Nat → Nat} {mo_wide mo_tall mo_law mo_range mo_pictures mo_postMany : Int32} {mo_kind mo_queue mo_far mo_pictureCell mo_facing mo_sights mo_fewest mo_posts mo_left mo_roundMany mo_round mo_shift mo_thief mo_danger mo_old : Nat → Int32} (x1 : Int32) (x2 : Int32) {Q : Int32 → Prop} (h : P_mo_where mo_roundMany mo_round mo_shift x1 x2 Q) : Met l yX10_where wsX10_where rm_mo_where (va_Pc [.ref (ad 0), .int x1, .int x2] (WC D cI cL cZ mx my A (wdM cI cL cZ ad mo_wide mo_tall mo_kind mo_law mo_range mo_queue mo_far mo_pictures mo_pictureCell mo_facing mo_sights mo_fewest mo_posts mo_postMany mo_left mo_roundMany mo_round mo_shift mo_thief mo_danger mo_old))) (va_Qi (fun (r : Int32) (u : Unit) => Q r) (fun (u : Unit) t => PW D A (wdM cI cL cZ ad mo_wide mo_tall mo_kind mo_law mo_range mo_queue mo_far mo_pictures mo_pictureCell mo_facing mo_sights mo_fewest mo_posts mo_postMany mo_left mo_roundMany mo_round mo_shift mo_thief mo_danger mo_old) t.heap) A) 0 0 A := by
  refine Met.ofW (cc := cX10_where) (maxL := 3) (ret := (some .int)) (by decide) rfl ?_
  intro p e s m args below meth c s₁ B hml hv
  obtain ⟨hav, hP0, hD0, hK⟩ := hv
  have hx := B.exec
  have hb := B.bytes
  have hr := B.returns
  have hts := atoms_spec (ws := wsX10_where) B.pre
  have hown : s.vm.findClass RX10 = some m.cls := findClass_of_methodNamed B.named
  have hlocks := B.notSynchronized
  have hB : ∀ w ∈ BIG, w ∈ wsX10_where := fun _ h => List.mem_cons_of_mem _ h
  obtain ⟨Z, hZ⟩ : ∃ Z : State → Prop, Z = MQ below (va_Qi (fun (r : Int32) (u : Unit) => Q r) (fun (u : Unit) t => PW D A (wdM cI cL cZ ad mo_wide mo_tall mo_kind mo_law mo_range mo_queue mo_far mo_pictures mo_pictureCell mo_facing mo_sights mo_fewest mo_posts mo_postMany mo_left mo_roundMany mo_round mo_shift mo_thief mo_danger mo_old) t.heap) A) args s 0 0 A := ⟨_, rfl⟩
  rw [← hZ]
  have hw : SW D A s.heap (wdM cI cL cZ ad mo_wide mo_tall mo_kind mo_law mo_range mo_queue mo_far mo_pictures mo_pictureCell mo_facing mo_sights mo_fewest mo_posts mo_postMany mo_left mo_roundMany mo_round mo_shift mo_thief mo_danger mo_old) s.heap [] := ⟨hP0, hD0, va_S.rf⟩
  clear hP0 hD0 B
  unfold P_mo_where at h
  have he : entryFrame m args 3 = entryFrame m ([.ref (ad 0), .int x1, .int x2] : List Value).toArray 3 := by rw [hav]
  refine W.eq he ?_
  have hl := lv_entry ([.ref (ad 0), .int x1, .int x2]) (n := 3) (Nat.le_of_ble_eq_true rfl)
  rw [lg_entry_eq]
  generalize (lg_sl ([.ref (ad 0), .int x1, .int x2]) ++ List.replicate (3 - (lg_sl ([.ref (ad 0), .int x1, .int x2])).length) Slot.unset).toArray = ls at hl ⊢
  have hl : lv_has ls 3 [(0, .ref (ad 0)), (1, .int x1), (2, .int x2)] := hl
  refine lv_iload_n hx hb dX10_where_0 rfl (lv_at hl 1 rfl) ?_
  refine cS_i (As := [.int x1]) (rest := []) ⟨hx, hb, hml, hown, hts⟩ hK hw (c_mo_isWatcher x1 h) (va_cwS 1 hts (gd_RX10_153 hB) rfl rfl rfl (by decide +kernel) ⟨Nat.le_of_ble_eq_true rfl, Nat.le_of_ble_eq_true rfl⟩) hl.1 ⟨Nat.zero_le _, Nat.zero_le _⟩ rfl rfl (Nat.le_of_ble_eq_true rfl) dX10_where_1 (fun r1 _ H locs h hw => ?_)
  refine lv_if_ne (tgt := 9) hx hb dX10_where_4 (by decide) (fun hc => ?_) (fun hc => ?_)
  · replace h := h.2 hc
    refine lv_iload_n hx hb dX10_where_9 rfl (lv_at hl 2 rfl) ?_
    refine lv_i2l hx hb dX10_where_10 rfl ?_
    refine lv_lconst (v := 0) hx hb dX10_where_11 (by decide) ?_
    refine lv_ldc2 (v := (9999)) hx hb hown (hts _ (hB _ m_1173)) dX10_where_12 ?_
    refine cS_i (As := [.long (Int32.toInt64 x2), .long (0 : Int64), .long (9999 : Int64)]) (rest := []) ⟨hx, hb, hml, hown, hts⟩ hK hw (c_mo_in (Int32.toInt64 x2) (0 : Int64) (9999 : Int64) h) (va_cwS 3 hts (gd_RX10_77 hB) rfl rfl rfl (by decide +kernel) ⟨Nat.le_of_ble_eq_true rfl, Nat.le_of_ble_eq_true rfl⟩) hl.1 ⟨Nat.zero_le _, Nat.zero_le _⟩ rfl rfl (Nat.le_of_ble_eq_true rfl) dX10_where_15 (fun r15 _ H locs h hw => ?_)
    refine lv_if_eq (tgt := 30) hx hb dX10_where_18 (by decide) (fun hc => ?_) (fun hc => ?_)
    · replace h := h.1 hc
      refine lv_bipush (v := (-2)) hx hb dX10_where_30 (by decide) ?_
      rw [hZ]
      exact rt_i () hx hb hr hlocks hw h dX10_where_32
    · replace h := h.2 hc
      refine lv_aload_n hx hb dX10_where_21 rfl (lv_at hl 0 rfl) ?_
      refine lv_iload_n hx hb dX10_where_22 rfl (lv_at hl 1 rfl) ?_
      refine lv_iload_n hx hb dX10_where_23 rfl (lv_at hl 2 rfl) ?_
      refine cV_i (b := (ad 0)) (As := [.int x1, .int x2]) (rest := []) ⟨hx, hb, hml, hown, hts⟩ hK hw (c_mo_whereAt x1 x2 h) (cwV 2 hts (gd_RX10_163 hB) rfl rfl rfl (by decide +kernel) ⟨Nat.le_of_ble_eq_true rfl, Nat.le_of_ble_eq_true rfl⟩) (rM_mo hK hw) hl.1 ⟨Nat.zero_le _, Nat.zero_le _⟩ rfl rfl (Nat.le_of_ble_eq_true rfl) dX10_where_24 (fun r24 _ H locs h hw => ?_)
      refine lv_goto (tgt := 32) hx hb dX10_where_27 (by decide) ?_
      rw [hZ]
      exact rt_i () hx hb hr hlocks hw h dX10_where_32
  · replace h := h.1 hc
    refine lv_iconst (v := (-1)) hx hb dX10_where_7 (by decide) ?_
    rw [hZ]
    exact rt_i () hx hb hr hlocks hw h dX10_where_8
def rm_mo_isWatched : Room := { frames := 3, cells := 0, slots := 0, locals := 79 }
set_option maxHeartbeats 4000000 in
set_option maxRecDepth 100000 in
theorem c_mo_isWatched {l : Launch} {D : va_G} {cI cL cZ : ClassId} {mx my : Nat} {A : Nat → Prop} {ad : Nat → Nat} {mo_wide mo_tall mo_law mo_range mo_pictures mo_postMany : Int32} {mo_kind mo_queue mo_far mo_pictureCell mo_facing mo_sights mo_fewest mo_posts mo_left mo_roundMany mo_round mo_shift mo_thief mo_danger mo_old : Nat → Int32} (x1 : Int32) (x2 : Int32) {Q : Int32 → Prop} (h : P_mo_isWatched mo_wide mo_kind mo_law mo_range mo_roundMany mo_round mo_shift x1 x2 Q) : Met l yX10_isWatched wsX10_isWatched rm_mo_isWatched (va_Pc [.ref (ad 0), .int x1, .int x2] (WC D cI cL cZ mx my A (wdM cI cL cZ ad mo_wide mo_tall mo_kind mo_law mo_range mo_queue mo_far mo_pictures mo_pictureCell mo_facing mo_sights mo_fewest mo_posts mo_postMany mo_left mo_roundMany mo_round mo_shift mo_thief mo_danger mo_old))) (va_Qi (fun (r : Int32) (u : Unit) => Q r) (fun (u : Unit) t => PW D A (wdM cI cL cZ ad mo_wide mo_tall mo_kind mo_law mo_range mo_queue mo_far mo_pictures mo_pictureCell mo_facing mo_sights mo_fewest mo_posts mo_postMany mo_left mo_roundMany mo_round mo_shift mo_thief mo_danger mo_old) t.heap) A) 0 0 A := by
  refine Met.ofW (cc := cX10_isWatched) (maxL := 6) (ret := (some .boolean)) (by decide) rfl ?_
  intro p e s m args below meth c s₁ B hml hv
  obtain ⟨hav, hP0, hD0, hK⟩ := hv
  have hx := B.exec
  have hb := B.bytes
  have hr := B.returns
  have hts := atoms_spec (ws := wsX10_isWatched) B.pre
  have hown : s.vm.findClass RX10 = some m.cls := findClass_of_methodNamed B.named
  have hlocks := B.notSynchronized
  have hB : ∀ w ∈ BIG, w ∈ wsX10_isWatched := fun _ h => List.mem_cons_of_mem _ h
  obtain ⟨Z, hZ⟩ : ∃ Z : State → Prop, Z = MQ below (va_Qi (fun (r : Int32) (u : Unit) => Q r) (fun (u : Unit) t => PW D A (wdM cI cL cZ ad mo_wide mo_tall mo_kind mo_law mo_range mo_queue mo_far mo_pictures mo_pictureCell mo_facing mo_sights mo_fewest mo_posts mo_postMany mo_left mo_roundMany mo_round mo_shift mo_thief mo_danger mo_old) t.heap) A) args s 0 0 A := ⟨_, rfl⟩
  rw [← hZ]
  have hw : SW D A s.heap (wdM cI cL cZ ad mo_wide mo_tall mo_kind mo_law mo_range mo_queue mo_far mo_pictures mo_pictureCell mo_facing mo_sights mo_fewest mo_posts mo_postMany mo_left mo_roundMany mo_round mo_shift mo_thief mo_danger mo_old) s.heap [] := ⟨hP0, hD0, va_S.rf⟩
  clear hP0 hD0 B
  have J5 : ∀ (n : Nat) (x1 : Int32) (x2 : Int32) (x3 : Int32) (x4 : Int32) , L_mo_isWatched_5 mo_wide mo_kind mo_law mo_range mo_roundMany mo_round mo_shift Q n x1 x2 x3 x4 → ∀ (H : Heap) (locs : List Loc) (ls : Array Slot), SW D A s.heap (wdM cI cL cZ ad mo_wide mo_tall mo_kind mo_law mo_range mo_queue mo_far mo_pictures mo_pictureCell mo_facing mo_sights mo_fewest mo_posts mo_postMany mo_left mo_roundMany mo_round mo_shift mo_thief mo_danger mo_old) H locs → lv_has ls 6 [(0, .ref (ad 0)), (1, .int x1), (2, .int x2), (3, .int x3), (4, .int x4)] → W p l e (headSpec wsX10_isWatched rm_mo_isWatched).room s m args below meth c H locs 0 0 Z (F0 m 5 ls []) := by
    intro  n
    induction n with
    | zero => intro x1 x2 x3 x4 h; exact h.elim
    | succ n ih =>
    intro x1 x2 x3 x4 h H locs ls hw hl
    unfold L_mo_isWatched_5 at h
    refine lv_iload hx hb dX10_isWatched_5 (lv_at hl 4 rfl) ?_
    refine lv_iconst (v := 4) hx hb dX10_isWatched_7 (by decide) ?_
    refine lv_icmp_ge (tgt := 62) hx hb dX10_isWatched_8 (by decide) (fun hc => ?_) (fun hc => ?_)
    · replace h := h.1 hc
      refine lv_iload_n hx hb dX10_isWatched_62 rfl (lv_at hl 3 rfl) ?_
      rw [hZ]
      exact rt_z () hx hb hr hlocks hw h.1 h.2 dX10_isWatched_63
    · replace h := h.2 hc
      refine lv_aload_n hx hb dX10_isWatched_11 rfl (lv_at hl 0 rfl) ?_
      refine lv_iload hx hb dX10_isWatched_12 (lv_at hl 4 rfl) ?_
      refine lv_iload_n hx hb dX10_isWatched_14 rfl (lv_at hl 2 rfl) ?_
      refine cV_i (b := (ad 0)) (As := [.int x4, .int x2]) (rest := []) ⟨hx, hb, hml, hown, hts⟩ hK hw (c_mo_whereAt x4 x2 h) (cwV 2 hts (gd_RX10_163 hB) rfl rfl rfl (by decide +kernel) ⟨Nat.le_of_ble_eq_true rfl, Nat.le_of_ble_eq_true rfl⟩) (rM_mo hK hw) hl.1 ⟨Nat.zero_le _, Nat.zero_le _⟩ rfl rfl (Nat.le_of_ble_eq_true rfl) dX10_isWatched_15 (fun r15 _ H locs h hw => ?_)
      refine lv_istore (lv' := [(5, .int r15), (0, .ref (ad 0)), (1, .int x1), (2, .int x2), (3, .int x3), (4, .int x4)]) hx hb dX10_isWatched_18 hl (by decide) rfl (fun ls hl => ?_)
      refine lv_iload_n hx hb dX10_isWatched_20 rfl (lv_at hl 4 rfl) ?_
      refine lv_if_ne (tgt := 50) hx hb dX10_isWatched_21 (by decide) (fun hc => ?_) (fun hc => ?_)
      · replace h := h.2 hc
        refine lv_iconst (v := 1) hx hb dX10_isWatched_50 (by decide) ?_
        refine lv_goto (tgt := 55) hx hb dX10_isWatched_51 (by decide) ?_
        refine lv_istore_n (lv' := [(3, .int (1 : Int32)), (5, .int r15), (0, .ref (ad 0)), (1, .int x1), (2, .int x2), (4, .int x4)]) hx hb dX10_isWatched_55 rfl hl (by decide) rfl (fun ls hl => ?_)
        refine lv_iinc (v := (x4 + (1 : Int32))) (lv' := [(4, .int (x4 + (1 : Int32))), (3, .int (1 : Int32)), (5, .int r15), (0, .ref (ad 0)), (1, .int x1), (2, .int x2)]) hx hb dX10_isWatched_56 hl (k := 5) rfl rfl (by decide) rfl (fun ls hl => ?_)
        refine lv_goto (tgt := 5) hx hb dX10_isWatched_59 (by decide) ?_
        exact ih _ _ _ _ h _ _ _ hw (lv_sub hl [3, 4, 5, 1, 0] rfl)
      · replace h := h.1 hc
        refine lv_iload hx hb dX10_isWatched_24 (lv_at hl 0 rfl) ?_
        refine lv_bipush (v := (-9)) hx hb dX10_isWatched_26 (by decide) ?_
        refine lv_icmp_eq (tgt := 54) hx hb dX10_isWatched_28 (by decide) (fun hc => ?_) (fun hc => ?_)
        · replace h := h.1 hc
          refine lv_iconst (v := 0) hx hb dX10_isWatched_54 (by decide) ?_
          refine lv_istore_n (lv' := [(3, .int (0 : Int32)), (5, .int r15), (0, .ref (ad 0)), (1, .int x1), (2, .int x2), (4, .int x4)]) hx hb dX10_isWatched_55 rfl hl (by decide) rfl (fun ls hl => ?_)
          refine lv_iinc (v := (x4 + (1 : Int32))) (lv' := [(4, .int (x4 + (1 : Int32))), (3, .int (0 : Int32)), (5, .int r15), (0, .ref (ad 0)), (1, .int x1), (2, .int x2)]) hx hb dX10_isWatched_56 hl (k := 5) rfl rfl (by decide) rfl (fun ls hl => ?_)
          refine lv_goto (tgt := 5) hx hb dX10_isWatched_59 (by decide) ?_
          exact ih _ _ _ _ h _ _ _ hw (lv_sub hl [3, 4, 5, 1, 0] rfl)
        · replace h := h.2 hc
          refine lv_aload_n hx hb dX10_isWatched_31 rfl (lv_at hl 1 rfl) ?_
          refine lv_iload hx hb dX10_isWatched_32 (lv_at hl 0 rfl) ?_
          refine cV_i (b := (ad 0)) (As := [.int r15]) (rest := []) ⟨hx, hb, hml, hown, hts⟩ hK hw (c_mo_stands r15 h) (cwV 1 hts (gd_RX10_91 hB) rfl rfl rfl (by decide +kernel) ⟨Nat.le_of_ble_eq_true rfl, Nat.le_of_ble_eq_true rfl⟩) (rM_mo hK hw) hl.1 ⟨Nat.zero_le _, Nat.zero_le _⟩ rfl rfl (Nat.le_of_ble_eq_true rfl) dX10_isWatched_34 (fun r34 _ H locs h hw => ?_)
          refine lv_if_eq (tgt := 54) hx hb dX10_isWatched_37 (by decide) (fun hc => ?_) (fun hc => ?_)
          · replace h := h.1 hc
            refine lv_iconst (v := 0) hx hb dX10_isWatched_54 (by decide) ?_
            refine lv_istore_n (lv' := [(3, .int (0 : Int32)), (5, .int r15), (0, .ref (ad 0)), (1, .int x1), (2, .int x2), (4, .int x4)]) hx hb dX10_isWatched_55 rfl hl (by decide) rfl (fun ls hl => ?_)
            refine lv_iinc (v := (x4 + (1 : Int32))) (lv' := [(4, .int (x4 + (1 : Int32))), (3, .int (0 : Int32)), (5, .int r15), (0, .ref (ad 0)), (1, .int x1), (2, .int x2)]) hx hb dX10_isWatched_56 hl (k := 5) rfl rfl (by decide) rfl (fun ls hl => ?_)
            refine lv_goto (tgt := 5) hx hb dX10_isWatched_59 (by decide) ?_
            exact ih _ _ _ _ h _ _ _ hw (lv_sub hl [3, 4, 5, 1, 0] rfl)
          · replace h := h.2 hc
            refine lv_aload_n hx hb dX10_isWatched_40 rfl (lv_at hl 1 rfl) ?_
            refine lv_iload hx hb dX10_isWatched_41 (lv_at hl 0 rfl) ?_
            refine lv_iload_n hx hb dX10_isWatched_43 rfl (lv_at hl 2 rfl) ?_
            refine cV_i (b := (ad 0)) (As := [.int r15, .int x1]) (rest := []) ⟨hx, hb, hml, hown, hts⟩ hK hw (c_mo_isSeen r15 x1 h) (cwV 2 hts (gd_RX10_119 hB) rfl rfl rfl (by decide +kernel) ⟨Nat.le_of_ble_eq_true rfl, Nat.le_of_ble_eq_true rfl⟩) (rM_mo hK hw) hl.1 ⟨Nat.zero_le _, Nat.zero_le _⟩ rfl rfl (Nat.le_of_ble_eq_true rfl) dX10_isWatched_44 (fun r44 _ H locs h hw => ?_)
            refine lv_if_eq (tgt := 54) hx hb dX10_isWatched_47 (by decide) (fun hc => ?_) (fun hc => ?_)
            · replace h := h.1 hc
              refine lv_iconst (v := 0) hx hb dX10_isWatched_54 (by decide) ?_
              refine lv_istore_n (lv' := [(3, .int (0 : Int32)), (5, .int r15), (0, .ref (ad 0)), (1, .int x1), (2, .int x2), (4, .int x4)]) hx hb dX10_isWatched_55 rfl hl (by decide) rfl (fun ls hl => ?_)
              refine lv_iinc (v := (x4 + (1 : Int32))) (lv' := [(4, .int (x4 + (1 : Int32))), (3, .int (0 : Int32)), (5, .int r15), (0, .ref (ad 0)), (1, .int x1), (2, .int x2)]) hx hb dX10_isWatched_56 hl (k := 5) rfl rfl (by decide) rfl (fun ls hl => ?_)
              refine lv_goto (tgt := 5) hx hb dX10_isWatched_59 (by decide) ?_
              exact ih _ _ _ _ h _ _ _ hw (lv_sub hl [3, 4, 5, 1, 0] rfl)
            · replace h := h.2 hc
              refine lv_iconst (v := 1) hx hb dX10_isWatched_50 (by decide) ?_
              refine lv_goto (tgt := 55) hx hb dX10_isWatched_51 (by decide) ?_
              refine lv_istore_n (lv' := [(3, .int (1 : Int32)), (5, .int r15), (0, .ref (ad 0)), (1, .int x1), (2, .int x2), (4, .int x4)]) hx hb dX10_isWatched_55 rfl hl (by decide) rfl (fun ls hl => ?_)
              refine lv_iinc (v := (x4 + (1 : Int32))) (lv' := [(4, .int (x4 + (1 : Int32))), (3, .int (1 : Int32)), (5, .int r15), (0, .ref (ad 0)), (1, .int x1), (2, .int x2)]) hx hb dX10_isWatched_56 hl (k := 5) rfl rfl (by decide) rfl (fun ls hl => ?_)
              refine lv_goto (tgt := 5) hx hb dX10_isWatched_59 (by decide) ?_
              exact ih _ _ _ _ h _ _ _ hw (lv_sub hl [3, 4, 5, 1, 0] rfl)
  unfold P_mo_isWatched at h
  have he : entryFrame m args 6 = entryFrame m ([.ref (ad 0), .int x1, .int x2] : List Value).toArray 6 := by rw [hav]
  refine W.eq he ?_
  have hl := lv_entry ([.ref (ad 0), .int x1, .int x2]) (n := 6) (Nat.le_of_ble_eq_true rfl)
  rw [lg_entry_eq]
  generalize (lg_sl ([.ref (ad 0), .int x1, .int x2]) ++ List.replicate (6 - (lg_sl ([.ref (ad 0), .int x1, .int x2])).length) Slot.unset).toArray = ls at hl ⊢
  have hl : lv_has ls 6 [(0, .ref (ad 0)), (1, .int x1), (2, .int x2)] := hl
  refine lv_iconst (v := 0) hx hb dX10_isWatched_0 (by decide) ?_
  refine lv_istore_n (lv' := [(3, .int (0 : Int32)), (0, .ref (ad 0)), (1, .int x1), (2, .int x2)]) hx hb dX10_isWatched_1 rfl hl (by decide) rfl (fun ls hl => ?_)
  refine lv_iconst (v := 0) hx hb dX10_isWatched_2 (by decide) ?_
  refine lv_istore (lv' := [(4, .int (0 : Int32)), (3, .int (0 : Int32)), (0, .ref (ad 0)), (1, .int x1), (2, .int x2)]) hx hb dX10_isWatched_3 hl (by decide) rfl (fun ls hl => ?_)
  obtain ⟨n5, h⟩ := h
  exact J5  n5 _ _ _ _ h _ _ _ hw (lv_sub hl [2, 3, 4, 1, 0] rfl)
