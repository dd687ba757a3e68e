def rm_mo_isCell : Room := { frames := 1, cells := 0, slots := 0, locals := 25 }
set_option maxHeartbeats 4000000 in
set_option maxRecDepth 100000 in
theorem c_mo_isCell {l : Launch} {D : va_G} {cI cL cZ : ClassId} {mx my : Nat} {A : Nat → Prop} {ad : Nat → Nat} {mo_wide mo_tall mo_law mo_range mo_pictures mo_postMany : Int32} {mo_kind mo_queue mo_far mo_pictureCell mo_facing mo_sights mo_fewest mo_posts mo_left mo_roundMany mo_round mo_shift mo_thief mo_danger mo_old : Nat → Int32} (x1 : Int32) {Q : Int32 → Prop} (h : P_mo_isCell mo_wide mo_tall x1 Q) : Met l yX10_isCell wsX10_isCell rm_mo_isCell (va_Pc [.ref (ad 0), .int x1] (WC D cI cL cZ mx my A (wdM cI cL cZ ad mo_wide mo_tall mo_kind mo_law mo_range mo_queue mo_far mo_pictures mo_pictureCell mo_facing mo_sights mo_fewest mo_posts mo_postMany mo_left mo_roundMany mo_round mo_shift mo_thief mo_danger mo_old))) (va_Qi (fun (r : Int32) (u : Unit) => Q r) (fun (u : Unit) t => PW D A (wdM cI cL cZ ad mo_wide mo_tall mo_kind mo_law mo_range mo_queue mo_far mo_pictures mo_pictureCell mo_facing mo_sights mo_fewest mo_posts mo_postMany mo_left mo_roundMany mo_round mo_shift mo_thief mo_danger mo_old) t.heap) A) 0 0 A := by
  refine Met.ofW (cc := cX10_isCell) (maxL := 2) (ret := (some .boolean)) (by decide) rfl ?_
  intro p e s m args below meth c s₁ B hml hv
  obtain ⟨hav, hP0, hD0, hK⟩ := hv
  have hx := B.exec
  have hb := B.bytes
  have hr := B.returns
  have hts := atoms_spec (ws := wsX10_isCell) B.pre
  have hown : s.vm.findClass RX10 = some m.cls := findClass_of_methodNamed B.named
  have hlocks := B.notSynchronized
  have hB : ∀ w ∈ BIG, w ∈ wsX10_isCell := fun _ h => List.mem_cons_of_mem _ h
  have hin : ∀ w ∈ wsX100, w ∈ wsX10_isCell := fun w h => hB w (inB_X10 w h)
  have lk68 := hts _ (hB _ m_931)
  have lk71 := hts _ (hB _ m_932)
  obtain ⟨Z, hZ⟩ : ∃ Z : State → Prop, Z = MQ below (va_Qi (fun (r : Int32) (u : Unit) => Q r) (fun (u : Unit) t => PW D A (wdM cI cL cZ ad mo_wide mo_tall mo_kind mo_law mo_range mo_queue mo_far mo_pictures mo_pictureCell mo_facing mo_sights mo_fewest mo_posts mo_postMany mo_left mo_roundMany mo_round mo_shift mo_thief mo_danger mo_old) t.heap) A) args s 0 0 A := ⟨_, rfl⟩
  rw [← hZ]
  have hw : SW D A s.heap (wdM cI cL cZ ad mo_wide mo_tall mo_kind mo_law mo_range mo_queue mo_far mo_pictures mo_pictureCell mo_facing mo_sights mo_fewest mo_posts mo_postMany mo_left mo_roundMany mo_round mo_shift mo_thief mo_danger mo_old) s.heap [] := ⟨hP0, hD0, va_S.rf⟩
  clear hP0 hD0 B
  unfold P_mo_isCell at h
  have he : entryFrame m args 2 = entryFrame m ([.ref (ad 0), .int x1] : List Value).toArray 2 := by rw [hav]
  refine W.eq he ?_
  have hl := lv_entry ([.ref (ad 0), .int x1]) (n := 2) (Nat.le_of_ble_eq_true rfl)
  rw [lg_entry_eq]
  generalize (lg_sl ([.ref (ad 0), .int x1]) ++ List.replicate (2 - (lg_sl ([.ref (ad 0), .int x1])).length) Slot.unset).toArray = ls at hl ⊢
  have hl : lv_has ls 2 [(0, .ref (ad 0)), (1, .int x1)] := hl
  refine lv_iload_n hx hb dX10_isCell_0 rfl (lv_at hl 1 rfl) ?_
  refine lv_i2l hx hb dX10_isCell_1 rfl ?_
  refine lv_lconst (v := 0) hx hb dX10_isCell_2 (by decide) ?_
  refine lv_aload_n hx hb dX10_isCell_3 rfl (lv_at hl 0 rfl) ?_
  refine gM_mo_wide hx hb hts hin hown hK hw lk68 dX10_isCell_4 ?_
  refine lv_aload_n hx hb dX10_isCell_7 rfl (lv_at hl 0 rfl) ?_
  refine gM_mo_tall hx hb hts hin hown hK hw lk71 dX10_isCell_8 ?_
  refine lv_imul hx hb dX10_isCell_11 ?_
  refine lv_iconst (v := 1) hx hb dX10_isCell_12 (by decide) ?_
  refine lv_isub hx hb dX10_isCell_13 ?_
  refine lv_i2l hx hb dX10_isCell_14 rfl ?_
  refine cS_i (As := [.long (Int32.toInt64 x1), .long (0 : Int64), .long (Int32.toInt64 ((mo_wide * mo_tall) - (1 : Int32)))]) (rest := []) ⟨hx, hb, hml, hown, hts⟩ hK hw (c_mo_in (Int32.toInt64 x1) (0 : Int64) (Int32.toInt64 ((mo_wide * mo_tall) - (1 : Int32))) h) (va_cwS 3 hts (gd_RX10_77 hB) rfl rfl rfl (by decide +kernel) ⟨Nat.le_of_ble_eq_true rfl, Nat.le_of_ble_eq_true rfl⟩) hl.1 ⟨Nat.zero_le _, Nat.zero_le _⟩ rfl rfl (Nat.le_of_ble_eq_true rfl) dX10_isCell_15 (fun r15 _ H locs h hw => ?_)
  rw [hZ]
  exact rt_z () hx hb hr hlocks hw h.1 h.2 dX10_isCell_18
def rm_mo_stands : Room := { frames := 0, cells := 0, slots := 0, locals := 0 }
set_option maxHeartbeats 4000000 in
set_option maxRecDepth 100000 in
theorem c_mo_stands {l : Launch} {D : va_G} {cI cL cZ : ClassId} {mx my : Nat} {A : Nat → Prop} {ad : Nat → Nat} {mo_wide mo_tall mo_law mo_range mo_pictures mo_postMany : Int32} {mo_kind mo_queue mo_far mo_pictureCell mo_facing mo_sights mo_fewest mo_posts mo_left mo_roundMany mo_round mo_shift mo_thief mo_danger mo_old : Nat → Int32} (x1 : Int32) {Q : Int32 → Prop} (h : P_mo_stands mo_kind x1 Q) : Met l yX10_stands wsX10_stands rm_mo_stands (va_Pc [.ref (ad 0), .int x1] (WC D cI cL cZ mx my A (wdM cI cL cZ ad mo_wide mo_tall mo_kind mo_law mo_range mo_queue mo_far mo_pictures mo_pictureCell mo_facing mo_sights mo_fewest mo_posts mo_postMany mo_left mo_roundMany mo_round mo_shift mo_thief mo_danger mo_old))) (va_Qi (fun (r : Int32) (u : Unit) => Q r) (fun (u : Unit) t => PW D A (wdM cI cL cZ ad mo_wide mo_tall mo_kind mo_law mo_range mo_queue mo_far mo_pictures mo_pictureCell mo_facing mo_sights mo_fewest mo_posts mo_postMany mo_left mo_roundMany mo_round mo_shift mo_thief mo_danger mo_old) t.heap) A) 0 0 A := by
  refine Met.ofW (cc := cX10_stands) (maxL := 2) (ret := (some .boolean)) (by decide) rfl ?_
  intro p e s m args below meth c s₁ B hml hv
  obtain ⟨hav, hP0, hD0, hK⟩ := hv
  have hx := B.exec
  have hb := B.bytes
  have hr := B.returns
  have hts := atoms_spec (ws := wsX10_stands) B.pre
  have hown : s.vm.findClass RX10 = some m.cls := findClass_of_methodNamed B.named
  have hlocks := B.notSynchronized
  have hB : ∀ w ∈ BIG, w ∈ wsX10_stands := fun _ h => List.mem_cons_of_mem _ h
  have hin : ∀ w ∈ wsX100, w ∈ wsX10_stands := fun w h => hB w (inB_X10 w h)
  have lk7 := hts _ (hB _ m_933)
  obtain ⟨Z, hZ⟩ : ∃ Z : State → Prop, Z = MQ below (va_Qi (fun (r : Int32) (u : Unit) => Q r) (fun (u : Unit) t => PW D A (wdM cI cL cZ ad mo_wide mo_tall mo_kind mo_law mo_range mo_queue mo_far mo_pictures mo_pictureCell mo_facing mo_sights mo_fewest mo_posts mo_postMany mo_left mo_roundMany mo_round mo_shift mo_thief mo_danger mo_old) t.heap) A) args s 0 0 A := ⟨_, rfl⟩
  rw [← hZ]
  have hw : SW D A s.heap (wdM cI cL cZ ad mo_wide mo_tall mo_kind mo_law mo_range mo_queue mo_far mo_pictures mo_pictureCell mo_facing mo_sights mo_fewest mo_posts mo_postMany mo_left mo_roundMany mo_round mo_shift mo_thief mo_danger mo_old) s.heap [] := ⟨hP0, hD0, va_S.rf⟩
  clear hP0 hD0 B
  unfold P_mo_stands at h
  have he : entryFrame m args 2 = entryFrame m ([.ref (ad 0), .int x1] : List Value).toArray 2 := by rw [hav]
  refine W.eq he ?_
  have hl := lv_entry ([.ref (ad 0), .int x1]) (n := 2) (Nat.le_of_ble_eq_true rfl)
  rw [lg_entry_eq]
  generalize (lg_sl ([.ref (ad 0), .int x1]) ++ List.replicate (2 - (lg_sl ([.ref (ad 0), .int x1])).length) Slot.unset).toArray = ls at hl ⊢
  have hl : lv_has ls 2 [(0, .ref (ad 0)), (1, .int x1)] := hl
  refine lv_aload_n hx hb dX10_stands_0 rfl (lv_at hl 0 rfl) ?_
  refine gM_mo_kind hx hb hts hin hown hK hw lk7 dX10_stands_1 ?_
  refine lv_iload_n hx hb dX10_stands_4 rfl (lv_at hl 1 rfl) ?_
  refine aM_mo_kind hx hb hK hw h.1 dX10_stands_5 ?_
  replace h := h.2
  refine lv_if_eq (tgt := 19) hx hb dX10_stands_6 (by decide) (fun hc => ?_) (fun hc => ?_)
  · replace h := h.1 hc
    refine lv_iconst (v := 1) hx hb dX10_stands_19 (by decide) ?_
    refine lv_goto (tgt := 24) hx hb dX10_stands_20 (by decide) ?_
    rw [hZ]
    exact rt_z () hx hb hr hlocks hw (by decide) h dX10_stands_24
  · replace h := h.2 hc
    refine lv_aload_n hx hb dX10_stands_9 rfl (lv_at hl 0 rfl) ?_
    refine gM_mo_kind hx hb hts hin hown hK hw lk7 dX10_stands_10 ?_
    refine lv_iload_n hx hb dX10_stands_13 rfl (lv_at hl 1 rfl) ?_
    refine aM_mo_kind hx hb hK hw h.1 dX10_stands_14 ?_
    replace h := h.2
    refine lv_iconst (v := 3) hx hb dX10_stands_15 (by decide) ?_
    refine lv_icmp_ne (tgt := 23) hx hb dX10_stands_16 (by decide) (fun hc => ?_) (fun hc => ?_)
    · replace h := h.2 hc
      refine lv_iconst (v := 0) hx hb dX10_stands_23 (by decide) ?_
      rw [hZ]
      exact rt_z () hx hb hr hlocks hw (by decide) h dX10_stands_24
    · replace h := h.1 hc
      refine lv_iconst (v := 1) hx hb dX10_stands_19 (by decide) ?_
      refine lv_goto (tgt := 24) hx hb dX10_stands_20 (by decide) ?_
      rw [hZ]
      exact rt_z () hx hb hr hlocks hw (by decide) h dX10_stands_24
def rm_mo_isClear : Room := { frames := 0, cells := 0, slots := 0, locals := 0 }
set_option maxHeartbeats 4000000 in
set_option maxRecDepth 100000 in
theorem c_mo_isClear {l : Launch} {D : va_G} {cI cL cZ : ClassId} {mx my : Nat} {A : Nat → Prop} {ad : Nat → Nat} {mo_wide mo_tall mo_law mo_range mo_pictures mo_postMany : Int32} {mo_kind mo_queue mo_far mo_pictureCell mo_facing mo_sights mo_fewest mo_posts mo_left mo_roundMany mo_round mo_shift mo_thief mo_danger mo_old : Nat → Int32} (x1 : Int32) (x2 : Int32) {Q : Int32 → Prop} (h : P_mo_isClear mo_wide mo_kind x1 x2 Q) : Met l yX10_isClear wsX10_isClear rm_mo_isClear (va_Pc [.ref (ad 0), .int x1, .int x2] (WC D cI cL cZ mx my A (wdM cI cL cZ ad mo_wide mo_tall mo_kind mo_law mo_range mo_queue mo_far mo_pictures mo_pictureCell mo_facing mo_sights mo_fewest mo_posts mo_postMany mo_left mo_roundMany mo_round mo_shift mo_thief mo_danger mo_old))) (va_Qi (fun (r : Int32) (u : Unit) => Q r) (fun (u : Unit) t => PW D A (wdM cI cL cZ ad mo_wide mo_tall mo_kind mo_law mo_range mo_queue mo_far mo_pictures mo_pictureCell mo_facing mo_sights mo_fewest mo_posts mo_postMany mo_left mo_roundMany mo_round mo_shift mo_thief mo_danger mo_old) t.heap) A) 0 0 A := by
  refine Met.ofW (cc := cX10_isClear) (maxL := 4) (ret := (some .boolean)) (by decide) rfl ?_
  intro p e s m args below meth c s₁ B hml hv
  obtain ⟨hav, hP0, hD0, hK⟩ := hv
  have hx := B.exec
  have hb := B.bytes
  have hr := B.returns
  have hts := atoms_spec (ws := wsX10_isClear) B.pre
  have hown : s.vm.findClass RX10 = some m.cls := findClass_of_methodNamed B.named
  have hlocks := B.notSynchronized
  have hB : ∀ w ∈ BIG, w ∈ wsX10_isClear := fun _ h => List.mem_cons_of_mem _ h
  have hin : ∀ w ∈ wsX100, w ∈ wsX10_isClear := fun w h => hB w (inB_X10 w h)
  have lk7 := hts _ (hB _ m_933)
  have lk68 := hts _ (hB _ m_931)
  obtain ⟨Z, hZ⟩ : ∃ Z : State → Prop, Z = MQ below (va_Qi (fun (r : Int32) (u : Unit) => Q r) (fun (u : Unit) t => PW D A (wdM cI cL cZ ad mo_wide mo_tall mo_kind mo_law mo_range mo_queue mo_far mo_pictures mo_pictureCell mo_facing mo_sights mo_fewest mo_posts mo_postMany mo_left mo_roundMany mo_round mo_shift mo_thief mo_danger mo_old) t.heap) A) args s 0 0 A := ⟨_, rfl⟩
  rw [← hZ]
  have hw : SW D A s.heap (wdM cI cL cZ ad mo_wide mo_tall mo_kind mo_law mo_range mo_queue mo_far mo_pictures mo_pictureCell mo_facing mo_sights mo_fewest mo_posts mo_postMany mo_left mo_roundMany mo_round mo_shift mo_thief mo_danger mo_old) s.heap [] := ⟨hP0, hD0, va_S.rf⟩
  clear hP0 hD0 B
  unfold P_mo_isClear at h
  have he : entryFrame m args 4 = entryFrame m ([.ref (ad 0), .int x1, .int x2] : List Value).toArray 4 := by rw [hav]
  refine W.eq he ?_
  have hl := lv_entry ([.ref (ad 0), .int x1, .int x2]) (n := 4) (Nat.le_of_ble_eq_true rfl)
  rw [lg_entry_eq]
  generalize (lg_sl ([.ref (ad 0), .int x1, .int x2]) ++ List.replicate (4 - (lg_sl ([.ref (ad 0), .int x1, .int x2])).length) Slot.unset).toArray = ls at hl ⊢
  have hl : lv_has ls 4 [(0, .ref (ad 0)), (1, .int x1), (2, .int x2)] := hl
  refine lv_aload_n hx hb dX10_isClear_0 rfl (lv_at hl 0 rfl) ?_
  refine gM_mo_kind hx hb hts hin hown hK hw lk7 dX10_isClear_1 ?_
  refine lv_iload_n hx hb dX10_isClear_4 rfl (lv_at hl 2 rfl) ?_
  refine lv_aload_n hx hb dX10_isClear_5 rfl (lv_at hl 0 rfl) ?_
  refine gM_mo_wide hx hb hts hin hown hK hw lk68 dX10_isClear_6 ?_
  refine lv_imul hx hb dX10_isClear_9 ?_
  refine lv_iload_n hx hb dX10_isClear_10 rfl (lv_at hl 1 rfl) ?_
  refine lv_iadd hx hb dX10_isClear_11 ?_
  refine aM_mo_kind hx hb hK hw h.1 dX10_isClear_12 ?_
  replace h := h.2
  refine lv_topi (fun x3_13 ex3_13 => ?_)
  replace h := h x3_13 ex3_13
  refine lv_istore_n (lv' := [(3, .int x3_13), (0, .ref (ad 0)), (1, .int x1), (2, .int x2)]) hx hb dX10_isClear_13 rfl hl (by decide) rfl (fun ls hl => ?_)
  refine lv_iload_n hx hb dX10_isClear_14 rfl (lv_at hl 0 rfl) ?_
  refine lv_if_eq (tgt := 23) hx hb dX10_isClear_15 (by decide) (fun hc => ?_) (fun hc => ?_)
  · replace h := h.1 hc
    refine lv_iconst (v := 1) hx hb dX10_isClear_23 (by decide) ?_
    refine lv_goto (tgt := 28) hx hb dX10_isClear_24 (by decide) ?_
    rw [hZ]
    exact rt_z () hx hb hr hlocks hw (by decide) h dX10_isClear_28
  · replace h := h.2 hc
    refine lv_iload_n hx hb dX10_isClear_18 rfl (lv_at hl 0 rfl) ?_
    refine lv_iconst (v := 2) hx hb dX10_isClear_19 (by decide) ?_
    refine lv_icmp_ne (tgt := 27) hx hb dX10_isClear_20 (by decide) (fun hc => ?_) (fun hc => ?_)
    · replace h := h.2 hc
      refine lv_iconst (v := 0) hx hb dX10_isClear_27 (by decide) ?_
      rw [hZ]
      exact rt_z () hx hb hr hlocks hw (by decide) h dX10_isClear_28
    · replace h := h.1 hc
      refine lv_iconst (v := 1) hx hb dX10_isClear_23 (by decide) ?_
      refine lv_goto (tgt := 28) hx hb dX10_isClear_24 (by decide) ?_
      rw [hZ]
      exact rt_z () hx hb hr hlocks hw (by decide) h dX10_isClear_28
def rm_mo_hall : Room := { frames := 1, cells := 0, slots := 0, locals := 25 }
set_option maxHeartbeats 4000000 in
set_option maxRecDepth 100000 in
theorem c_mo_hall {l : Launch} {D : va_G} {cI cL cZ : ClassId} {mx my : Nat} {A : Nat → Prop} {ad : Nat → Nat} {mo_wide mo_tall mo_law mo_range mo_pictures mo_postMany : Int32} {mo_kind mo_queue mo_far mo_pictureCell mo_facing mo_sights mo_fewest mo_posts mo_left mo_roundMany mo_round mo_shift mo_thief mo_danger mo_old : Nat → Int32} (x1 : Int32) (x2 : Int32) {Q : Int32 → Int32 → Int32 → (Nat → Int32) → Int32 → (Nat → Int32) → (Nat → Int32) → Prop} (h : P_mo_hall mo_wide mo_tall mo_kind mo_pictures mo_roundMany mo_shift x1 x2 Q) : Met l yX10_hall wsX10_hall rm_mo_hall (va_Pc [.ref (ad 0), .int x1, .int x2] (WC D cI cL cZ mx my A (wdM cI cL cZ ad mo_wide mo_tall mo_kind mo_law mo_range mo_queue mo_far mo_pictures mo_pictureCell mo_facing mo_sights mo_fewest mo_posts mo_postMany mo_left mo_roundMany mo_round mo_shift mo_thief mo_danger mo_old))) (va_Qi (fun (r : Int32) (u : Int32 × Int32 × (Nat → Int32) × Int32 × (Nat → Int32) × (Nat → Int32)) => Q r u.1 u.2.1 u.2.2.1 u.2.2.2.1 u.2.2.2.2.1 u.2.2.2.2.2) (fun (u : Int32 × Int32 × (Nat → Int32) × Int32 × (Nat → Int32) × (Nat → Int32)) t => PW D A (wdM cI cL cZ ad u.1 u.2.1 u.2.2.1 mo_law mo_range mo_queue mo_far u.2.2.2.1 mo_pictureCell mo_facing mo_sights mo_fewest mo_posts mo_postMany mo_left u.2.2.2.2.1 mo_round u.2.2.2.2.2 mo_thief mo_danger mo_old) t.heap) A) 0 0 A := by
  refine Met.ofW (cc := cX10_hall) (maxL := 3) (ret := (some .int)) (by decide) rfl ?_
  intro p e s m args below meth c s₁ B hml hv
  obtain ⟨hav, hP0, hD0, hK⟩ := hv
  have hx := B.exec
  have hb := B.bytes
  have hr := B.returns
  have hts := atoms_spec (ws := wsX10_hall) B.pre
  have hown : s.vm.findClass RX10 = some m.cls := findClass_of_methodNamed B.named
  have hlocks := B.notSynchronized
  have hB : ∀ w ∈ BIG, w ∈ wsX10_hall := fun _ h => List.mem_cons_of_mem _ h
  obtain ⟨Z, hZ⟩ : ∃ Z : State → Prop, Z = MQ below (va_Qi (fun (r : Int32) (u : Int32 × Int32 × (Nat → Int32) × Int32 × (Nat → Int32) × (Nat → Int32)) => Q r u.1 u.2.1 u.2.2.1 u.2.2.2.1 u.2.2.2.2.1 u.2.2.2.2.2) (fun (u : Int32 × Int32 × (Nat → Int32) × Int32 × (Nat → Int32) × (Nat → Int32)) t => PW D A (wdM cI cL cZ ad u.1 u.2.1 u.2.2.1 mo_law mo_range mo_queue mo_far u.2.2.2.1 mo_pictureCell mo_facing mo_sights mo_fewest mo_posts mo_postMany mo_left u.2.2.2.2.1 mo_round u.2.2.2.2.2 mo_thief mo_danger mo_old) t.heap) A) args s 0 0 A := ⟨_, rfl⟩
  rw [← hZ]
  have hw : SW D A s.heap (wdM cI cL cZ ad mo_wide mo_tall mo_kind mo_law mo_range mo_queue mo_far mo_pictures mo_pictureCell mo_facing mo_sights mo_fewest mo_posts mo_postMany mo_left mo_roundMany mo_round mo_shift mo_thief mo_danger mo_old) s.heap [] := ⟨hP0, hD0, va_S.rf⟩
  clear hP0 hD0 B
  unfold P_mo_hall at h
  have he : entryFrame m args 3 = entryFrame m ([.ref (ad 0), .int x1, .int x2] : List Value).toArray 3 := by rw [hav]
  refine W.eq he ?_
  have hl := lv_entry ([.ref (ad 0), .int x1, .int x2]) (n := 3) (Nat.le_of_ble_eq_true rfl)
  rw [lg_entry_eq]
  generalize (lg_sl ([.ref (ad 0), .int x1, .int x2]) ++ List.replicate (3 - (lg_sl ([.ref (ad 0), .int x1, .int x2])).length) Slot.unset).toArray = ls at hl ⊢
  have hl : lv_has ls 3 [(0, .ref (ad 0)), (1, .int x1), (2, .int x2)] := hl
  refine lv_iload_n hx hb dX10_hall_0 rfl (lv_at hl 1 rfl) ?_
  refine lv_i2l hx hb dX10_hall_1 rfl ?_
  refine lv_ldc2 (v := (2)) hx hb hown (hts _ (hB _ m_1000)) dX10_hall_2 ?_
  refine lv_ldc2 (v := (8)) hx hb hown (hts _ (hB _ m_1001)) dX10_hall_5 ?_
  refine cS_i (As := [.long (Int32.toInt64 x1), .long (2 : Int64), .long (8 : Int64)]) (rest := []) ⟨hx, hb, hml, hown, hts⟩ hK hw (c_mo_in (Int32.toInt64 x1) (2 : Int64) (8 : Int64) h) (va_cwS 3 hts (gd_RX10_77 hB) rfl rfl rfl (by decide +kernel) ⟨Nat.le_of_ble_eq_true rfl, Nat.le_of_ble_eq_true rfl⟩) hl.1 ⟨Nat.zero_le _, Nat.zero_le _⟩ rfl rfl (Nat.le_of_ble_eq_true rfl) dX10_hall_8 (fun r8 _ H locs h hw => ?_)
  refine lv_if_eq (tgt := 28) hx hb dX10_hall_11 (by decide) (fun hc => ?_) (fun hc => ?_)
  · replace h := h.1 hc
    refine lv_bipush (v := (-2)) hx hb dX10_hall_28 (by decide) ?_
    rw [hZ]
    exact rt_i (mo_wide, mo_tall, mo_kind, mo_pictures, mo_roundMany, mo_shift) hx hb hr hlocks hw h dX10_hall_30
  · replace h := h.2 hc
    refine lv_iload_n hx hb dX10_hall_14 rfl (lv_at hl 2 rfl) ?_
    refine lv_i2l hx hb dX10_hall_15 rfl ?_
    refine lv_ldc2 (v := (2)) hx hb hown (hts _ (hB _ m_1000)) dX10_hall_16 ?_
    refine lv_ldc2 (v := (8)) hx hb hown (hts _ (hB _ m_1001)) dX10_hall_19 ?_
    refine cS_i (As := [.long (Int32.toInt64 x2), .long (2 : Int64), .long (8 : Int64)]) (rest := []) ⟨hx, hb, hml, hown, hts⟩ hK hw (c_mo_in (Int32.toInt64 x2) (2 : Int64) (8 : Int64) h) (va_cwS 3 hts (gd_RX10_77 hB) rfl rfl rfl (by decide +kernel) ⟨Nat.le_of_ble_eq_true rfl, Nat.le_of_ble_eq_true rfl⟩) hl.1 ⟨Nat.zero_le _, Nat.zero_le _⟩ rfl rfl (Nat.le_of_ble_eq_true rfl) dX10_hall_22 (fun r22 _ H locs h hw => ?_)
    refine lv_if_ne (tgt := 31) hx hb dX10_hall_25 (by decide) (fun hc => ?_) (fun hc => ?_)
    · replace h := h.2 hc
      refine lv_aload_n hx hb dX10_hall_31 rfl (lv_at hl 0 rfl) ?_
      refine lv_iload_n hx hb dX10_hall_32 rfl (lv_at hl 1 rfl) ?_
      refine lv_iload_n hx hb dX10_hall_33 rfl (lv_at hl 2 rfl) ?_
      refine cV_v (b := (ad 0)) (As := [.int x1, .int x2]) (rest := []) ⟨hx, hb, hml, hown, hts⟩ hK hw (c_mo_layHall x1 x2 h) (cwV 2 hts (gd_RX10_64 hB) rfl rfl rfl (by decide +kernel) ⟨Nat.le_of_ble_eq_true rfl, Nat.le_of_ble_eq_true rfl⟩) (rM_mo hK hw) hl.1 ⟨Nat.zero_le _, Nat.zero_le _⟩ rfl rfl (Nat.le_of_ble_eq_true rfl) dX10_hall_34 (fun u34 H locs h hw => ?_)
      obtain ⟨mo_wide_34, mo_tall_34, mo_kind_34, mo_pictures_34, mo_roundMany_34, mo_shift_34⟩ := u34
      refine lv_iload_n hx hb dX10_hall_37 rfl (lv_at hl 1 rfl) ?_
      refine lv_iload_n hx hb dX10_hall_38 rfl (lv_at hl 2 rfl) ?_
      refine lv_imul hx hb dX10_hall_39 ?_
      rw [hZ]
      exact rt_i (mo_wide_34, mo_tall_34, mo_kind_34, mo_pictures_34, mo_roundMany_34, mo_shift_34) hx hb hr hlocks hw h dX10_hall_40
    · replace h := h.1 hc
      refine lv_bipush (v := (-2)) hx hb dX10_hall_28 (by decide) ?_
      rw [hZ]
      exact rt_i (mo_wide, mo_tall, mo_kind, mo_pictures, mo_roundMany, mo_shift) hx hb hr hlocks hw h dX10_hall_30
def rm_mo_cell : Room := { frames := 2, cells := 0, slots := 0, locals := 46 }
set_option maxHeartbeats 4000000 in
set_option maxRecDepth 100000 in
theorem c_mo_cell {l : Launch} {D : va_G} {cI cL cZ : ClassId} {mx my : Nat} {A : Nat → Prop} {ad : Nat → Nat} {mo_wide mo_tall mo_law mo_range mo_pictures mo_postMany : Int32} {mo_kind mo_queue mo_far mo_pictureCell mo_facing mo_sights mo_fewest mo_posts mo_left mo_roundMany mo_round mo_shift mo_thief mo_danger mo_old : Nat → Int32} (x1 : Int32) (x2 : Int32) {Q : Int32 → (Nat → Int32) → Prop} (h : P_mo_cell mo_wide mo_tall mo_kind x1 x2 Q) : Met l yX10_cell wsX10_cell rm_mo_cell (va_Pc [.ref (ad 0), .int x1, .int x2] (WC D cI cL cZ mx my A (wdM cI cL cZ ad mo_wide mo_tall mo_kind mo_law mo_range mo_queue mo_far mo_pictures mo_pictureCell mo_facing mo_sights mo_fewest mo_posts mo_postMany mo_left mo_roundMany mo_round mo_shift mo_thief mo_danger mo_old))) (va_Qi (fun (r : Int32) (u : (Nat → Int32)) => Q r u) (fun (u : (Nat → Int32)) t => PW D A (wdM cI cL cZ ad mo_wide mo_tall u mo_law mo_range mo_queue mo_far mo_pictures mo_pictureCell mo_facing mo_sights mo_fewest mo_posts mo_postMany mo_left mo_roundMany mo_round mo_shift mo_thief mo_danger mo_old) t.heap) A) 0 0 A := by
  refine Met.ofW (cc := cX10_cell) (maxL := 4) (ret := (some .int)) (by decide) rfl ?_
  intro p e s m args below meth c s₁ B hml hv
  obtain ⟨hav, hP0, hD0, hK⟩ := hv
  have hx := B.exec
  have hb := B.bytes
  have hr := B.returns
  have hts := atoms_spec (ws := wsX10_cell) B.pre
  have hown : s.vm.findClass RX10 = some m.cls := findClass_of_methodNamed B.named
  have hlocks := B.notSynchronized
  have hB : ∀ w ∈ BIG, w ∈ wsX10_cell := fun _ h => List.mem_cons_of_mem _ h
  have hin : ∀ w ∈ wsX100, w ∈ wsX10_cell := fun w h => hB w (inB_X10 w h)
  have lk7 := hts _ (hB _ m_933)
  obtain ⟨Z, hZ⟩ : ∃ Z : State → Prop, Z = MQ below (va_Qi (fun (r : Int32) (u : (Nat → Int32)) => Q r u) (fun (u : (Nat → Int32)) t => PW D A (wdM cI cL cZ ad mo_wide mo_tall u mo_law mo_range mo_queue mo_far mo_pictures mo_pictureCell mo_facing mo_sights mo_fewest mo_posts mo_postMany mo_left mo_roundMany mo_round mo_shift mo_thief mo_danger mo_old) t.heap) A) args s 0 0 A := ⟨_, rfl⟩
  rw [← hZ]
  have hw : SW D A s.heap (wdM cI cL cZ ad mo_wide mo_tall mo_kind mo_law mo_range mo_queue mo_far mo_pictures mo_pictureCell mo_facing mo_sights mo_fewest mo_posts mo_postMany mo_left mo_roundMany mo_round mo_shift mo_thief mo_danger mo_old) s.heap [] := ⟨hP0, hD0, va_S.rf⟩
  clear hP0 hD0 B
  unfold P_mo_cell at h
  have he : entryFrame m args 4 = entryFrame m ([.ref (ad 0), .int x1, .int x2] : List Value).toArray 4 := by rw [hav]
  refine W.eq he ?_
  have hl := lv_entry ([.ref (ad 0), .int x1, .int x2]) (n := 4) (Nat.le_of_ble_eq_true rfl)
  rw [lg_entry_eq]
  generalize (lg_sl ([.ref (ad 0), .int x1, .int x2]) ++ List.replicate (4 - (lg_sl ([.ref (ad 0), .int x1, .int x2])).length) Slot.unset).toArray = ls at hl ⊢
  have hl : lv_has ls 4 [(0, .ref (ad 0)), (1, .int x1), (2, .int x2)] := hl
  refine lv_aload_n hx hb dX10_cell_0 rfl (lv_at hl 0 rfl) ?_
  refine lv_iload_n hx hb dX10_cell_1 rfl (lv_at hl 1 rfl) ?_
  refine cV_i (b := (ad 0)) (As := [.int x1]) (rest := []) ⟨hx, hb, hml, hown, hts⟩ hK hw (c_mo_isCell x1 h) (cwV 1 hts (gd_RX10_85 hB) rfl rfl rfl (by decide +kernel) ⟨Nat.le_of_ble_eq_true rfl, Nat.le_of_ble_eq_true rfl⟩) (rM_mo hK hw) hl.1 ⟨Nat.zero_le _, Nat.zero_le _⟩ rfl rfl (Nat.le_of_ble_eq_true rfl) dX10_cell_2 (fun r2 _ H locs h hw => ?_)
  refine lv_if_ne (tgt := 10) hx hb dX10_cell_5 (by decide) (fun hc => ?_) (fun hc => ?_)
  · replace h := h.2 hc
    refine lv_iload_n hx hb dX10_cell_10 rfl (lv_at hl 2 rfl) ?_
    refine lv_i2l hx hb dX10_cell_11 rfl ?_
    refine lv_lconst (v := 0) hx hb dX10_cell_12 (by decide) ?_
    refine lv_ldc2 (v := (3)) hx hb hown (hts _ (hB _ m_1013)) dX10_cell_13 ?_
    refine cS_i (As := [.long (Int32.toInt64 x2), .long (0 : Int64), .long (3 : Int64)]) (rest := []) ⟨hx, hb, hml, hown, hts⟩ hK hw (c_mo_in (Int32.toInt64 x2) (0 : Int64) (3 : Int64) h) (va_cwS 3 hts (gd_RX10_77 hB) rfl rfl rfl (by decide +kernel) ⟨Nat.le_of_ble_eq_true rfl, Nat.le_of_ble_eq_true rfl⟩) hl.1 ⟨Nat.zero_le _, Nat.zero_le _⟩ rfl rfl (Nat.le_of_ble_eq_true rfl) dX10_cell_16 (fun r16 _ H locs h hw => ?_)
    refine lv_if_ne (tgt := 25) hx hb dX10_cell_19 (by decide) (fun hc => ?_) (fun hc => ?_)
    · replace h := h.2 hc
      refine lv_aload_n hx hb dX10_cell_25 rfl (lv_at hl 0 rfl) ?_
      refine gM_mo_kind hx hb hts hin hown hK hw lk7 dX10_cell_26 ?_
      refine lv_iload_n hx hb dX10_cell_29 rfl (lv_at hl 1 rfl) ?_
      refine aM_mo_kind hx hb hK hw h.1 dX10_cell_30 ?_
      replace h := h.2
      refine lv_topi (fun x3_31 ex3_31 => ?_)
      replace h := h x3_31 ex3_31
      refine lv_istore_n (lv' := [(3, .int x3_31), (0, .ref (ad 0)), (1, .int x1), (2, .int x2)]) hx hb dX10_cell_31 rfl hl (by decide) rfl (fun ls hl => ?_)
      refine lv_aload_n hx hb dX10_cell_32 rfl (lv_at hl 1 rfl) ?_
      refine gM_mo_kind hx hb hts hin hown hK hw lk7 dX10_cell_33 ?_
      refine lv_iload_n hx hb dX10_cell_36 rfl (lv_at hl 2 rfl) ?_
      refine lv_iload_n hx hb dX10_cell_37 rfl (lv_at hl 3 rfl) ?_
      refine tM_mo_kind hx hb hK hw h.1 dX10_cell_38 (fun H locs hw => ?_)
      replace h := h.2
      refine lv_iload_n hx hb dX10_cell_39 rfl (lv_at hl 0 rfl) ?_
      rw [hZ]
      exact rt_i (upd mo_kind x1.toNatClampNeg x2) hx hb hr hlocks hw h dX10_cell_40
    · replace h := h.1 hc
      refine lv_bipush (v := (-2)) hx hb dX10_cell_22 (by decide) ?_
      rw [hZ]
      exact rt_i mo_kind hx hb hr hlocks hw h dX10_cell_24
  · replace h := h.1 hc
    refine lv_iconst (v := (-1)) hx hb dX10_cell_8 (by decide) ?_
    rw [hZ]
    exact rt_i mo_kind hx hb hr hlocks hw h dX10_cell_9
def rm_mo_kind : Room := { frames := 2, cells := 0, slots := 0, locals := 46 }
set_option maxHeartbeats 4000000 in
set_option maxRecDepth 100000 in
theorem c_mo_kind {l : Launch} {D : va_G} {cI cL cZ : ClassId} {mx my : Nat} {A : Nat → Prop} {ad : Nat → Nat} {mo_wide mo_tall mo_law mo_range mo_pictures mo_postMany : Int32} {mo_kind mo_queue mo_far mo_pictureCell mo_facing mo_sights mo_fewest mo_posts mo_left mo_roundMany mo_round mo_shift mo_thief mo_danger mo_old : Nat → Int32} (x1 : Int32) {Q : Int32 → Prop} (h : P_mo_kind mo_wide mo_tall mo_kind x1 Q) : Met l yX10_kind wsX10_kind rm_mo_kind (va_Pc [.ref (ad 0), .int x1] (WC D cI cL cZ mx my A (wdM cI cL cZ ad mo_wide mo_tall mo_kind mo_law mo_range mo_queue mo_far mo_pictures mo_pictureCell mo_facing mo_sights mo_fewest mo_posts mo_postMany mo_left mo_roundMany mo_round mo_shift mo_thief mo_danger mo_old))) (va_Qi (fun (r : Int32) (u : Unit) => Q r) (fun (u : Unit) t => PW D A (wdM cI cL cZ ad mo_wide mo_tall mo_kind mo_law mo_range mo_queue mo_far mo_pictures mo_pictureCell mo_facing mo_sights mo_fewest mo_posts mo_postMany mo_left mo_roundMany mo_round mo_shift mo_thief mo_danger mo_old) t.heap) A) 0 0 A := by
  refine Met.ofW (cc := cX10_kind) (maxL := 2) (ret := (some .int)) (by decide) rfl ?_
  intro p e s m args below meth c s₁ B hml hv
  obtain ⟨hav, hP0, hD0, hK⟩ := hv
  have hx := B.exec
  have hb := B.bytes
  have hr := B.returns
  have hts := atoms_spec (ws := wsX10_kind) B.pre
  have hown : s.vm.findClass RX10 = some m.cls := findClass_of_methodNamed B.named
  have hlocks := B.notSynchronized
  have hB : ∀ w ∈ BIG, w ∈ wsX10_kind := fun _ h => List.mem_cons_of_mem _ h
  have hin : ∀ w ∈ wsX100, w ∈ wsX10_kind := fun w h => hB w (inB_X10 w h)
  have lk7 := hts _ (hB _ m_933)
  obtain ⟨Z, hZ⟩ : ∃ Z : State → Prop, Z = MQ below (va_Qi (fun (r : Int32) (u : Unit) => Q r) (fun (u : Unit) t => PW D A (wdM cI cL cZ ad mo_wide mo_tall mo_kind mo_law mo_range mo_queue mo_far mo_pictures mo_pictureCell mo_facing mo_sights mo_fewest mo_posts mo_postMany mo_left mo_roundMany mo_round mo_shift mo_thief mo_danger mo_old) t.heap) A) args s 0 0 A := ⟨_, rfl⟩
  rw [← hZ]
  have hw : SW D A s.heap (wdM cI cL cZ ad mo_wide mo_tall mo_kind mo_law mo_range mo_queue mo_far mo_pictures mo_pictureCell mo_facing mo_sights mo_fewest mo_posts mo_postMany mo_left mo_roundMany mo_round mo_shift mo_thief mo_danger mo_old) s.heap [] := ⟨hP0, hD0, va_S.rf⟩
  clear hP0 hD0 B
  unfold P_mo_kind at h
  have he : entryFrame m args 2 = entryFrame m ([.ref (ad 0), .int x1] : List Value).toArray 2 := by rw [hav]
  refine W.eq he ?_
  have hl := lv_entry ([.ref (ad 0), .int x1]) (n := 2) (Nat.le_of_ble_eq_true rfl)
  rw [lg_entry_eq]
  generalize (lg_sl ([.ref (ad 0), .int x1]) ++ List.replicate (2 - (lg_sl ([.ref (ad 0), .int x1])).length) Slot.unset).toArray = ls at hl ⊢
  have hl : lv_has ls 2 [(0, .ref (ad 0)), (1, .int x1)] := hl
  refine lv_aload_n hx hb dX10_kind_0 rfl (lv_at hl 0 rfl) ?_
  refine lv_iload_n hx hb dX10_kind_1 rfl (lv_at hl 1 rfl) ?_
  refine cV_i (b := (ad 0)) (As := [.int x1]) (rest := []) ⟨hx, hb, hml, hown, hts⟩ hK hw (c_mo_isCell x1 h) (cwV 1 hts (gd_RX10_85 hB) rfl rfl rfl (by decide +kernel) ⟨Nat.le_of_ble_eq_true rfl, Nat.le_of_ble_eq_true rfl⟩) (rM_mo hK hw) hl.1 ⟨Nat.zero_le _, Nat.zero_le _⟩ rfl rfl (Nat.le_of_ble_eq_true rfl) dX10_kind_2 (fun r2 _ H locs h hw => ?_)
  refine lv_if_eq (tgt := 17) hx hb dX10_kind_5 (by decide) (fun hc => ?_) (fun hc => ?_)
  · replace h := h.1 hc
    refine lv_iconst (v := (-1)) hx hb dX10_kind_17 (by decide) ?_
    rw [hZ]
    exact rt_i () hx hb hr hlocks hw h dX10_kind_18
  · replace h := h.2 hc
    refine lv_aload_n hx hb dX10_kind_8 rfl (lv_at hl 0 rfl) ?_
    refine gM_mo_kind hx hb hts hin hown hK hw lk7 dX10_kind_9 ?_
    refine lv_iload_n hx hb dX10_kind_12 rfl (lv_at hl 1 rfl) ?_
    refine aM_mo_kind hx hb hK hw h.1 dX10_kind_13 ?_
    replace h := h.2
    refine lv_goto (tgt := 18) hx hb dX10_kind_14 (by decide) ?_
    rw [hZ]
    exact rt_i () hx hb hr hlocks hw h dX10_kind_18
def rm_mo_law : Room := { frames := 1, cells := 0, slots := 0, locals := 25 }
set_option maxHeartbeats 4000000 in
set_option maxRecDepth 100000 in
theorem c_mo_law {l : Launch} {D : va_G} {cI cL cZ : ClassId} {mx my : Nat} {A : Nat → Prop} {ad : Nat → Nat} {mo_wide mo_tall mo_law mo_range mo_pictures mo_postMany : Int32} {mo_kind mo_queue mo_far mo_pictureCell mo_facing mo_sights mo_fewest mo_posts mo_left mo_roundMany mo_round mo_shift mo_thief mo_danger mo_old : Nat → Int32} (x1 : Int32) {Q : Int32 → Int32 → Prop} (h : P_mo_law mo_law x1 Q) : Met l yX10_law wsX10_law rm_mo_law (va_Pc [.ref (ad 0), .int x1] (WC D cI cL cZ mx my A (wdM cI cL cZ ad mo_wide mo_tall mo_kind mo_law mo_range mo_queue mo_far mo_pictures mo_pictureCell mo_facing mo_sights mo_fewest mo_posts mo_postMany mo_left mo_roundMany mo_round mo_shift mo_thief mo_danger mo_old))) (va_Qi (fun (r : Int32) (u : Int32) => Q r u) (fun (u : Int32) t => PW D A (wdM cI cL cZ ad mo_wide mo_tall mo_kind u mo_range mo_queue mo_far mo_pictures mo_pictureCell mo_facing mo_sights mo_fewest mo_posts mo_postMany mo_left mo_roundMany mo_round mo_shift mo_thief mo_danger mo_old) t.heap) A) 0 0 A := by
  refine Met.ofW (cc := cX10_law) (maxL := 3) (ret := (some .int)) (by decide) rfl ?_
  intro p e s m args below meth c s₁ B hml hv
  obtain ⟨hav, hP0, hD0, hK⟩ := hv
  have hx := B.exec
  have hb := B.bytes
  have hr := B.returns
  have hts := atoms_spec (ws := wsX10_law) B.pre
  have hown : s.vm.findClass RX10 = some m.cls := findClass_of_methodNamed B.named
  have hlocks := B.notSynchronized
  have hB : ∀ w ∈ BIG, w ∈ wsX10_law := fun _ h => List.mem_cons_of_mem _ h
  have hin : ∀ w ∈ wsX100, w ∈ wsX10_law := fun w h => hB w (inB_X10 w h)
  have lk13 := hts _ (hB _ m_934)
  obtain ⟨Z, hZ⟩ : ∃ Z : State → Prop, Z = MQ below (va_Qi (fun (r : Int32) (u : Int32) => Q r u) (fun (u : Int32) t => PW D A (wdM cI cL cZ ad mo_wide mo_tall mo_kind u mo_range mo_queue mo_far mo_pictures mo_pictureCell mo_facing mo_sights mo_fewest mo_posts mo_postMany mo_left mo_roundMany mo_round mo_shift mo_thief mo_danger mo_old) t.heap) A) args s 0 0 A := ⟨_, rfl⟩
  rw [← hZ]
  have hw : SW D A s.heap (wdM cI cL cZ ad mo_wide mo_tall mo_kind mo_law mo_range mo_queue mo_far mo_pictures mo_pictureCell mo_facing mo_sights mo_fewest mo_posts mo_postMany mo_left mo_roundMany mo_round mo_shift mo_thief mo_danger mo_old) s.heap [] := ⟨hP0, hD0, va_S.rf⟩
  clear hP0 hD0 B
  unfold P_mo_law at h
  have he : entryFrame m args 3 = entryFrame m ([.ref (ad 0), .int x1] : List Value).toArray 3 := by rw [hav]
  refine W.eq he ?_
  have hl := lv_entry ([.ref (ad 0), .int x1]) (n := 3) (Nat.le_of_ble_eq_true rfl)
  rw [lg_entry_eq]
  generalize (lg_sl ([.ref (ad 0), .int x1]) ++ List.replicate (3 - (lg_sl ([.ref (ad 0), .int x1])).length) Slot.unset).toArray = ls at hl ⊢
  have hl : lv_has ls 3 [(0, .ref (ad 0)), (1, .int x1)] := hl
  refine lv_iload_n hx hb dX10_law_0 rfl (lv_at hl 1 rfl) ?_
  refine lv_i2l hx hb dX10_law_1 rfl ?_
  refine lv_lconst (v := 0) hx hb dX10_law_2 (by decide) ?_
  refine lv_ldc2 (v := (2)) hx hb hown (hts _ (hB _ m_1000)) dX10_law_3 ?_
  refine cS_i (As := [.long (Int32.toInt64 x1), .long (0 : Int64), .long (2 : Int64)]) (rest := []) ⟨hx, hb, hml, hown, hts⟩ hK hw (c_mo_in (Int32.toInt64 x1) (0 : Int64) (2 : Int64) h) (va_cwS 3 hts (gd_RX10_77 hB) rfl rfl rfl (by decide +kernel) ⟨Nat.le_of_ble_eq_true rfl, Nat.le_of_ble_eq_true rfl⟩) hl.1 ⟨Nat.zero_le _, Nat.zero_le _⟩ rfl rfl (Nat.le_of_ble_eq_true rfl) dX10_law_6 (fun r6 _ H locs h hw => ?_)
  refine lv_if_ne (tgt := 15) hx hb dX10_law_9 (by decide) (fun hc => ?_) (fun hc => ?_)
  · replace h := h.2 hc
    refine lv_aload_n hx hb dX10_law_15 rfl (lv_at hl 0 rfl) ?_
    refine gM_mo_law hx hb hts hin hown hK hw lk13 dX10_law_16 ?_
    refine lv_istore_n (lv' := [(2, .int mo_law), (0, .ref (ad 0)), (1, .int x1)]) hx hb dX10_law_19 rfl hl (by decide) rfl (fun ls hl => ?_)
    refine lv_aload_n hx hb dX10_law_20 rfl (lv_at hl 1 rfl) ?_
    refine lv_iload_n hx hb dX10_law_21 rfl (lv_at hl 2 rfl) ?_
    refine sM_mo_law hx hb hts hin hown hK hw lk13 dX10_law_22 (fun H locs hw => ?_)
    refine lv_iload_n hx hb dX10_law_25 rfl (lv_at hl 0 rfl) ?_
    rw [hZ]
    exact rt_i x1 hx hb hr hlocks hw h dX10_law_26
  · replace h := h.1 hc
    refine lv_bipush (v := (-2)) hx hb dX10_law_12 (by decide) ?_
    rw [hZ]
    exact rt_i mo_law hx hb hr hlocks hw h dX10_law_14
def rm_mo_range : Room := { frames := 1, cells := 0, slots := 0, locals := 25 }
set_option maxHeartbeats 4000000 in
set_option maxRecDepth 100000 in
theorem c_mo_range {l : Launch} {D : va_G} {cI cL cZ : ClassId} {mx my : Nat} {A : Nat → Prop} {ad : Nat → Nat} {mo_wide mo_tall mo_law mo_range mo_pictures mo_postMany : Int32} {mo_kind mo_queue mo_far mo_pictureCell mo_facing mo_sights mo_fewest mo_posts mo_left mo_roundMany mo_round mo_shift mo_thief mo_danger mo_old : Nat → Int32} (x1 : Int32) {Q : Int32 → Int32 → Prop} (h : P_mo_range mo_range x1 Q) : Met l yX10_range wsX10_range rm_mo_range (va_Pc [.ref (ad 0), .int x1] (WC D cI cL cZ mx my A (wdM cI cL cZ ad mo_wide mo_tall mo_kind mo_law mo_range mo_queue mo_far mo_pictures mo_pictureCell mo_facing mo_sights mo_fewest mo_posts mo_postMany mo_left mo_roundMany mo_round mo_shift mo_thief mo_danger mo_old))) (va_Qi (fun (r : Int32) (u : Int32) => Q r u) (fun (u : Int32) t => PW D A (wdM cI cL cZ ad mo_wide mo_tall mo_kind mo_law u mo_queue mo_far mo_pictures mo_pictureCell mo_facing mo_sights mo_fewest mo_posts mo_postMany mo_left mo_roundMany mo_round mo_shift mo_thief mo_danger mo_old) t.heap) A) 0 0 A := by
  refine Met.ofW (cc := cX10_range) (maxL := 3) (ret := (some .int)) (by decide) rfl ?_
  intro p e s m args below meth c s₁ B hml hv
  obtain ⟨hav, hP0, hD0, hK⟩ := hv
  have hx := B.exec
  have hb := B.bytes
  have hr := B.returns
  have hts := atoms_spec (ws := wsX10_range) B.pre
  have hown : s.vm.findClass RX10 = some m.cls := findClass_of_methodNamed B.named
  have hlocks := B.notSynchronized
  have hB : ∀ w ∈ BIG, w ∈ wsX10_range := fun _ h => List.mem_cons_of_mem _ h
  have hin : ∀ w ∈ wsX100, w ∈ wsX10_range := fun w h => hB w (inB_X10 w h)
  have lk17 := hts _ (hB _ m_935)
  obtain ⟨Z, hZ⟩ : ∃ Z : State → Prop, Z = MQ below (va_Qi (fun (r : Int32) (u : Int32) => Q r u) (fun (u : Int32) t => PW D A (wdM cI cL cZ ad mo_wide mo_tall mo_kind mo_law u mo_queue mo_far mo_pictures mo_pictureCell mo_facing mo_sights mo_fewest mo_posts mo_postMany mo_left mo_roundMany mo_round mo_shift mo_thief mo_danger mo_old) t.heap) A) args s 0 0 A := ⟨_, rfl⟩
  rw [← hZ]
  have hw : SW D A s.heap (wdM cI cL cZ ad mo_wide mo_tall mo_kind mo_law mo_range mo_queue mo_far mo_pictures mo_pictureCell mo_facing mo_sights mo_fewest mo_posts mo_postMany mo_left mo_roundMany mo_round mo_shift mo_thief mo_danger mo_old) s.heap [] := ⟨hP0, hD0, va_S.rf⟩
  clear hP0 hD0 B
  unfold P_mo_range at h
  have he : entryFrame m args 3 = entryFrame m ([.ref (ad 0), .int x1] : List Value).toArray 3 := by rw [hav]
  refine W.eq he ?_
  have hl := lv_entry ([.ref (ad 0), .int x1]) (n := 3) (Nat.le_of_ble_eq_true rfl)
  rw [lg_entry_eq]
  generalize (lg_sl ([.ref (ad 0), .int x1]) ++ List.replicate (3 - (lg_sl ([.ref (ad 0), .int x1])).length) Slot.unset).toArray = ls at hl ⊢
  have hl : lv_has ls 3 [(0, .ref (ad 0)), (1, .int x1)] := hl
  refine lv_iload_n hx hb dX10_range_0 rfl (lv_at hl 1 rfl) ?_
  refine lv_i2l hx hb dX10_range_1 rfl ?_
  refine lv_lconst (v := 1) hx hb dX10_range_2 (by decide) ?_
  refine lv_ldc2 (v := (8)) hx hb hown (hts _ (hB _ m_1001)) dX10_range_3 ?_
  refine cS_i (As := [.long (Int32.toInt64 x1), .long (1 : Int64), .long (8 : Int64)]) (rest := []) ⟨hx, hb, hml, hown, hts⟩ hK hw (c_mo_in (Int32.toInt64 x1) (1 : Int64) (8 : Int64) h) (va_cwS 3 hts (gd_RX10_77 hB) rfl rfl rfl (by decide +kernel) ⟨Nat.le_of_ble_eq_true rfl, Nat.le_of_ble_eq_true rfl⟩) hl.1 ⟨Nat.zero_le _, Nat.zero_le _⟩ rfl rfl (Nat.le_of_ble_eq_true rfl) dX10_range_6 (fun r6 _ H locs h hw => ?_)
  refine lv_if_ne (tgt := 15) hx hb dX10_range_9 (by decide) (fun hc => ?_) (fun hc => ?_)
  · replace h := h.2 hc
    refine lv_aload_n hx hb dX10_range_15 rfl (lv_at hl 0 rfl) ?_
    refine gM_mo_range hx hb hts hin hown hK hw lk17 dX10_range_16 ?_
    refine lv_istore_n (lv' := [(2, .int mo_range), (0, .ref (ad 0)), (1, .int x1)]) hx hb dX10_range_19 rfl hl (by decide) rfl (fun ls hl => ?_)
    refine lv_aload_n hx hb dX10_range_20 rfl (lv_at hl 1 rfl) ?_
    refine lv_iload_n hx hb dX10_range_21 rfl (lv_at hl 2 rfl) ?_
    refine sM_mo_range hx hb hts hin hown hK hw lk17 dX10_range_22 (fun H locs hw => ?_)
    refine lv_iload_n hx hb dX10_range_25 rfl (lv_at hl 0 rfl) ?_
    rw [hZ]
    exact rt_i x1 hx hb hr hlocks hw h dX10_range_26
  · replace h := h.1 hc
    refine lv_bipush (v := (-2)) hx hb dX10_range_12 (by decide) ?_
    rw [hZ]
    exact rt_i mo_range hx hb hr hlocks hw h dX10_range_14
def rm_mo_beside : Room := { frames := 1, cells := 0, slots := 0, locals := 25 }
set_option maxHeartbeats 4000000 in
set_option maxRecDepth 100000 in
theorem c_mo_beside {l : Launch} {D : va_G} {cI cL cZ : ClassId} {mx my : Nat} {A : Nat → Prop} {ad : Nat → Nat} {mo_wide mo_tall mo_law mo_range mo_pictures mo_postMany : Int32} {mo_kind mo_queue mo_far mo_pictureCell mo_facing mo_sights mo_fewest mo_posts mo_left mo_roundMany mo_round mo_shift mo_thief mo_danger mo_old : Nat → Int32} (x1 : Int32) (x2 : Int32) {Q : Int32 → Prop} (h : P_mo_beside mo_wide mo_tall mo_kind x1 x2 Q) : Met l yX10_beside wsX10_beside rm_mo_beside (va_Pc [.ref (ad 0), .int x1, .int x2] (WC D cI cL cZ mx my A (wdM cI cL cZ ad mo_wide mo_tall mo_kind mo_law mo_range mo_queue mo_far mo_pictures mo_pictureCell mo_facing mo_sights mo_fewest mo_posts mo_postMany mo_left mo_roundMany mo_round mo_shift mo_thief mo_danger mo_old))) (va_Qi (fun (r : Int32) (u : Unit) => Q r) (fun (u : Unit) t => PW D A (wdM cI cL cZ ad mo_wide mo_tall mo_kind mo_law mo_range mo_queue mo_far mo_pictures mo_pictureCell mo_facing mo_sights mo_fewest mo_posts mo_postMany mo_left mo_roundMany mo_round mo_shift mo_thief mo_danger mo_old) t.heap) A) 0 0 A := by
  refine Met.ofW (cc := cX10_beside) (maxL := 6) (ret := (some .int)) (by decide) rfl ?_
  intro p e s m args below meth c s₁ B hml hv
  obtain ⟨hav, hP0, hD0, hK⟩ := hv
  have hx := B.exec
  have hb := B.bytes
  have hr := B.returns
  have hts := atoms_spec (ws := wsX10_beside) B.pre
  have hown : s.vm.findClass RX10 = some m.cls := findClass_of_methodNamed B.named
  have hlocks := B.notSynchronized
  have hB : ∀ w ∈ BIG, w ∈ wsX10_beside := fun _ h => List.mem_cons_of_mem _ h
  have hin : ∀ w ∈ wsX100, w ∈ wsX10_beside := fun w h => hB w (inB_X10 w h)
  have lk68 := hts _ (hB _ m_931)
  have lk71 := hts _ (hB _ m_932)
  obtain ⟨Z, hZ⟩ : ∃ Z : State → Prop, Z = MQ below (va_Qi (fun (r : Int32) (u : Unit) => Q r) (fun (u : Unit) t => PW D A (wdM cI cL cZ ad mo_wide mo_tall mo_kind mo_law mo_range mo_queue mo_far mo_pictures mo_pictureCell mo_facing mo_sights mo_fewest mo_posts mo_postMany mo_left mo_roundMany mo_round mo_shift mo_thief mo_danger mo_old) t.heap) A) args s 0 0 A := ⟨_, rfl⟩
  rw [← hZ]
  have hw : SW D A s.heap (wdM cI cL cZ ad mo_wide mo_tall mo_kind mo_law mo_range mo_queue mo_far mo_pictures mo_pictureCell mo_facing mo_sights mo_fewest mo_posts mo_postMany mo_left mo_roundMany mo_round mo_shift mo_thief mo_danger mo_old) s.heap [] := ⟨hP0, hD0, va_S.rf⟩
  clear hP0 hD0 B
  have J116 : ∀ (_ : True) (x3 : Int32) (x4 : Int32) (y0 : Int32) , B_mo_beside_116 mo_wide Q x3 x4 y0 → ∀ (H : Heap) (locs : List Loc) (ls : Array Slot), SW D A s.heap (wdM cI cL cZ ad mo_wide mo_tall mo_kind mo_law mo_range mo_queue mo_far mo_pictures mo_pictureCell mo_facing mo_sights mo_fewest mo_posts mo_postMany mo_left mo_roundMany mo_round mo_shift mo_thief mo_danger mo_old) H locs → lv_has ls 6 [(0, .ref (ad 0)), (3, .int x3), (4, .int x4)] → W p l e (headSpec wsX10_beside rm_mo_beside).room s m args below meth c H locs 0 0 Z (F0 m 116 ls [.int y0]) := by
    intro _  x3 x4 y0 h H locs ls hw hl
    unfold B_mo_beside_116 at h
    refine lv_istore (lv' := [(5, .int y0), (0, .ref (ad 0)), (3, .int x3), (4, .int x4)]) hx hb dX10_beside_116 hl (by decide) rfl (fun ls hl => ?_)
    refine lv_iload hx hb dX10_beside_118 (lv_at hl 0 rfl) ?_
    refine lv_if_eq (tgt := 135) hx hb dX10_beside_120 (by decide) (fun hc => ?_) (fun hc => ?_)
    · replace h := h.1 hc
      refine lv_bipush (v := (-9)) hx hb dX10_beside_135 (by decide) ?_
      rw [hZ]
      exact rt_i () hx hb hr hlocks hw h dX10_beside_137
    · replace h := h.2 hc
      refine lv_iload hx hb dX10_beside_123 (lv_at hl 3 rfl) ?_
      refine lv_aload_n hx hb dX10_beside_125 rfl (lv_at hl 1 rfl) ?_
      refine gM_mo_wide hx hb hts hin hown hK hw lk68 dX10_beside_126 ?_
      refine lv_imul hx hb dX10_beside_129 ?_
      refine lv_iload_n hx hb dX10_beside_130 rfl (lv_at hl 2 rfl) ?_
      refine lv_iadd hx hb dX10_beside_131 ?_
      refine lv_goto (tgt := 137) hx hb dX10_beside_132 (by decide) ?_
      rw [hZ]
      exact rt_i () hx hb hr hlocks hw h dX10_beside_137
  have J51 : ∀ (_ : True) (x1 : Int32) (x3 : Int32) (y0 : Int32) (y1 : Int32) , B_mo_beside_51 mo_wide mo_tall mo_kind Q x1 x3 y0 y1 → ∀ (H : Heap) (locs : List Loc) (ls : Array Slot), SW D A s.heap (wdM cI cL cZ ad mo_wide mo_tall mo_kind mo_law mo_range mo_queue mo_far mo_pictures mo_pictureCell mo_facing mo_sights mo_fewest mo_posts mo_postMany mo_left mo_roundMany mo_round mo_shift mo_thief mo_danger mo_old) H locs → lv_has ls 6 [(0, .ref (ad 0)), (1, .int x1), (3, .int x3)] → W p l e (headSpec wsX10_beside rm_mo_beside).room s m args below meth c H locs 0 0 Z (F0 m 51 ls [.int y1, .int y0]) := by
    intro _  x1 x3 y0 y1 h H locs ls hw hl
    unfold B_mo_beside_51 at h
    refine lv_iadd hx hb dX10_beside_51 ?_
    refine lv_topi (fun x4_52 ex4_52 => ?_)
    replace h := h x4_52 ex4_52
    refine lv_istore (lv' := [(4, .int x4_52), (0, .ref (ad 0)), (1, .int x1), (3, .int x3)]) hx hb dX10_beside_52 hl (by decide) rfl (fun ls hl => ?_)
    refine lv_iload_n hx hb dX10_beside_54 rfl (lv_at hl 3 rfl) ?_
    refine lv_i2l hx hb dX10_beside_55 rfl ?_
    refine lv_lconst (v := 0) hx hb dX10_beside_56 (by decide) ?_
    refine lv_aload_n hx hb dX10_beside_57 rfl (lv_at hl 1 rfl) ?_
    refine gM_mo_wide hx hb hts hin hown hK hw lk68 dX10_beside_58 ?_
    refine lv_iconst (v := 1) hx hb dX10_beside_61 (by decide) ?_
    refine lv_isub hx hb dX10_beside_62 ?_
    refine lv_i2l hx hb dX10_beside_63 rfl ?_
    refine cS_i (As := [.long (Int32.toInt64 x3), .long (0 : Int64), .long (Int32.toInt64 (mo_wide - (1 : Int32)))]) (rest := []) ⟨hx, hb, hml, hown, hts⟩ hK hw (c_mo_in (Int32.toInt64 x3) (0 : Int64) (Int32.toInt64 (mo_wide - (1 : Int32))) h) (va_cwS 3 hts (gd_RX10_77 hB) rfl rfl rfl (by decide +kernel) ⟨Nat.le_of_ble_eq_true rfl, Nat.le_of_ble_eq_true rfl⟩) hl.1 ⟨Nat.zero_le _, Nat.zero_le _⟩ rfl rfl (Nat.le_of_ble_eq_true rfl) dX10_beside_64 (fun r64 _ H locs h hw => ?_)
    refine lv_if_eq (tgt := 115) hx hb dX10_beside_67 (by decide) (fun hc => ?_) (fun hc => ?_)
    · replace h := h.1 hc
      refine lv_iconst (v := 0) hx hb dX10_beside_115 (by decide) ?_
      exact J116 trivial  _ _ _ h _ _ _ hw (lv_sub hl [1, 3, 0] rfl)
    · replace h := h.2 hc
      refine lv_iload hx hb dX10_beside_70 (lv_at hl 0 rfl) ?_
      refine lv_i2l hx hb dX10_beside_72 rfl ?_
      refine lv_lconst (v := 0) hx hb dX10_beside_73 (by decide) ?_
      refine lv_aload_n hx hb dX10_beside_74 rfl (lv_at hl 1 rfl) ?_
      refine gM_mo_tall hx hb hts hin hown hK hw lk71 dX10_beside_75 ?_
      refine lv_iconst (v := 1) hx hb dX10_beside_78 (by decide) ?_
      refine lv_isub hx hb dX10_beside_79 ?_
      refine lv_i2l hx hb dX10_beside_80 rfl ?_
      refine cS_i (As := [.long (Int32.toInt64 x4_52), .long (0 : Int64), .long (Int32.toInt64 (mo_tall - (1 : Int32)))]) (rest := []) ⟨hx, hb, hml, hown, hts⟩ hK hw (c_mo_in (Int32.toInt64 x4_52) (0 : Int64) (Int32.toInt64 (mo_tall - (1 : Int32))) h) (va_cwS 3 hts (gd_RX10_77 hB) rfl rfl rfl (by decide +kernel) ⟨Nat.le_of_ble_eq_true rfl, Nat.le_of_ble_eq_true rfl⟩) hl.1 ⟨Nat.zero_le _, Nat.zero_le _⟩ rfl rfl (Nat.le_of_ble_eq_true rfl) dX10_beside_81 (fun r81 _ H locs h hw => ?_)
      refine lv_if_eq (tgt := 115) hx hb dX10_beside_84 (by decide) (fun hc => ?_) (fun hc => ?_)
      · replace h := h.1 hc
        refine lv_iconst (v := 0) hx hb dX10_beside_115 (by decide) ?_
        exact J116 trivial  _ _ _ h _ _ _ hw (lv_sub hl [1, 3, 0] rfl)
      · replace h := h.2 hc
        refine lv_aload_n hx hb dX10_beside_87 rfl (lv_at hl 1 rfl) ?_
        refine lv_iload hx hb dX10_beside_88 (lv_at hl 0 rfl) ?_
        refine lv_aload_n hx hb dX10_beside_90 rfl (lv_at hl 1 rfl) ?_
        refine gM_mo_wide hx hb hts hin hown hK hw lk68 dX10_beside_91 ?_
        refine lv_imul hx hb dX10_beside_94 ?_
        refine lv_iload_n hx hb dX10_beside_95 rfl (lv_at hl 3 rfl) ?_
        refine lv_iadd hx hb dX10_beside_96 ?_
        refine cV_i (b := (ad 0)) (As := [.int ((x4_52 * mo_wide) + x3)]) (rest := []) ⟨hx, hb, hml, hown, hts⟩ hK hw (c_mo_stands ((x4_52 * mo_wide) + x3) h) (cwV 1 hts (gd_RX10_91 hB) rfl rfl rfl (by decide +kernel) ⟨Nat.le_of_ble_eq_true rfl, Nat.le_of_ble_eq_true rfl⟩) (rM_mo hK hw) hl.1 ⟨Nat.zero_le _, Nat.zero_le _⟩ rfl rfl (Nat.le_of_ble_eq_true rfl) dX10_beside_97 (fun r97 _ H locs h hw => ?_)
        refine lv_if_eq (tgt := 115) hx hb dX10_beside_100 (by decide) (fun hc => ?_) (fun hc => ?_)
        · replace h := h.1 hc
          refine lv_iconst (v := 0) hx hb dX10_beside_115 (by decide) ?_
          exact J116 trivial  _ _ _ h _ _ _ hw (lv_sub hl [1, 3, 0] rfl)
        · replace h := h.2 hc
          refine lv_aload_n hx hb dX10_beside_103 rfl (lv_at hl 1 rfl) ?_
          refine lv_iload_n hx hb dX10_beside_104 rfl (lv_at hl 2 rfl) ?_
          refine cV_i (b := (ad 0)) (As := [.int x1]) (rest := []) ⟨hx, hb, hml, hown, hts⟩ hK hw (c_mo_stands x1 h) (cwV 1 hts (gd_RX10_91 hB) rfl rfl rfl (by decide +kernel) ⟨Nat.le_of_ble_eq_true rfl, Nat.le_of_ble_eq_true rfl⟩) (rM_mo hK hw) hl.1 ⟨Nat.zero_le _, Nat.zero_le _⟩ rfl rfl (Nat.le_of_ble_eq_true rfl) dX10_beside_105 (fun r105 _ H locs h hw => ?_)
          refine lv_if_eq (tgt := 115) hx hb dX10_beside_108 (by decide) (fun hc => ?_) (fun hc => ?_)
          · replace h := h.1 hc
            refine lv_iconst (v := 0) hx hb dX10_beside_115 (by decide) ?_
            exact J116 trivial  _ _ _ h _ _ _ hw (lv_sub hl [1, 3, 0] rfl)
          · replace h := h.2 hc
            refine lv_iconst (v := 1) hx hb dX10_beside_111 (by decide) ?_
            refine lv_goto (tgt := 116) hx hb dX10_beside_112 (by decide) ?_
            exact J116 trivial  _ _ _ h _ _ _ hw (lv_sub hl [1, 3, 0] rfl)
  have J24 : ∀ (_ : True) (x1 : Int32) (x2 : Int32) (y0 : Int32) (y1 : Int32) , B_mo_beside_24 mo_wide mo_tall mo_kind Q x1 x2 y0 y1 → ∀ (H : Heap) (locs : List Loc) (ls : Array Slot), SW D A s.heap (wdM cI cL cZ ad mo_wide mo_tall mo_kind mo_law mo_range mo_queue mo_far mo_pictures mo_pictureCell mo_facing mo_sights mo_fewest mo_posts mo_postMany mo_left mo_roundMany mo_round mo_shift mo_thief mo_danger mo_old) H locs → lv_has ls 6 [(0, .ref (ad 0)), (1, .int x1), (2, .int x2)] → W p l e (headSpec wsX10_beside rm_mo_beside).room s m args below meth c H locs 0 0 Z (F0 m 24 ls [.int y1, .int y0]) := by
    intro _  x1 x2 y0 y1 h H locs ls hw hl
    unfold B_mo_beside_24 at h
    refine lv_iadd hx hb dX10_beside_24 ?_
    refine lv_topi (fun x3_25 ex3_25 => ?_)
    replace h := h x3_25 ex3_25
    refine lv_istore_n (lv' := [(3, .int x3_25), (0, .ref (ad 0)), (1, .int x1), (2, .int x2)]) hx hb dX10_beside_25 rfl hl (by decide) rfl (fun ls hl => ?_)
    refine lv_iload_n hx hb dX10_beside_26 rfl (lv_at hl 2 rfl) ?_
    refine lv_aload_n hx hb dX10_beside_27 rfl (lv_at hl 1 rfl) ?_
    refine gM_mo_wide hx hb hts hin hown hK hw lk68 dX10_beside_28 ?_
    refine lv_idiv hx hb dX10_beside_31 h.1 ?_
    replace h := h.2
    refine lv_iload_n hx hb dX10_beside_32 rfl (lv_at hl 3 rfl) ?_
    refine lv_iconst (v := 1) hx hb dX10_beside_33 (by decide) ?_
    refine lv_icmp_ne (tgt := 41) hx hb dX10_beside_34 (by decide) (fun hc => ?_) (fun hc => ?_)
    · replace h := h.2 hc
      refine lv_iload_n hx hb dX10_beside_41 rfl (lv_at hl 3 rfl) ?_
      refine lv_iconst (v := 3) hx hb dX10_beside_42 (by decide) ?_
      refine lv_icmp_ne (tgt := 50) hx hb dX10_beside_43 (by decide) (fun hc => ?_) (fun hc => ?_)
      · replace h := h.2 hc
        refine lv_iconst (v := 0) hx hb dX10_beside_50 (by decide) ?_
        exact J51 trivial  _ _ _ _ h _ _ _ hw (lv_sub hl [1, 2, 0] rfl)
      · replace h := h.1 hc
        refine lv_iconst (v := (-1)) hx hb dX10_beside_46 (by decide) ?_
        refine lv_goto (tgt := 51) hx hb dX10_beside_47 (by decide) ?_
        exact J51 trivial  _ _ _ _ h _ _ _ hw (lv_sub hl [1, 2, 0] rfl)
    · replace h := h.1 hc
      refine lv_iconst (v := 1) hx hb dX10_beside_37 (by decide) ?_
      refine lv_goto (tgt := 51) hx hb dX10_beside_38 (by decide) ?_
      exact J51 trivial  _ _ _ _ h _ _ _ hw (lv_sub hl [1, 2, 0] rfl)
  unfold P_mo_beside at h
  have he : entryFrame m args 6 = entryFrame m ([.ref (ad 0), .int x1, .int x2] : List Value).toArray 6 := by rw [hav]
  refine W.eq he ?_
  have hl := lv_entry ([.ref (ad 0), .int x1, .int x2]) (n := 6) (Nat.le_of_ble_eq_true rfl)
  rw [lg_entry_eq]
  generalize (lg_sl ([.ref (ad 0), .int x1, .int x2]) ++ List.replicate (6 - (lg_sl ([.ref (ad 0), .int x1, .int x2])).length) Slot.unset).toArray = ls at hl ⊢
  have hl : lv_has ls 6 [(0, .ref (ad 0)), (1, .int x1), (2, .int x2)] := hl
  refine lv_iload_n hx hb dX10_beside_0 rfl (lv_at hl 1 rfl) ?_
  refine lv_aload_n hx hb dX10_beside_1 rfl (lv_at hl 0 rfl) ?_
  refine gM_mo_wide hx hb hts hin hown hK hw lk68 dX10_beside_2 ?_
  refine lv_irem hx hb dX10_beside_5 h.1 ?_
  replace h := h.2
  refine lv_iload_n hx hb dX10_beside_6 rfl (lv_at hl 2 rfl) ?_
  refine lv_if_ne (tgt := 14) hx hb dX10_beside_7 (by decide) (fun hc => ?_) (fun hc => ?_)
  · replace h := h.2 hc
    refine lv_iload_n hx hb dX10_beside_14 rfl (lv_at hl 2 rfl) ?_
    refine lv_iconst (v := 2) hx hb dX10_beside_15 (by decide) ?_
    refine lv_icmp_ne (tgt := 23) hx hb dX10_beside_16 (by decide) (fun hc => ?_) (fun hc => ?_)
    · replace h := h.2 hc
      refine lv_iconst (v := 0) hx hb dX10_beside_23 (by decide) ?_
      exact J24 trivial  _ _ _ _ h _ _ _ hw (lv_sub hl [0, 1, 2] rfl)
    · replace h := h.1 hc
      refine lv_iconst (v := (-1)) hx hb dX10_beside_19 (by decide) ?_
      refine lv_goto (tgt := 24) hx hb dX10_beside_20 (by decide) ?_
      exact J24 trivial  _ _ _ _ h _ _ _ hw (lv_sub hl [0, 1, 2] rfl)
  · replace h := h.1 hc
    refine lv_iconst (v := 1) hx hb dX10_beside_10 (by decide) ?_
    refine lv_goto (tgt := 24) hx hb dX10_beside_11 (by decide) ?_
    exact J24 trivial  _ _ _ _ h _ _ _ hw (lv_sub hl [0, 1, 2] rfl)
def rm_mo_layFar : Room := { frames := 2, cells := 0, slots := 0, locals := 50 }
set_option maxHeartbeats 4000000 in
set_option maxRecDepth 100000 in
theorem c_mo_layFar {l : Launch} {D : va_G} {cI cL cZ : ClassId} {mx my : Nat} {A : Nat → Prop} {ad : Nat → Nat} {mo_wide mo_tall mo_law mo_range mo_pictures mo_postMany : Int32} {mo_kind mo_queue mo_far mo_pictureCell mo_facing mo_sights mo_fewest mo_posts mo_left mo_roundMany mo_round mo_shift mo_thief mo_danger mo_old : Nat → Int32} (x1 : Int32) {Q : (Nat → Int32) → (Nat → Int32) → Prop} (h : P_mo_layFar mo_wide mo_tall mo_kind mo_queue mo_far x1 Q) : Met l yX10_layFar wsX10_layFar rm_mo_layFar (va_Pc [.ref (ad 0), .int x1] (WC D cI cL cZ mx my A (wdM cI cL cZ ad mo_wide mo_tall mo_kind mo_law mo_range mo_queue mo_far mo_pictures mo_pictureCell mo_facing mo_sights mo_fewest mo_posts mo_postMany mo_left mo_roundMany mo_round mo_shift mo_thief mo_danger mo_old))) (va_Qv (fun (u : (Nat → Int32) × (Nat → Int32)) => Q u.1 u.2) (fun (u : (Nat → Int32) × (Nat → Int32)) t => PW D A (wdM cI cL cZ ad mo_wide mo_tall mo_kind mo_law mo_range u.1 u.2 mo_pictures mo_pictureCell mo_facing mo_sights mo_fewest mo_posts mo_postMany mo_left mo_roundMany mo_round mo_shift mo_thief mo_danger mo_old) t.heap) A) 0 0 A := by
  refine Met.ofW (cc := cX10_layFar) (maxL := 6) (ret := none) (by decide) rfl ?_
  intro p e s m args below meth c s₁ B hml hv
  obtain ⟨hav, hP0, hD0, hK⟩ := hv
  have hx := B.exec
  have hb := B.bytes
  have hr := B.returns
  have hts := atoms_spec (ws := wsX10_layFar) B.pre
  have hown : s.vm.findClass RX10 = some m.cls := findClass_of_methodNamed B.named
  have hlocks := B.notSynchronized
  have hB : ∀ w ∈ BIG, w ∈ wsX10_layFar := fun _ h => List.mem_cons_of_mem _ h
  have hin : ∀ w ∈ wsX100, w ∈ wsX10_layFar := fun w h => hB w (inB_X10 w h)
  have lk21 := hts _ (hB _ m_936)
  have lk24 := hts _ (hB _ m_937)
  obtain ⟨Z, hZ⟩ : ∃ Z : State → Prop, Z = MQ below (va_Qv (fun (u : (Nat → Int32) × (Nat → Int32)) => Q u.1 u.2) (fun (u : (Nat → Int32) × (Nat → Int32)) t => PW D A (wdM cI cL cZ ad mo_wide mo_tall mo_kind mo_law mo_range u.1 u.2 mo_pictures mo_pictureCell mo_facing mo_sights mo_fewest mo_posts mo_postMany mo_left mo_roundMany mo_round mo_shift mo_thief mo_danger mo_old) t.heap) A) args s 0 0 A := ⟨_, rfl⟩
  rw [← hZ]
  have hw : SW D A s.heap (wdM cI cL cZ ad mo_wide mo_tall mo_kind mo_law mo_range mo_queue mo_far mo_pictures mo_pictureCell mo_facing mo_sights mo_fewest mo_posts mo_postMany mo_left mo_roundMany mo_round mo_shift mo_thief mo_danger mo_old) s.heap [] := ⟨hP0, hD0, va_S.rf⟩
  clear hP0 hD0 B
  have J48 : ∀ (k40 : (Nat → Int32) → (Nat → Int32) → Int32 → Int32 → Prop) (hk40 : ∀ (mo_queue : (Nat → Int32)) (mo_far : (Nat → Int32)) (x2 : Int32) (x3 : Int32) , k40 mo_queue mo_far x2 x3 → ∀ (H : Heap) (locs : List Loc) (ls : Array Slot), SW D A s.heap (wdM cI cL cZ ad mo_wide mo_tall mo_kind mo_law mo_range mo_queue mo_far mo_pictures mo_pictureCell mo_facing mo_sights mo_fewest mo_posts mo_postMany mo_left mo_roundMany mo_round mo_shift mo_thief mo_danger mo_old) H locs → lv_has ls 6 [(0, .ref (ad 0)), (2, .int x2), (3, .int x3)] → W p l e (headSpec wsX10_layFar rm_mo_layFar).room s m args below meth c H locs 0 0 Z (F0 m 40 ls [])) (n : Nat) (mo_queue : (Nat → Int32)) (mo_far : (Nat → Int32)) (x2 : Int32) (x3 : Int32) (x4 : Int32) , L_mo_layFar_48 mo_wide mo_tall mo_kind Q k40 n mo_queue mo_far x2 x3 x4 → ∀ (H : Heap) (locs : List Loc) (ls : Array Slot), SW D A s.heap (wdM cI cL cZ ad mo_wide mo_tall mo_kind mo_law mo_range mo_queue mo_far mo_pictures mo_pictureCell mo_facing mo_sights mo_fewest mo_posts mo_postMany mo_left mo_roundMany mo_round mo_shift mo_thief mo_danger mo_old) H locs → lv_has ls 6 [(0, .ref (ad 0)), (2, .int x2), (3, .int x3), (4, .int x4)] → W p l e (headSpec wsX10_layFar rm_mo_layFar).room s m args below meth c H locs 0 0 Z (F0 m 48 ls []) := by
    intro k40 hk40 n
    induction n with
    | zero => intro mo_queue mo_far x2 x3 x4 h; exact h.elim
    | succ n ih =>
    intro mo_queue mo_far x2 x3 x4 h H locs ls hw hl
    unfold L_mo_layFar_48 at h
    refine lv_iload hx hb dX10_layFar_48 (lv_at hl 3 rfl) ?_
    refine lv_iconst (v := 4) hx hb dX10_layFar_50 (by decide) ?_
    refine lv_icmp_ge (tgt := 124) hx hb dX10_layFar_51 (by decide) (fun hc => ?_) (fun hc => ?_)
    · replace h := h.1 hc
      refine lv_iinc (v := (x3 + (1 : Int32))) (lv' := [(3, .int (x3 + (1 : Int32))), (0, .ref (ad 0)), (2, .int x2), (4, .int x4)]) hx hb dX10_layFar_124 hl (k := 2) rfl rfl (by decide) rfl (fun ls hl => ?_)
      refine lv_goto (tgt := 40) hx hb dX10_layFar_127 (by decide) ?_
      exact hk40 _ _ _ _ h _ _ _ hw (lv_sub hl [1, 2, 0] rfl)
    · replace h := h.2 hc
      refine lv_aload_n hx hb dX10_layFar_54 rfl (lv_at hl 0 rfl) ?_
      refine lv_aload_n hx hb dX10_layFar_55 rfl (lv_at hl 0 rfl) ?_
      refine gM_mo_queue hx hb hts hin hown hK hw lk21 dX10_layFar_56 ?_
      refine lv_iload_n hx hb dX10_layFar_59 rfl (lv_at hl 2 rfl) ?_
      refine aM_mo_queue hx hb hK hw h.1 dX10_layFar_60 ?_
      replace h := h.2
      refine lv_iload hx hb dX10_layFar_61 (lv_at hl 3 rfl) ?_
      refine cV_i (b := (ad 0)) (As := [.int (mo_queue x3.toNatClampNeg), .int x4]) (rest := []) ⟨hx, hb, hml, hown, hts⟩ hK hw (c_mo_beside (mo_queue x3.toNatClampNeg) x4 h) (cwV 2 hts (gd_RX10_94 hB) rfl rfl rfl (by decide +kernel) ⟨Nat.le_of_ble_eq_true rfl, Nat.le_of_ble_eq_true rfl⟩) (rM_mo hK hw) hl.1 ⟨Nat.zero_le _, Nat.zero_le _⟩ rfl rfl (Nat.le_of_ble_eq_true rfl) dX10_layFar_63 (fun r63 _ H locs h hw => ?_)
      refine lv_istore (lv' := [(5, .int r63), (0, .ref (ad 0)), (2, .int x2), (3, .int x3), (4, .int x4)]) hx hb dX10_layFar_66 hl (by decide) rfl (fun ls hl => ?_)
      refine lv_iload hx hb dX10_layFar_68 (lv_at hl 0 rfl) ?_
      refine lv_bipush (v := (-9)) hx hb dX10_layFar_70 (by decide) ?_
      refine lv_icmp_eq (tgt := 118) hx hb dX10_layFar_72 (by decide) (fun hc => ?_) (fun hc => ?_)
      · replace h := h.1 hc
        refine lv_iinc (v := (x4 + (1 : Int32))) (lv' := [(4, .int (x4 + (1 : Int32))), (5, .int r63), (0, .ref (ad 0)), (2, .int x2), (3, .int x3)]) hx hb dX10_layFar_118 hl (k := 4) rfl rfl (by decide) rfl (fun ls hl => ?_)
        refine lv_goto (tgt := 48) hx hb dX10_layFar_121 (by decide) ?_
        exact ih _ _ _ _ _ h _ _ _ hw (lv_sub hl [2, 3, 4, 0] rfl)
      · replace h := h.2 hc
        refine lv_aload_n hx hb dX10_layFar_75 rfl (lv_at hl 1 rfl) ?_
        refine gM_mo_far hx hb hts hin hown hK hw lk24 dX10_layFar_76 ?_
        refine lv_iload hx hb dX10_layFar_79 (lv_at hl 0 rfl) ?_
        refine aM_mo_far hx hb hK hw h.1 dX10_layFar_81 ?_
        replace h := h.2
        refine lv_bipush (v := (-9)) hx hb dX10_layFar_82 (by decide) ?_
        refine lv_icmp_ne (tgt := 118) hx hb dX10_layFar_84 (by decide) (fun hc => ?_) (fun hc => ?_)
        · replace h := h.2 hc
          refine lv_iinc (v := (x4 + (1 : Int32))) (lv' := [(4, .int (x4 + (1 : Int32))), (5, .int r63), (0, .ref (ad 0)), (2, .int x2), (3, .int x3)]) hx hb dX10_layFar_118 hl (k := 4) rfl rfl (by decide) rfl (fun ls hl => ?_)
          refine lv_goto (tgt := 48) hx hb dX10_layFar_121 (by decide) ?_
          exact ih _ _ _ _ _ h _ _ _ hw (lv_sub hl [2, 3, 4, 0] rfl)
        · replace h := h.1 hc
          refine lv_aload_n hx hb dX10_layFar_87 rfl (lv_at hl 1 rfl) ?_
          refine gM_mo_far hx hb hts hin hown hK hw lk24 dX10_layFar_88 ?_
          refine lv_iload hx hb dX10_layFar_91 (lv_at hl 0 rfl) ?_
          refine lv_aload_n hx hb dX10_layFar_93 rfl (lv_at hl 1 rfl) ?_
          refine gM_mo_far hx hb hts hin hown hK hw lk24 dX10_layFar_94 ?_
          refine lv_aload_n hx hb dX10_layFar_97 rfl (lv_at hl 1 rfl) ?_
          refine gM_mo_queue hx hb hts hin hown hK hw lk21 dX10_layFar_98 ?_
          refine lv_iload_n hx hb dX10_layFar_101 rfl (lv_at hl 3 rfl) ?_
          refine aM_mo_queue hx hb hK hw h.1 dX10_layFar_102 ?_
          replace h := h.2
          refine aM_mo_far hx hb hK hw h.1 dX10_layFar_103 ?_
          replace h := h.2
          refine lv_iconst (v := 1) hx hb dX10_layFar_104 (by decide) ?_
          refine lv_iadd hx hb dX10_layFar_105 ?_
          refine tM_mo_far hx hb hK hw h.1 dX10_layFar_106 (fun H locs hw => ?_)
          replace h := h.2
          refine lv_aload_n hx hb dX10_layFar_107 rfl (lv_at hl 1 rfl) ?_
          refine gM_mo_queue hx hb hts hin hown hK hw lk21 dX10_layFar_108 ?_
          refine lv_iload_n hx hb dX10_layFar_111 rfl (lv_at hl 2 rfl) ?_
          refine lv_iload hx hb dX10_layFar_112 (lv_at hl 0 rfl) ?_
          refine tM_mo_queue hx hb hK hw h.1 dX10_layFar_114 (fun H locs hw => ?_)
          replace h := h.2
          refine lv_iinc (v := (x2 + (1 : Int32))) (lv' := [(2, .int (x2 + (1 : Int32))), (5, .int r63), (0, .ref (ad 0)), (3, .int x3), (4, .int x4)]) hx hb dX10_layFar_115 hl (k := 2) rfl rfl (by decide) rfl (fun ls hl => ?_)
          refine lv_iinc (v := (x4 + (1 : Int32))) (lv' := [(4, .int (x4 + (1 : Int32))), (2, .int (x2 + (1 : Int32))), (5, .int r63), (0, .ref (ad 0)), (3, .int x3)]) hx hb dX10_layFar_118 hl (k := 4) rfl rfl (by decide) rfl (fun ls hl => ?_)
          refine lv_goto (tgt := 48) hx hb dX10_layFar_121 (by decide) ?_
          exact ih _ _ _ _ _ h _ _ _ hw (lv_sub hl [3, 1, 4, 0] rfl)
  have J40 : ∀ (n : Nat) (mo_queue : (Nat → Int32)) (mo_far : (Nat → Int32)) (x2 : Int32) (x3 : Int32) , L_mo_layFar_40 mo_wide mo_tall mo_kind Q n mo_queue mo_far x2 x3 → ∀ (H : Heap) (locs : List Loc) (ls : Array Slot), SW D A s.heap (wdM cI cL cZ ad mo_wide mo_tall mo_kind mo_law mo_range mo_queue mo_far mo_pictures mo_pictureCell mo_facing mo_sights mo_fewest mo_posts mo_postMany mo_left mo_roundMany mo_round mo_shift mo_thief mo_danger mo_old) H locs → lv_has ls 6 [(0, .ref (ad 0)), (2, .int x2), (3, .int x3)] → W p l e (headSpec wsX10_layFar rm_mo_layFar).room s m args below meth c H locs 0 0 Z (F0 m 40 ls []) := by
    intro  n
    induction n with
    | zero => intro mo_queue mo_far x2 x3 h; exact h.elim
    | succ n ih =>
    intro mo_queue mo_far x2 x3 h H locs ls hw hl
    unfold L_mo_layFar_40 at h
    refine lv_iload_n hx hb dX10_layFar_40 rfl (lv_at hl 2 rfl) ?_
    refine lv_iload_n hx hb dX10_layFar_41 rfl (lv_at hl 1 rfl) ?_
    refine lv_icmp_ge (tgt := 130) hx hb dX10_layFar_42 (by decide) (fun hc => ?_) (fun hc => ?_)
    · replace h := h.1 hc
      rw [hZ]
      exact rt_v (mo_queue, mo_far) hx hb hr hlocks hw h dX10_layFar_130
    · replace h := h.2 hc
      refine lv_iconst (v := 0) hx hb dX10_layFar_45 (by decide) ?_
      refine lv_istore (lv' := [(4, .int (0 : Int32)), (0, .ref (ad 0)), (2, .int x2), (3, .int x3)]) hx hb dX10_layFar_46 hl (by decide) rfl (fun ls hl => ?_)
      obtain ⟨n48, h⟩ := h
      exact J48 (L_mo_layFar_40 mo_wide mo_tall mo_kind Q n) ih n48 _ _ _ _ _ h _ _ _ hw (lv_sub hl [1, 2, 3, 0] rfl)
  have J22 : ∀ (_ : True) (mo_queue : (Nat → Int32)) (mo_far : (Nat → Int32)) (x1 : Int32) , B_mo_layFar_22 mo_wide mo_tall mo_kind Q mo_queue mo_far x1 → ∀ (H : Heap) (locs : List Loc) (ls : Array Slot), SW D A s.heap (wdM cI cL cZ ad mo_wide mo_tall mo_kind mo_law mo_range mo_queue mo_far mo_pictures mo_pictureCell mo_facing mo_sights mo_fewest mo_posts mo_postMany mo_left mo_roundMany mo_round mo_shift mo_thief mo_danger mo_old) H locs → lv_has ls 6 [(0, .ref (ad 0)), (1, .int x1)] → W p l e (headSpec wsX10_layFar rm_mo_layFar).room s m args below meth c H locs 0 0 Z (F0 m 22 ls []) := by
    intro _  mo_queue mo_far x1 h H locs ls hw hl
    unfold B_mo_layFar_22 at h
    refine lv_aload_n hx hb dX10_layFar_22 rfl (lv_at hl 0 rfl) ?_
    refine gM_mo_far hx hb hts hin hown hK hw lk24 dX10_layFar_23 ?_
    refine lv_iload_n hx hb dX10_layFar_26 rfl (lv_at hl 1 rfl) ?_
    refine lv_iconst (v := 0) hx hb dX10_layFar_27 (by decide) ?_
    refine tM_mo_far hx hb hK hw h.1 dX10_layFar_28 (fun H locs hw => ?_)
    replace h := h.2
    refine lv_aload_n hx hb dX10_layFar_29 rfl (lv_at hl 0 rfl) ?_
    refine gM_mo_queue hx hb hts hin hown hK hw lk21 dX10_layFar_30 ?_
    refine lv_iconst (v := 0) hx hb dX10_layFar_33 (by decide) ?_
    refine lv_iload_n hx hb dX10_layFar_34 rfl (lv_at hl 1 rfl) ?_
    refine tM_mo_queue hx hb hK hw h.1 dX10_layFar_35 (fun H locs hw => ?_)
    replace h := h.2
    refine lv_iconst (v := 1) hx hb dX10_layFar_36 (by decide) ?_
    refine lv_istore_n (lv' := [(2, .int (1 : Int32)), (0, .ref (ad 0)), (1, .int x1)]) hx hb dX10_layFar_37 rfl hl (by decide) rfl (fun ls hl => ?_)
    refine lv_iconst (v := 0) hx hb dX10_layFar_38 (by decide) ?_
    refine lv_istore_n (lv' := [(3, .int (0 : Int32)), (2, .int (1 : Int32)), (0, .ref (ad 0)), (1, .int x1)]) hx hb dX10_layFar_39 rfl hl (by decide) rfl (fun ls hl => ?_)
    obtain ⟨n40, h⟩ := h
    exact J40  n40 _ _ _ _ h _ _ _ hw (lv_sub hl [2, 1, 0] rfl)
  have J2 : ∀ (n : Nat) (mo_queue : (Nat → Int32)) (mo_far : (Nat → Int32)) (x1 : Int32) (x2 : Int32) , L_mo_layFar_2 mo_wide mo_tall mo_kind Q n mo_queue mo_far x1 x2 → ∀ (H : Heap) (locs : List Loc) (ls : Array Slot), SW D A s.heap (wdM cI cL cZ ad mo_wide mo_tall mo_kind mo_law mo_range mo_queue mo_far mo_pictures mo_pictureCell mo_facing mo_sights mo_fewest mo_posts mo_postMany mo_left mo_roundMany mo_round mo_shift mo_thief mo_danger mo_old) H locs → lv_has ls 6 [(0, .ref (ad 0)), (1, .int x1), (2, .int x2)] → W p l e (headSpec wsX10_layFar rm_mo_layFar).room s m args below meth c H locs 0 0 Z (F0 m 2 ls []) := by
    intro  n
    induction n with
    | zero => intro mo_queue mo_far x1 x2 h; exact h.elim
    | succ n ih =>
    intro mo_queue mo_far x1 x2 h H locs ls hw hl
    unfold L_mo_layFar_2 at h
    refine lv_iload_n hx hb dX10_layFar_2 rfl (lv_at hl 2 rfl) ?_
    refine lv_bipush (v := 64) hx hb dX10_layFar_3 (by decide) ?_
    refine lv_icmp_ge (tgt := 22) hx hb dX10_layFar_5 (by decide) (fun hc => ?_) (fun hc => ?_)
    · replace h := h.1 hc
      exact J22 trivial  _ _ _ h _ _ _ hw (lv_sub hl [0, 1] rfl)
    · replace h := h.2 hc
      refine lv_aload_n hx hb dX10_layFar_8 rfl (lv_at hl 0 rfl) ?_
      refine gM_mo_far hx hb hts hin hown hK hw lk24 dX10_layFar_9 ?_
      refine lv_iload_n hx hb dX10_layFar_12 rfl (lv_at hl 2 rfl) ?_
      refine lv_bipush (v := (-9)) hx hb dX10_layFar_13 (by decide) ?_
      refine tM_mo_far hx hb hK hw h.1 dX10_layFar_15 (fun H locs hw => ?_)
      replace h := h.2
      refine lv_iinc (v := (x2 + (1 : Int32))) (lv' := [(2, .int (x2 + (1 : Int32))), (0, .ref (ad 0)), (1, .int x1)]) hx hb dX10_layFar_16 hl (k := 2) rfl rfl (by decide) rfl (fun ls hl => ?_)
      refine lv_goto (tgt := 2) hx hb dX10_layFar_19 (by decide) ?_
      exact ih _ _ _ _ h _ _ _ hw (lv_sub hl [1, 2, 0] rfl)
  unfold P_mo_layFar at h
  have he : entryFrame m args 6 = entryFrame m ([.ref (ad 0), .int x1] : List Value).toArray 6 := by rw [hav]
  refine W.eq he ?_
  have hl := lv_entry ([.ref (ad 0), .int x1]) (n := 6) (Nat.le_of_ble_eq_true rfl)
  rw [lg_entry_eq]
  generalize (lg_sl ([.ref (ad 0), .int x1]) ++ List.replicate (6 - (lg_sl ([.ref (ad 0), .int x1])).length) Slot.unset).toArray = ls at hl ⊢
  have hl : lv_has ls 6 [(0, .ref (ad 0)), (1, .int x1)] := hl
  refine lv_iconst (v := 0) hx hb dX10_layFar_0 (by decide) ?_
  refine lv_istore_n (lv' := [(2, .int (0 : Int32)), (0, .ref (ad 0)), (1, .int x1)]) hx hb dX10_layFar_1 rfl hl (by decide) rfl (fun ls hl => ?_)
  obtain ⟨n2, h⟩ := h
  exact J2  n2 _ _ _ _ h _ _ _ hw (lv_sub hl [1, 2, 0] rfl)
def rm_mo_far : Room := { frames := 3, cells := 0, slots := 0, locals := 75 }
set_option maxHeartbeats 4000000 in
set_option maxRecDepth 100000 in
theorem c_mo_far {l : Launch} {D : va_G} {cI cL cZ : ClassId} {mx my : Nat} {A : Nat → Prop} {ad : Nat → Nat} {mo_wide mo_tall mo_law mo_range mo_pictures mo_postMany : Int32} {mo_kind mo_queue mo_far mo_pictureCell mo_facing mo_sights mo_fewest mo_posts mo_left mo_roundMany mo_round mo_shift mo_thief mo_danger mo_old : Nat → Int32} (x1 : Int32) (x2 : Int32) {Q : Int32 → (Nat → Int32) → (Nat → Int32) → Prop} (h : P_mo_far mo_wide mo_tall mo_kind mo_queue mo_far x1 x2 Q) : Met l yX10_far wsX10_far rm_mo_far (va_Pc [.ref (ad 0), .int x1, .int x2] (WC D cI cL cZ mx my A (wdM cI cL cZ ad mo_wide mo_tall mo_kind mo_law mo_range mo_queue mo_far mo_pictures mo_pictureCell mo_facing mo_sights mo_fewest mo_posts mo_postMany mo_left mo_roundMany mo_round mo_shift mo_thief mo_danger mo_old))) (va_Qi (fun (r : Int32) (u : (Nat → Int32) × (Nat → Int32)) => Q r u.1 u.2) (fun (u : (Nat → Int32) × (Nat → Int32)) t => PW D A (wdM cI cL cZ ad mo_wide mo_tall mo_kind mo_law mo_range u.1 u.2 mo_pictures mo_pictureCell mo_facing mo_sights mo_fewest mo_posts mo_postMany mo_left mo_roundMany mo_round mo_shift mo_thief mo_danger mo_old) t.heap) A) 0 0 A := by
  refine Met.ofW (cc := cX10_far) (maxL := 3) (ret := (some .int)) (by decide) rfl ?_
  intro p e s m args below meth c s₁ B hml hv
  obtain ⟨hav, hP0, hD0, hK⟩ := hv
  have hx := B.exec
  have hb := B.bytes
  have hr := B.returns
  have hts := atoms_spec (ws := wsX10_far) B.pre
  have hown : s.vm.findClass RX10 = some m.cls := findClass_of_methodNamed B.named
  have hlocks := B.notSynchronized
  have hB : ∀ w ∈ BIG, w ∈ wsX10_far := fun _ h => List.mem_cons_of_mem _ h
  have hin : ∀ w ∈ wsX100, w ∈ wsX10_far := fun w h => hB w (inB_X10 w h)
  have lk24 := hts _ (hB _ m_937)
  obtain ⟨Z, hZ⟩ : ∃ Z : State → Prop, Z = MQ below (va_Qi (fun (r : Int32) (u : (Nat → Int32) × (Nat → Int32)) => Q r u.1 u.2) (fun (u : (Nat → Int32) × (Nat → Int32)) t => PW D A (wdM cI cL cZ ad mo_wide mo_tall mo_kind mo_law mo_range u.1 u.2 mo_pictures mo_pictureCell mo_facing mo_sights mo_fewest mo_posts mo_postMany mo_left mo_roundMany mo_round mo_shift mo_thief mo_danger mo_old) t.heap) A) args s 0 0 A := ⟨_, rfl⟩
  rw [← hZ]
  have hw : SW D A s.heap (wdM cI cL cZ ad mo_wide mo_tall mo_kind mo_law mo_range mo_queue mo_far mo_pictures mo_pictureCell mo_facing mo_sights mo_fewest mo_posts mo_postMany mo_left mo_roundMany mo_round mo_shift mo_thief mo_danger mo_old) s.heap [] := ⟨hP0, hD0, va_S.rf⟩
  clear hP0 hD0 B
  unfold P_mo_far at h
  have he : entryFrame m args 3 = entryFrame m ([.ref (ad 0), .int x1, .int x2] : List Value).toArray 3 := by rw [hav]
  refine W.eq he ?_
  have hl := lv_entry ([.ref (ad 0), .int x1, .int x2]) (n := 3) (Nat.le_of_ble_eq_true rfl)
  rw [lg_entry_eq]
  generalize (lg_sl ([.ref (ad 0), .int x1, .int x2]) ++ List.replicate (3 - (lg_sl ([.ref (ad 0), .int x1, .int x2])).length) Slot.unset).toArray = ls at hl ⊢
  have hl : lv_has ls 3 [(0, .ref (ad 0)), (1, .int x1), (2, .int x2)] := hl
  refine lv_aload_n hx hb dX10_far_0 rfl (lv_at hl 0 rfl) ?_
  refine lv_iload_n hx hb dX10_far_1 rfl (lv_at hl 1 rfl) ?_
  refine cV_i (b := (ad 0)) (As := [.int x1]) (rest := []) ⟨hx, hb, hml, hown, hts⟩ hK hw (c_mo_isCell x1 h) (cwV 1 hts (gd_RX10_85 hB) rfl rfl rfl (by decide +kernel) ⟨Nat.le_of_ble_eq_true rfl, Nat.le_of_ble_eq_true rfl⟩) (rM_mo hK hw) hl.1 ⟨Nat.zero_le _, Nat.zero_le _⟩ rfl rfl (Nat.le_of_ble_eq_true rfl) dX10_far_2 (fun r2 _ H locs h hw => ?_)
  refine lv_if_eq (tgt := 16) hx hb dX10_far_5 (by decide) (fun hc => ?_) (fun hc => ?_)
  · replace h := h.1 hc
    refine lv_iconst (v := (-1)) hx hb dX10_far_16 (by decide) ?_
    rw [hZ]
    exact rt_i (mo_queue, mo_far) hx hb hr hlocks hw h dX10_far_17
  · replace h := h.2 hc
    refine lv_aload_n hx hb dX10_far_8 rfl (lv_at hl 0 rfl) ?_
    refine lv_iload_n hx hb dX10_far_9 rfl (lv_at hl 2 rfl) ?_
    refine cV_i (b := (ad 0)) (As := [.int x2]) (rest := []) ⟨hx, hb, hml, hown, hts⟩ hK hw (c_mo_isCell x2 h) (cwV 1 hts (gd_RX10_85 hB) rfl rfl rfl (by decide +kernel) ⟨Nat.le_of_ble_eq_true rfl, Nat.le_of_ble_eq_true rfl⟩) (rM_mo hK hw) hl.1 ⟨Nat.zero_le _, Nat.zero_le _⟩ rfl rfl (Nat.le_of_ble_eq_true rfl) dX10_far_10 (fun r10 _ H locs h hw => ?_)
    refine lv_if_ne (tgt := 18) hx hb dX10_far_13 (by decide) (fun hc => ?_) (fun hc => ?_)
    · replace h := h.2 hc
      refine lv_aload_n hx hb dX10_far_18 rfl (lv_at hl 0 rfl) ?_
      refine lv_iload_n hx hb dX10_far_19 rfl (lv_at hl 1 rfl) ?_
      refine cV_i (b := (ad 0)) (As := [.int x1]) (rest := []) ⟨hx, hb, hml, hown, hts⟩ hK hw (c_mo_stands x1 h) (cwV 1 hts (gd_RX10_91 hB) rfl rfl rfl (by decide +kernel) ⟨Nat.le_of_ble_eq_true rfl, Nat.le_of_ble_eq_true rfl⟩) (rM_mo hK hw) hl.1 ⟨Nat.zero_le _, Nat.zero_le _⟩ rfl rfl (Nat.le_of_ble_eq_true rfl) dX10_far_20 (fun r20 _ H locs h hw => ?_)
      refine lv_if_eq (tgt := 34) hx hb dX10_far_23 (by decide) (fun hc => ?_) (fun hc => ?_)
      · replace h := h.1 hc
        refine lv_bipush (v := (-9)) hx hb dX10_far_34 (by decide) ?_
        rw [hZ]
        exact rt_i (mo_queue, mo_far) hx hb hr hlocks hw h dX10_far_36
      · replace h := h.2 hc
        refine lv_aload_n hx hb dX10_far_26 rfl (lv_at hl 0 rfl) ?_
        refine lv_iload_n hx hb dX10_far_27 rfl (lv_at hl 2 rfl) ?_
        refine cV_i (b := (ad 0)) (As := [.int x2]) (rest := []) ⟨hx, hb, hml, hown, hts⟩ hK hw (c_mo_stands x2 h) (cwV 1 hts (gd_RX10_91 hB) rfl rfl rfl (by decide +kernel) ⟨Nat.le_of_ble_eq_true rfl, Nat.le_of_ble_eq_true rfl⟩) (rM_mo hK hw) hl.1 ⟨Nat.zero_le _, Nat.zero_le _⟩ rfl rfl (Nat.le_of_ble_eq_true rfl) dX10_far_28 (fun r28 _ H locs h hw => ?_)
        refine lv_if_ne (tgt := 37) hx hb dX10_far_31 (by decide) (fun hc => ?_) (fun hc => ?_)
        · replace h := h.2 hc
          refine lv_aload_n hx hb dX10_far_37 rfl (lv_at hl 0 rfl) ?_
          refine lv_iload_n hx hb dX10_far_38 rfl (lv_at hl 1 rfl) ?_
          refine cV_v (b := (ad 0)) (As := [.int x1]) (rest := []) ⟨hx, hb, hml, hown, hts⟩ hK hw (c_mo_layFar x1 h) (cwV 1 hts (gd_RX10_98 hB) rfl rfl rfl (by decide +kernel) ⟨Nat.le_of_ble_eq_true rfl, Nat.le_of_ble_eq_true rfl⟩) (rM_mo hK hw) hl.1 ⟨Nat.zero_le _, Nat.zero_le _⟩ rfl rfl (Nat.le_of_ble_eq_true rfl) dX10_far_39 (fun u39 H locs h hw => ?_)
          obtain ⟨mo_queue_39, mo_far_39⟩ := u39
          refine lv_aload_n hx hb dX10_far_42 rfl (lv_at hl 0 rfl) ?_
          refine gM_mo_far hx hb hts hin hown hK hw lk24 dX10_far_43 ?_
          refine lv_iload_n hx hb dX10_far_46 rfl (lv_at hl 2 rfl) ?_
          refine aM_mo_far hx hb hK hw h.1 dX10_far_47 ?_
          replace h := h.2
          rw [hZ]
          exact rt_i (mo_queue_39, mo_far_39) hx hb hr hlocks hw h dX10_far_48
        · replace h := h.1 hc
          refine lv_bipush (v := (-9)) hx hb dX10_far_34 (by decide) ?_
          rw [hZ]
          exact rt_i (mo_queue, mo_far) hx hb hr hlocks hw h dX10_far_36
    · replace h := h.1 hc
      refine lv_iconst (v := (-1)) hx hb dX10_far_16 (by decide) ?_
      rw [hZ]
      exact rt_i (mo_queue, mo_far) hx hb hr hlocks hw h dX10_far_17
def rm_mo_size : Room := { frames := 0, cells := 0, slots := 0, locals := 0 }
set_option maxHeartbeats 4000000 in
set_option maxRecDepth 100000 in
theorem c_mo_size {l : Launch} {D : va_G} {cI cL cZ : ClassId} {mx my : Nat} {A : Nat → Prop}  {w : va_W} (x0 : Int32) {Q : Int32 → Prop} (h : P_mo_size x0 Q) : Met l yX10_size wsX10_size rm_mo_size (va_Pc [.int x0] (WC D cI cL cZ mx my A w)) (va_Qi (fun (r : Int32) (u : Unit) => Q r) (fun (u : Unit) t => PW D A w t.heap) A) 0 0 A := by
  refine Met.ofW (cc := cX10_size) (maxL := 1) (ret := (some .int)) (by decide) rfl ?_
  intro p e s m args below meth c s₁ B hml hv
  obtain ⟨hav, hP0, hD0, hK⟩ := hv
  have hx := B.exec
  have hb := B.bytes
  have hr := B.returns
  have hts := atoms_spec (ws := wsX10_size) B.pre
  have hown : s.vm.findClass RX10 = some m.cls := findClass_of_methodNamed B.named
  have hlocks := B.notSynchronized
  have hB : ∀ w ∈ BIG, w ∈ wsX10_size := fun _ h => List.mem_cons_of_mem _ h
  obtain ⟨Z, hZ⟩ : ∃ Z : State → Prop, Z = MQ below (va_Qi (fun (r : Int32) (u : Unit) => Q r) (fun (u : Unit) t => PW D A w t.heap) A) args s 0 0 A := ⟨_, rfl⟩
  rw [← hZ]
  have hw : SW D A s.heap w s.heap [] := ⟨hP0, hD0, va_S.rf⟩
  clear hP0 hD0 B
  unfold P_mo_size at h
  have he : entryFrame m args 1 = entryFrame m ([.int x0] : List Value).toArray 1 := by rw [hav]
  refine W.eq he ?_
  have hl := lv_entry ([.int x0]) (n := 1) (Nat.le_of_ble_eq_true rfl)
  rw [lg_entry_eq]
  generalize (lg_sl ([.int x0]) ++ List.replicate (1 - (lg_sl ([.int x0])).length) Slot.unset).toArray = ls at hl ⊢
  have hl : lv_has ls 1 [(0, .int x0)] := hl
  refine lv_iload_n hx hb dX10_size_0 rfl (lv_at hl 0 rfl) ?_
  refine lv_if_ge (tgt := 9) hx hb dX10_size_1 (by decide) (fun hc => ?_) (fun hc => ?_)
  · replace h := h.1 hc
    refine lv_iload_n hx hb dX10_size_9 rfl (lv_at hl 0 rfl) ?_
    rw [hZ]
    exact rt_i () hx hb hr hlocks hw h dX10_size_10
  · replace h := h.2 hc
    refine lv_iload_n hx hb dX10_size_4 rfl (lv_at hl 0 rfl) ?_
    refine lv_ineg hx hb dX10_size_5 ?_
    refine lv_goto (tgt := 10) hx hb dX10_size_6 (by decide) ?_
    rw [hZ]
    exact rt_i () hx hb hr hlocks hw h dX10_size_10
def rm_mo_sign : Room := { frames := 0, cells := 0, slots := 0, locals := 0 }
set_option maxHeartbeats 4000000 in
set_option maxRecDepth 100000 in
theorem c_mo_sign {l : Launch} {D : va_G} {cI cL cZ : ClassId} {mx my : Nat} {A : Nat → Prop}  {w : va_W} (x0 : Int32) {Q : Int32 → Prop} (h : P_mo_sign x0 Q) : Met l yX10_sign wsX10_sign rm_mo_sign (va_Pc [.int x0] (WC D cI cL cZ mx my A w)) (va_Qi (fun (r : Int32) (u : Unit) => Q r) (fun (u : Unit) t => PW D A w t.heap) A) 0 0 A := by
  refine Met.ofW (cc := cX10_sign) (maxL := 1) (ret := (some .int)) (by decide) rfl ?_
  intro p e s m args below meth c s₁ B hml hv
  obtain ⟨hav, hP0, hD0, hK⟩ := hv
  have hx := B.exec
  have hb := B.bytes
  have hr := B.returns
  have hts := atoms_spec (ws := wsX10_sign) B.pre
  have hown : s.vm.findClass RX10 = some m.cls := findClass_of_methodNamed B.named
  have hlocks := B.notSynchronized
  have hB : ∀ w ∈ BIG, w ∈ wsX10_sign := fun _ h => List.mem_cons_of_mem _ h
  obtain ⟨Z, hZ⟩ : ∃ Z : State → Prop, Z = MQ below (va_Qi (fun (r : Int32) (u : Unit) => Q r) (fun (u : Unit) t => PW D A w t.heap) A) args s 0 0 A := ⟨_, rfl⟩
  rw [← hZ]
  have hw : SW D A s.heap w s.heap [] := ⟨hP0, hD0, va_S.rf⟩
  clear hP0 hD0 B
  unfold P_mo_sign at h
  have he : entryFrame m args 1 = entryFrame m ([.int x0] : List Value).toArray 1 := by rw [hav]
  refine W.eq he ?_
  have hl := lv_entry ([.int x0]) (n := 1) (Nat.le_of_ble_eq_true rfl)
  rw [lg_entry_eq]
  generalize (lg_sl ([.int x0]) ++ List.replicate (1 - (lg_sl ([.int x0])).length) Slot.unset).toArray = ls at hl ⊢
  have hl : lv_has ls 1 [(0, .int x0)] := hl
  refine lv_iload_n hx hb dX10_sign_0 rfl (lv_at hl 0 rfl) ?_
  refine lv_if_ge (tgt := 8) hx hb dX10_sign_1 (by decide) (fun hc => ?_) (fun hc => ?_)
  · replace h := h.1 hc
    refine lv_iload_n hx hb dX10_sign_8 rfl (lv_at hl 0 rfl) ?_
    refine lv_if_le (tgt := 16) hx hb dX10_sign_9 (by decide) (fun hc => ?_) (fun hc => ?_)
    · replace h := h.1 hc
      refine lv_iconst (v := 0) hx hb dX10_sign_16 (by decide) ?_
      rw [hZ]
      exact rt_i () hx hb hr hlocks hw h dX10_sign_17
    · replace h := h.2 hc
      refine lv_iconst (v := 1) hx hb dX10_sign_12 (by decide) ?_
      refine lv_goto (tgt := 17) hx hb dX10_sign_13 (by decide) ?_
      rw [hZ]
      exact rt_i () hx hb hr hlocks hw h dX10_sign_17
  · replace h := h.2 hc
    refine lv_iconst (v := (-1)) hx hb dX10_sign_4 (by decide) ?_
    refine lv_goto (tgt := 17) hx hb dX10_sign_5 (by decide) ?_
    rw [hZ]
    exact rt_i () hx hb hr hlocks hw h dX10_sign_17
def rm_mo_isBoxClear : Room := { frames := 1, cells := 0, slots := 0, locals := 23 }
set_option maxHeartbeats 4000000 in
set_option maxRecDepth 100000 in
theorem c_mo_isBoxClear {l : Launch} {D : va_G} {cI cL cZ : ClassId} {mx my : Nat} {A : Nat → Prop} {ad : Nat → Nat} {mo_wide mo_tall mo_law mo_range mo_pictures mo_postMany : Int32} {mo_kind mo_queue mo_far mo_pictureCell mo_facing mo_sights mo_fewest mo_posts mo_left mo_roundMany mo_round mo_shift mo_thief mo_danger mo_old : Nat → Int32} (x1 : Int32) (x2 : Int32) {Q : Int32 → Prop} (h : P_mo_isBoxClear mo_wide mo_kind x1 x2 Q) : Met l yX10_isBoxClear wsX10_isBoxClear rm_mo_isBoxClear (va_Pc [.ref (ad 0), .int x1, .int x2] (WC D cI cL cZ mx my A (wdM cI cL cZ ad mo_wide mo_tall mo_kind mo_law mo_range mo_queue mo_far mo_pictures mo_pictureCell mo_facing mo_sights mo_fewest mo_posts mo_postMany mo_left mo_roundMany mo_round mo_shift mo_thief mo_danger mo_old))) (va_Qi (fun (r : Int32) (u : Unit) => Q r) (fun (u : Unit) t => PW D A (wdM cI cL cZ ad mo_wide mo_tall mo_kind mo_law mo_range mo_queue mo_far mo_pictures mo_pictureCell mo_facing mo_sights mo_fewest mo_posts mo_postMany mo_left mo_roundMany mo_round mo_shift mo_thief mo_danger mo_old) t.heap) A) 0 0 A := by
  refine Met.ofW (cc := cX10_isBoxClear) (maxL := 8) (ret := (some .boolean)) (by decide) rfl ?_
  intro p e s m args below meth c s₁ B hml hv
  obtain ⟨hav, hP0, hD0, hK⟩ := hv
  have hx := B.exec
  have hb := B.bytes
  have hr := B.returns
  have hts := atoms_spec (ws := wsX10_isBoxClear) B.pre
  have hown : s.vm.findClass RX10 = some m.cls := findClass_of_methodNamed B.named
  have hlocks := B.notSynchronized
  have hB : ∀ w ∈ BIG, w ∈ wsX10_isBoxClear := fun _ h => List.mem_cons_of_mem _ h
  have hin : ∀ w ∈ wsX100, w ∈ wsX10_isBoxClear := fun w h => hB w (inB_X10 w h)
  have lk68 := hts _ (hB _ m_931)
  obtain ⟨Z, hZ⟩ : ∃ Z : State → Prop, Z = MQ below (va_Qi (fun (r : Int32) (u : Unit) => Q r) (fun (u : Unit) t => PW D A (wdM cI cL cZ ad mo_wide mo_tall mo_kind mo_law mo_range mo_queue mo_far mo_pictures mo_pictureCell mo_facing mo_sights mo_fewest mo_posts mo_postMany mo_left mo_roundMany mo_round mo_shift mo_thief mo_danger mo_old) t.heap) A) args s 0 0 A := ⟨_, rfl⟩
  rw [← hZ]
  have hw : SW D A s.heap (wdM cI cL cZ ad mo_wide mo_tall mo_kind mo_law mo_range mo_queue mo_far mo_pictures mo_pictureCell mo_facing mo_sights mo_fewest mo_posts mo_postMany mo_left mo_roundMany mo_round mo_shift mo_thief mo_danger mo_old) s.heap [] := ⟨hP0, hD0, va_S.rf⟩
  clear hP0 hD0 B
  have J93 : ∀ (k69 : Int32 → Int32 → Int32 → Int32 → Int32 → Int32 → Prop) (hk69 : ∀ (x1 : Int32) (x2 : Int32) (x3 : Int32) (x4 : Int32) (x5 : Int32) (x6 : Int32) , k69 x1 x2 x3 x4 x5 x6 → ∀ (H : Heap) (locs : List Loc) (ls : Array Slot), SW D A s.heap (wdM cI cL cZ ad mo_wide mo_tall mo_kind mo_law mo_range mo_queue mo_far mo_pictures mo_pictureCell mo_facing mo_sights mo_fewest mo_posts mo_postMany mo_left mo_roundMany mo_round mo_shift mo_thief mo_danger mo_old) H locs → lv_has ls 8 [(0, .ref (ad 0)), (1, .int x1), (2, .int x2), (3, .int x3), (4, .int x4), (5, .int x5), (6, .int x6)] → W p l e (headSpec wsX10_isBoxClear rm_mo_isBoxClear).room s m args below meth c H locs 0 0 Z (F0 m 69 ls [])) (n : Nat) (x1 : Int32) (x2 : Int32) (x3 : Int32) (x4 : Int32) (x5 : Int32) (x6 : Int32) (x7 : Int32) , L_mo_isBoxClear_93 mo_wide mo_kind Q k69 n x1 x2 x3 x4 x5 x6 x7 → ∀ (H : Heap) (locs : List Loc) (ls : Array Slot), SW D A s.heap (wdM cI cL cZ ad mo_wide mo_tall mo_kind mo_law mo_range mo_queue mo_far mo_pictures mo_pictureCell mo_facing mo_sights mo_fewest mo_posts mo_postMany mo_left mo_roundMany mo_round mo_shift mo_thief mo_danger mo_old) H locs → lv_has ls 8 [(0, .ref (ad 0)), (1, .int x1), (2, .int x2), (3, .int x3), (4, .int x4), (5, .int x5), (6, .int x6), (7, .int x7)] → W p l e (headSpec wsX10_isBoxClear rm_mo_isBoxClear).room s m args below meth c H locs 0 0 Z (F0 m 93 ls []) := by
    intro k69 hk69 n
    induction n with
    | zero => intro x1 x2 x3 x4 x5 x6 x7 h; exact h.elim
    | succ n ih =>
    intro x1 x2 x3 x4 x5 x6 x7 h H locs ls hw hl
    unfold L_mo_isBoxClear_93 at h
    refine lv_iload hx hb dX10_isBoxClear_93 (lv_at hl 7 rfl) ?_
    refine lv_iload_n hx hb dX10_isBoxClear_95 rfl (lv_at hl 1 rfl) ?_
    refine lv_aload_n hx hb dX10_isBoxClear_96 rfl (lv_at hl 0 rfl) ?_
    refine gM_mo_wide hx hb hts hin hown hK hw lk68 dX10_isBoxClear_97 ?_
    refine lv_idiv hx hb dX10_isBoxClear_100 h.1 ?_
    replace h := h.2
    refine lv_iload_n hx hb dX10_isBoxClear_101 rfl (lv_at hl 2 rfl) ?_
    refine lv_aload_n hx hb dX10_isBoxClear_102 rfl (lv_at hl 0 rfl) ?_
    refine gM_mo_wide hx hb hts hin hown hK hw lk68 dX10_isBoxClear_103 ?_
    refine lv_idiv hx hb dX10_isBoxClear_106 h.1 ?_
    replace h := h.2
    refine lv_isub hx hb dX10_isBoxClear_107 ?_
    refine cS_i (As := [.int ((x1 / mo_wide) - (x2 / mo_wide))]) (rest := [.int x7]) ⟨hx, hb, hml, hown, hts⟩ hK hw (c_mo_size ((x1 / mo_wide) - (x2 / mo_wide)) h) (va_cwS 1 hts (gd_RX10_102 hB) rfl rfl rfl (by decide +kernel) ⟨Nat.le_of_ble_eq_true rfl, Nat.le_of_ble_eq_true rfl⟩) hl.1 ⟨Nat.zero_le _, Nat.zero_le _⟩ rfl rfl (Nat.le_of_ble_eq_true rfl) dX10_isBoxClear_108 (fun r108 _ H locs h hw => ?_)
    refine lv_icmp_gt (tgt := 148) hx hb dX10_isBoxClear_111 (by decide) (fun hc => ?_) (fun hc => ?_)
    · replace h := h.1 hc
      refine lv_iinc (v := (x6 + (1 : Int32))) (lv' := [(6, .int (x6 + (1 : Int32))), (0, .ref (ad 0)), (1, .int x1), (2, .int x2), (3, .int x3), (4, .int x4), (5, .int x5), (7, .int x7)]) hx hb dX10_isBoxClear_148 hl (k := 6) rfl rfl (by decide) rfl (fun ls hl => ?_)
      refine lv_goto (tgt := 69) hx hb dX10_isBoxClear_151 (by decide) ?_
      exact hk69 _ _ _ _ _ _ h _ _ _ hw (lv_sub hl [1, 2, 3, 4, 5, 6, 0] rfl)
    · replace h := h.2 hc
      refine lv_iload hx hb dX10_isBoxClear_114 (lv_at hl 5 rfl) ?_
      refine lv_if_eq (tgt := 139) hx hb dX10_isBoxClear_116 (by decide) (fun hc => ?_) (fun hc => ?_)
      · replace h := h.1 hc
        refine lv_iconst (v := 0) hx hb dX10_isBoxClear_139 (by decide) ?_
        refine lv_istore (lv' := [(5, .int (0 : Int32)), (0, .ref (ad 0)), (1, .int x1), (2, .int x2), (3, .int x3), (4, .int x4), (6, .int x6), (7, .int x7)]) hx hb dX10_isBoxClear_140 hl (by decide) rfl (fun ls hl => ?_)
        refine lv_iinc (v := (x7 + (1 : Int32))) (lv' := [(7, .int (x7 + (1 : Int32))), (5, .int (0 : Int32)), (0, .ref (ad 0)), (1, .int x1), (2, .int x2), (3, .int x3), (4, .int x4), (6, .int x6)]) hx hb dX10_isBoxClear_142 hl (k := 7) rfl rfl (by decide) rfl (fun ls hl => ?_)
        refine lv_goto (tgt := 93) hx hb dX10_isBoxClear_145 (by decide) ?_
        exact ih _ _ _ _ _ _ _ h _ _ _ hw (lv_sub hl [2, 3, 4, 5, 6, 1, 7, 0] rfl)
      · replace h := h.2 hc
        refine lv_aload_n hx hb dX10_isBoxClear_119 rfl (lv_at hl 0 rfl) ?_
        refine lv_iload_n hx hb dX10_isBoxClear_120 rfl (lv_at hl 3 rfl) ?_
        refine lv_iload hx hb dX10_isBoxClear_121 (lv_at hl 6 rfl) ?_
        refine lv_iadd hx hb dX10_isBoxClear_123 ?_
        refine lv_iload hx hb dX10_isBoxClear_124 (lv_at hl 4 rfl) ?_
        refine lv_iload hx hb dX10_isBoxClear_126 (lv_at hl 7 rfl) ?_
        refine lv_iadd hx hb dX10_isBoxClear_128 ?_
        refine cV_i (b := (ad 0)) (As := [.int (x3 + x6), .int (x4 + x7)]) (rest := []) ⟨hx, hb, hml, hown, hts⟩ hK hw (c_mo_isClear (x3 + x6) (x4 + x7) h) (cwV 2 hts (gd_RX10_106 hB) rfl rfl rfl (by decide +kernel) ⟨Nat.le_of_ble_eq_true rfl, Nat.le_of_ble_eq_true rfl⟩) (rM_mo hK hw) hl.1 ⟨Nat.zero_le _, Nat.zero_le _⟩ rfl rfl (Nat.le_of_ble_eq_true rfl) dX10_isBoxClear_129 (fun r129 _ H locs h hw => ?_)
        refine lv_if_eq (tgt := 139) hx hb dX10_isBoxClear_132 (by decide) (fun hc => ?_) (fun hc => ?_)
        · replace h := h.1 hc
          refine lv_iconst (v := 0) hx hb dX10_isBoxClear_139 (by decide) ?_
          refine lv_istore (lv' := [(5, .int (0 : Int32)), (0, .ref (ad 0)), (1, .int x1), (2, .int x2), (3, .int x3), (4, .int x4), (6, .int x6), (7, .int x7)]) hx hb dX10_isBoxClear_140 hl (by decide) rfl (fun ls hl => ?_)
          refine lv_iinc (v := (x7 + (1 : Int32))) (lv' := [(7, .int (x7 + (1 : Int32))), (5, .int (0 : Int32)), (0, .ref (ad 0)), (1, .int x1), (2, .int x2), (3, .int x3), (4, .int x4), (6, .int x6)]) hx hb dX10_isBoxClear_142 hl (k := 7) rfl rfl (by decide) rfl (fun ls hl => ?_)
          refine lv_goto (tgt := 93) hx hb dX10_isBoxClear_145 (by decide) ?_
          exact ih _ _ _ _ _ _ _ h _ _ _ hw (lv_sub hl [2, 3, 4, 5, 6, 1, 7, 0] rfl)
        · replace h := h.2 hc
          refine lv_iconst (v := 1) hx hb dX10_isBoxClear_135 (by decide) ?_
          refine lv_goto (tgt := 140) hx hb dX10_isBoxClear_136 (by decide) ?_
          refine lv_istore (lv' := [(5, .int (1 : Int32)), (0, .ref (ad 0)), (1, .int x1), (2, .int x2), (3, .int x3), (4, .int x4), (6, .int x6), (7, .int x7)]) hx hb dX10_isBoxClear_140 hl (by decide) rfl (fun ls hl => ?_)
          refine lv_iinc (v := (x7 + (1 : Int32))) (lv' := [(7, .int (x7 + (1 : Int32))), (5, .int (1 : Int32)), (0, .ref (ad 0)), (1, .int x1), (2, .int x2), (3, .int x3), (4, .int x4), (6, .int x6)]) hx hb dX10_isBoxClear_142 hl (k := 7) rfl rfl (by decide) rfl (fun ls hl => ?_)
          refine lv_goto (tgt := 93) hx hb dX10_isBoxClear_145 (by decide) ?_
          exact ih _ _ _ _ _ _ _ h _ _ _ hw (lv_sub hl [2, 3, 4, 5, 6, 1, 7, 0] rfl)
  have J69 : ∀ (n : Nat) (x1 : Int32) (x2 : Int32) (x3 : Int32) (x4 : Int32) (x5 : Int32) (x6 : Int32) , L_mo_isBoxClear_69 mo_wide mo_kind Q n x1 x2 x3 x4 x5 x6 → ∀ (H : Heap) (locs : List Loc) (ls : Array Slot), SW D A s.heap (wdM cI cL cZ ad mo_wide mo_tall mo_kind mo_law mo_range mo_queue mo_far mo_pictures mo_pictureCell mo_facing mo_sights mo_fewest mo_posts mo_postMany mo_left mo_roundMany mo_round mo_shift mo_thief mo_danger mo_old) H locs → lv_has ls 8 [(0, .ref (ad 0)), (1, .int x1), (2, .int x2), (3, .int x3), (4, .int x4), (5, .int x5), (6, .int x6)] → W p l e (headSpec wsX10_isBoxClear rm_mo_isBoxClear).room s m args below meth c H locs 0 0 Z (F0 m 69 ls []) := by
    intro  n
    induction n with
    | zero => intro x1 x2 x3 x4 x5 x6 h; exact h.elim
    | succ n ih =>
    intro x1 x2 x3 x4 x5 x6 h H locs ls hw hl
    unfold L_mo_isBoxClear_69 at h
    refine lv_iload hx hb dX10_isBoxClear_69 (lv_at hl 6 rfl) ?_
    refine lv_iload_n hx hb dX10_isBoxClear_71 rfl (lv_at hl 1 rfl) ?_
    refine lv_aload_n hx hb dX10_isBoxClear_72 rfl (lv_at hl 0 rfl) ?_
    refine gM_mo_wide hx hb hts hin hown hK hw lk68 dX10_isBoxClear_73 ?_
    refine lv_irem hx hb dX10_isBoxClear_76 h.1 ?_
    replace h := h.2
    refine lv_iload_n hx hb dX10_isBoxClear_77 rfl (lv_at hl 2 rfl) ?_
    refine lv_aload_n hx hb dX10_isBoxClear_78 rfl (lv_at hl 0 rfl) ?_
    refine gM_mo_wide hx hb hts hin hown hK hw lk68 dX10_isBoxClear_79 ?_
    refine lv_irem hx hb dX10_isBoxClear_82 h.1 ?_
    replace h := h.2
    refine lv_isub hx hb dX10_isBoxClear_83 ?_
    refine cS_i (As := [.int ((x1 - x1 / mo_wide * mo_wide) - (x2 - x2 / mo_wide * mo_wide))]) (rest := [.int x6]) ⟨hx, hb, hml, hown, hts⟩ hK hw (c_mo_size ((x1 - x1 / mo_wide * mo_wide) - (x2 - x2 / mo_wide * mo_wide)) h) (va_cwS 1 hts (gd_RX10_102 hB) rfl rfl rfl (by decide +kernel) ⟨Nat.le_of_ble_eq_true rfl, Nat.le_of_ble_eq_true rfl⟩) hl.1 ⟨Nat.zero_le _, Nat.zero_le _⟩ rfl rfl (Nat.le_of_ble_eq_true rfl) dX10_isBoxClear_84 (fun r84 _ H locs h hw => ?_)
    refine lv_icmp_gt (tgt := 154) hx hb dX10_isBoxClear_87 (by decide) (fun hc => ?_) (fun hc => ?_)
    · replace h := h.1 hc
      refine lv_iload hx hb dX10_isBoxClear_154 (lv_at hl 5 rfl) ?_
      rw [hZ]
      exact rt_z () hx hb hr hlocks hw h.1 h.2 dX10_isBoxClear_156
    · replace h := h.2 hc
      refine lv_iconst (v := 0) hx hb dX10_isBoxClear_90 (by decide) ?_
      refine lv_istore (lv' := [(7, .int (0 : Int32)), (0, .ref (ad 0)), (1, .int x1), (2, .int x2), (3, .int x3), (4, .int x4), (5, .int x5), (6, .int x6)]) hx hb dX10_isBoxClear_91 hl (by decide) rfl (fun ls hl => ?_)
      obtain ⟨n93, h⟩ := h
      exact J93 (L_mo_isBoxClear_69 mo_wide mo_kind Q n) ih n93 _ _ _ _ _ _ _ h _ _ _ hw (lv_sub hl [1, 2, 3, 4, 5, 6, 7, 0] rfl)
  have J30 : ∀ (_ : True) (x1 : Int32) (x2 : Int32) (y0 : Int32) , B_mo_isBoxClear_30 mo_wide mo_kind Q x1 x2 y0 → ∀ (H : Heap) (locs : List Loc) (ls : Array Slot), SW D A s.heap (wdM cI cL cZ ad mo_wide mo_tall mo_kind mo_law mo_range mo_queue mo_far mo_pictures mo_pictureCell mo_facing mo_sights mo_fewest mo_posts mo_postMany mo_left mo_roundMany mo_round mo_shift mo_thief mo_danger mo_old) H locs → lv_has ls 8 [(0, .ref (ad 0)), (1, .int x1), (2, .int x2)] → W p l e (headSpec wsX10_isBoxClear rm_mo_isBoxClear).room s m args below meth c H locs 0 0 Z (F0 m 30 ls [.int y0]) := by
    intro _  x1 x2 y0 h H locs ls hw hl
    unfold B_mo_isBoxClear_30 at h
    refine lv_istore_n (lv' := [(3, .int y0), (0, .ref (ad 0)), (1, .int x1), (2, .int x2)]) hx hb dX10_isBoxClear_30 rfl hl (by decide) rfl (fun ls hl => ?_)
    refine lv_iload_n hx hb dX10_isBoxClear_31 rfl (lv_at hl 2 rfl) ?_
    refine lv_aload_n hx hb dX10_isBoxClear_32 rfl (lv_at hl 1 rfl) ?_
    refine gM_mo_wide hx hb hts hin hown hK hw lk68 dX10_isBoxClear_33 ?_
    refine lv_idiv hx hb dX10_isBoxClear_36 h.1 ?_
    replace h := h.2
    refine lv_iload_n hx hb dX10_isBoxClear_37 rfl (lv_at hl 3 rfl) ?_
    refine lv_aload_n hx hb dX10_isBoxClear_38 rfl (lv_at hl 1 rfl) ?_
    refine gM_mo_wide hx hb hts hin hown hK hw lk68 dX10_isBoxClear_39 ?_
    refine lv_idiv hx hb dX10_isBoxClear_42 h.1 ?_
    replace h := h.2
    refine lv_icmp_ge (tgt := 55) hx hb dX10_isBoxClear_43 (by decide) (fun hc => ?_) (fun hc => ?_)
    · replace h := h.1 hc
      refine lv_iload_n hx hb dX10_isBoxClear_55 rfl (lv_at hl 3 rfl) ?_
      refine lv_aload_n hx hb dX10_isBoxClear_56 rfl (lv_at hl 1 rfl) ?_
      refine gM_mo_wide hx hb hts hin hown hK hw lk68 dX10_isBoxClear_57 ?_
      refine lv_idiv hx hb dX10_isBoxClear_60 h.1 ?_
      replace h := h.2
      refine lv_topi (fun x4_61 ex4_61 => ?_)
      replace h := h x4_61 ex4_61
      refine lv_istore (lv' := [(4, .int x4_61), (3, .int y0), (0, .ref (ad 0)), (1, .int x1), (2, .int x2)]) hx hb dX10_isBoxClear_61 hl (by decide) rfl (fun ls hl => ?_)
      refine lv_iconst (v := 1) hx hb dX10_isBoxClear_63 (by decide) ?_
      refine lv_istore (lv' := [(5, .int (1 : Int32)), (4, .int x4_61), (3, .int y0), (0, .ref (ad 0)), (1, .int x1), (2, .int x2)]) hx hb dX10_isBoxClear_64 hl (by decide) rfl (fun ls hl => ?_)
      refine lv_iconst (v := 0) hx hb dX10_isBoxClear_66 (by decide) ?_
      refine lv_istore (lv' := [(6, .int (0 : Int32)), (5, .int (1 : Int32)), (4, .int x4_61), (3, .int y0), (0, .ref (ad 0)), (1, .int x1), (2, .int x2)]) hx hb dX10_isBoxClear_67 hl (by decide) rfl (fun ls hl => ?_)
      obtain ⟨n69, h⟩ := h
      exact J69  n69 _ _ _ _ _ _ h _ _ _ hw (lv_sub hl [4, 5, 6, 3, 2, 1, 0] rfl)
    · replace h := h.2 hc
      refine lv_iload_n hx hb dX10_isBoxClear_46 rfl (lv_at hl 2 rfl) ?_
      refine lv_aload_n hx hb dX10_isBoxClear_47 rfl (lv_at hl 1 rfl) ?_
      refine gM_mo_wide hx hb hts hin hown hK hw lk68 dX10_isBoxClear_48 ?_
      refine lv_idiv hx hb dX10_isBoxClear_51 h.1 ?_
      replace h := h.2
      refine lv_goto (tgt := 61) hx hb dX10_isBoxClear_52 (by decide) ?_
      refine lv_topi (fun x4_61 ex4_61 => ?_)
      replace h := h x4_61 ex4_61
      refine lv_istore (lv' := [(4, .int x4_61), (3, .int y0), (0, .ref (ad 0)), (1, .int x1), (2, .int x2)]) hx hb dX10_isBoxClear_61 hl (by decide) rfl (fun ls hl => ?_)
      refine lv_iconst (v := 1) hx hb dX10_isBoxClear_63 (by decide) ?_
      refine lv_istore (lv' := [(5, .int (1 : Int32)), (4, .int x4_61), (3, .int y0), (0, .ref (ad 0)), (1, .int x1), (2, .int x2)]) hx hb dX10_isBoxClear_64 hl (by decide) rfl (fun ls hl => ?_)
      refine lv_iconst (v := 0) hx hb dX10_isBoxClear_66 (by decide) ?_
      refine lv_istore (lv' := [(6, .int (0 : Int32)), (5, .int (1 : Int32)), (4, .int x4_61), (3, .int y0), (0, .ref (ad 0)), (1, .int x1), (2, .int x2)]) hx hb dX10_isBoxClear_67 hl (by decide) rfl (fun ls hl => ?_)
      obtain ⟨n69, h⟩ := h
      exact J69  n69 _ _ _ _ _ _ h _ _ _ hw (lv_sub hl [4, 5, 6, 3, 2, 1, 0] rfl)
  unfold P_mo_isBoxClear at h
  have he : entryFrame m args 8 = entryFrame m ([.ref (ad 0), .int x1, .int x2] : List Value).toArray 8 := by rw [hav]
  refine W.eq he ?_
  have hl := lv_entry ([.ref (ad 0), .int x1, .int x2]) (n := 8) (Nat.le_of_ble_eq_true rfl)
  rw [lg_entry_eq]
  generalize (lg_sl ([.ref (ad 0), .int x1, .int x2]) ++ List.replicate (8 - (lg_sl ([.ref (ad 0), .int x1, .int x2])).length) Slot.unset).toArray = ls at hl ⊢
  have hl : lv_has ls 8 [(0, .ref (ad 0)), (1, .int x1), (2, .int x2)] := hl
  refine lv_iload_n hx hb dX10_isBoxClear_0 rfl (lv_at hl 1 rfl) ?_
  refine lv_aload_n hx hb dX10_isBoxClear_1 rfl (lv_at hl 0 rfl) ?_
  refine gM_mo_wide hx hb hts hin hown hK hw lk68 dX10_isBoxClear_2 ?_
  refine lv_irem hx hb dX10_isBoxClear_5 h.1 ?_
  replace h := h.2
  refine lv_iload_n hx hb dX10_isBoxClear_6 rfl (lv_at hl 2 rfl) ?_
  refine lv_aload_n hx hb dX10_isBoxClear_7 rfl (lv_at hl 0 rfl) ?_
  refine gM_mo_wide hx hb hts hin hown hK hw lk68 dX10_isBoxClear_8 ?_
  refine lv_irem hx hb dX10_isBoxClear_11 h.1 ?_
  replace h := h.2
  refine lv_icmp_ge (tgt := 24) hx hb dX10_isBoxClear_12 (by decide) (fun hc => ?_) (fun hc => ?_)
  · replace h := h.1 hc
    refine lv_iload_n hx hb dX10_isBoxClear_24 rfl (lv_at hl 2 rfl) ?_
    refine lv_aload_n hx hb dX10_isBoxClear_25 rfl (lv_at hl 0 rfl) ?_
    refine gM_mo_wide hx hb hts hin hown hK hw lk68 dX10_isBoxClear_26 ?_
    refine lv_irem hx hb dX10_isBoxClear_29 h.1 ?_
    replace h := h.2
    exact J30 trivial  _ _ _ h _ _ _ hw (lv_sub hl [0, 1, 2] rfl)
  · replace h := h.2 hc
    refine lv_iload_n hx hb dX10_isBoxClear_15 rfl (lv_at hl 1 rfl) ?_
    refine lv_aload_n hx hb dX10_isBoxClear_16 rfl (lv_at hl 0 rfl) ?_
    refine gM_mo_wide hx hb hts hin hown hK hw lk68 dX10_isBoxClear_17 ?_
    refine lv_irem hx hb dX10_isBoxClear_20 h.1 ?_
    replace h := h.2
    refine lv_goto (tgt := 30) hx hb dX10_isBoxClear_21 (by decide) ?_
    exact J30 trivial  _ _ _ h _ _ _ hw (lv_sub hl [0, 1, 2] rfl)
