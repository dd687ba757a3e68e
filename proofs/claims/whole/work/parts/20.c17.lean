def rm_mo_hours : Room := { frames := 6, cells := 0, slots := 0, locals := 158 }
set_option maxHeartbeats 4000000 in
set_option maxRecDepth 100000 in
theorem c_mo_hours {l : Launch} {D : va_G} {cI cL cZ : ClassId} {mx my : Nat} {A : Nat → Prop} {ad : Nat → Nat} {mo_wide mo_tall mo_law mo_range mo_pictures mo_postMany : Int32} {mo_kind mo_queue mo_far mo_pictureCell mo_facing mo_sights mo_fewest mo_posts mo_left mo_roundMany mo_round mo_shift mo_thief mo_danger mo_old : Nat → Int32} (x1 : Int32) (x2 : Int32) {Q : Int32 → (Nat → Int32) → (Nat → Int32) → (Nat → Int32) → Prop} (h : P_mo_hours mo_wide mo_tall mo_kind mo_law mo_range mo_queue mo_pictures mo_pictureCell mo_roundMany mo_round mo_shift mo_thief mo_danger x1 x2 Q) : Met l yX10_hours wsX10_hours rm_mo_hours (va_Pc [.ref (ad 0), .int x1, .int x2] (WC D cI cL cZ mx my A (wdM cI cL cZ ad mo_wide mo_tall mo_kind mo_law mo_range mo_queue mo_far mo_pictures mo_pictureCell mo_facing mo_sights mo_fewest mo_posts mo_postMany mo_left mo_roundMany mo_round mo_shift mo_thief mo_danger mo_old))) (va_Qi (fun (r : Int32) (u : (Nat → Int32) × (Nat → Int32) × (Nat → Int32)) => Q r u.1 u.2.1 u.2.2) (fun (u : (Nat → Int32) × (Nat → Int32) × (Nat → Int32)) t => PW D A (wdM cI cL cZ ad mo_wide mo_tall mo_kind mo_law mo_range u.1 mo_far mo_pictures mo_pictureCell mo_facing mo_sights mo_fewest mo_posts mo_postMany mo_left mo_roundMany mo_round mo_shift u.2.1 u.2.2 mo_old) t.heap) A) 0 0 A := by
  refine Met.ofW (cc := cX10_hours) (maxL := 6) (ret := (some .int)) (by decide) rfl ?_
  intro p e s m args below meth c s₁ B hml hv
  obtain ⟨hav, hP0, hD0, hK⟩ := hv
  have hx := B.exec
  have hb := B.bytes
  have hr := B.returns
  have hts := atoms_spec (ws := wsX10_hours) B.pre
  have hown : s.vm.findClass RX10 = some m.cls := findClass_of_methodNamed B.named
  have hlocks := B.notSynchronized
  have hB : ∀ w ∈ BIG, w ∈ wsX10_hours := fun _ h => List.mem_cons_of_mem _ h
  have hin : ∀ w ∈ wsX100, w ∈ wsX10_hours := fun w h => hB w (inB_X10 w h)
  have lk54 := hts _ (hB _ m_949)
  obtain ⟨Z, hZ⟩ : ∃ Z : State → Prop, Z = MQ below (va_Qi (fun (r : Int32) (u : (Nat → Int32) × (Nat → Int32) × (Nat → Int32)) => Q r u.1 u.2.1 u.2.2) (fun (u : (Nat → Int32) × (Nat → Int32) × (Nat → Int32)) t => PW D A (wdM cI cL cZ ad mo_wide mo_tall mo_kind mo_law mo_range u.1 mo_far mo_pictures mo_pictureCell mo_facing mo_sights mo_fewest mo_posts mo_postMany mo_left mo_roundMany mo_round mo_shift u.2.1 u.2.2 mo_old) t.heap) A) args s 0 0 A := ⟨_, rfl⟩
  rw [← hZ]
  have hw : SW D A s.heap (wdM cI cL cZ ad mo_wide mo_tall mo_kind mo_law mo_range mo_queue mo_far mo_pictures mo_pictureCell mo_facing mo_sights mo_fewest mo_posts mo_postMany mo_left mo_roundMany mo_round mo_shift mo_thief mo_danger mo_old) s.heap [] := ⟨hP0, hD0, va_S.rf⟩
  clear hP0 hD0 B
  have J26 : ∀ (n : Nat) (mo_queue : (Nat → Int32)) (mo_thief : (Nat → Int32)) (mo_danger : (Nat → Int32)) (x1 : Int32) (x2 : Int32) (x4 : Int32) (x5 : Int32) , L_mo_hours_26 mo_wide mo_kind mo_law mo_range mo_pictureCell mo_roundMany mo_round mo_shift Q n mo_queue mo_thief mo_danger x1 x2 x4 x5 → ∀ (H : Heap) (locs : List Loc) (ls : Array Slot), SW D A s.heap (wdM cI cL cZ ad mo_wide mo_tall mo_kind mo_law mo_range mo_queue mo_far mo_pictures mo_pictureCell mo_facing mo_sights mo_fewest mo_posts mo_postMany mo_left mo_roundMany mo_round mo_shift mo_thief mo_danger mo_old) H locs → lv_has ls 6 [(0, .ref (ad 0)), (1, .int x1), (2, .int x2), (4, .int x4), (5, .int x5)] → W p l e (headSpec wsX10_hours rm_mo_hours).room s m args below meth c H locs 0 0 Z (F0 m 26 ls []) := by
    intro  n
    induction n with
    | zero => intro mo_queue mo_thief mo_danger x1 x2 x4 x5 h; exact h.elim
    | succ n ih =>
    intro mo_queue mo_thief mo_danger x1 x2 x4 x5 h H locs ls hw hl
    unfold L_mo_hours_26 at h
    refine lv_iload hx hb dX10_hours_26 (lv_at hl 4 rfl) ?_
    refine lv_aload_n hx hb dX10_hours_28 rfl (lv_at hl 0 rfl) ?_
    refine cV_i (b := (ad 0)) (As := []) (rest := [.int x5]) ⟨hx, hb, hml, hown, hts⟩ hK hw (c_mo_periodNow h) (cwV 0 hts (gd_RX10_172 hB) rfl rfl rfl (by decide +kernel) ⟨Nat.le_of_ble_eq_true rfl, Nat.le_of_ble_eq_true rfl⟩) (rM_mo hK hw) hl.1 ⟨Nat.zero_le _, Nat.zero_le _⟩ rfl rfl (Nat.le_of_ble_eq_true rfl) dX10_hours_29 (fun r29 _ H locs h hw => ?_)
    refine lv_icmp_ge (tgt := 79) hx hb dX10_hours_32 (by decide) (fun hc => ?_) (fun hc => ?_)
    · replace h := h.1 hc
      refine lv_iload hx hb dX10_hours_79 (lv_at hl 3 rfl) ?_
      rw [hZ]
      exact rt_i (mo_queue, mo_thief, mo_danger) hx hb hr hlocks hw h dX10_hours_81
    · replace h := h.2 hc
      refine lv_iload hx hb dX10_hours_35 (lv_at hl 3 rfl) ?_
      refine lv_aload_n hx hb dX10_hours_37 rfl (lv_at hl 0 rfl) ?_
      refine lv_iload_n hx hb dX10_hours_38 rfl (lv_at hl 2 rfl) ?_
      refine lv_iload hx hb dX10_hours_39 (lv_at hl 4 rfl) ?_
      refine cV_i (b := (ad 0)) (As := [.int x2, .int x5]) (rest := [.int x4]) ⟨hx, hb, hml, hown, hts⟩ hK hw (c_mo_mayBegin x2 x5 h) (cwV 2 hts (gd_RX10_200 hB) rfl rfl rfl (by decide +kernel) ⟨Nat.le_of_ble_eq_true rfl, Nat.le_of_ble_eq_true rfl⟩) (rM_mo hK hw) hl.1 ⟨Nat.zero_le _, Nat.zero_le _⟩ rfl rfl (Nat.le_of_ble_eq_true rfl) dX10_hours_41 (fun r41 _ H locs h hw => ?_)
      refine lv_if_eq (tgt := 69) hx hb dX10_hours_44 (by decide) (fun hc => ?_) (fun hc => ?_)
      · replace h := h.1 hc
        refine lv_iconst (v := 0) hx hb dX10_hours_69 (by decide) ?_
        refine lv_iadd hx hb dX10_hours_70 ?_
        refine lv_istore (lv' := [(4, .int (x4 + (0 : Int32))), (0, .ref (ad 0)), (1, .int x1), (2, .int x2), (5, .int x5)]) hx hb dX10_hours_71 hl (by decide) rfl (fun ls hl => ?_)
        refine lv_iinc (v := (x5 + (1 : Int32))) (lv' := [(5, .int (x5 + (1 : Int32))), (4, .int (x4 + (0 : Int32))), (0, .ref (ad 0)), (1, .int x1), (2, .int x2)]) hx hb dX10_hours_73 hl (k := 4) rfl rfl (by decide) rfl (fun ls hl => ?_)
        refine lv_goto (tgt := 26) hx hb dX10_hours_76 (by decide) ?_
        exact ih _ _ _ _ _ _ _ h _ _ _ hw (lv_sub hl [2, 3, 4, 1, 0] rfl)
      · replace h := h.2 hc
        refine lv_aload_n hx hb dX10_hours_47 rfl (lv_at hl 0 rfl) ?_
        refine gM_mo_thief hx hb hts hin hown hK hw lk54 dX10_hours_48 ?_
        refine lv_aload_n hx hb dX10_hours_51 rfl (lv_at hl 0 rfl) ?_
        refine lv_iload_n hx hb dX10_hours_52 rfl (lv_at hl 1 rfl) ?_
        refine lv_iload_n hx hb dX10_hours_53 rfl (lv_at hl 2 rfl) ?_
        refine lv_iload hx hb dX10_hours_54 (lv_at hl 4 rfl) ?_
        refine cV_i (b := (ad 0)) (As := [.int x1, .int x2, .int x5]) (rest := [.ref (ad 13), .int x4]) ⟨hx, hb, hml, hown, hts⟩ hK hw (c_mo_beginOf x1 x2 x5 h) (cwV 3 hts (gd_RX10_206 hB) rfl rfl rfl (by decide +kernel) ⟨Nat.le_of_ble_eq_true rfl, Nat.le_of_ble_eq_true rfl⟩) (rM_mo hK hw) hl.1 ⟨Nat.zero_le _, Nat.zero_le _⟩ rfl rfl (Nat.le_of_ble_eq_true rfl) dX10_hours_56 (fun r56 _ H locs h hw => ?_)
        refine aM_mo_thief hx hb hK hw h.1 dX10_hours_59 ?_
        replace h := h.2
        refine lv_bipush (v := (-9)) hx hb dX10_hours_60 (by decide) ?_
        refine lv_icmp_eq (tgt := 69) hx hb dX10_hours_62 (by decide) (fun hc => ?_) (fun hc => ?_)
        · replace h := h.1 hc
          refine lv_iconst (v := 0) hx hb dX10_hours_69 (by decide) ?_
          refine lv_iadd hx hb dX10_hours_70 ?_
          refine lv_istore (lv' := [(4, .int (x4 + (0 : Int32))), (0, .ref (ad 0)), (1, .int x1), (2, .int x2), (5, .int x5)]) hx hb dX10_hours_71 hl (by decide) rfl (fun ls hl => ?_)
          refine lv_iinc (v := (x5 + (1 : Int32))) (lv' := [(5, .int (x5 + (1 : Int32))), (4, .int (x4 + (0 : Int32))), (0, .ref (ad 0)), (1, .int x1), (2, .int x2)]) hx hb dX10_hours_73 hl (k := 4) rfl rfl (by decide) rfl (fun ls hl => ?_)
          refine lv_goto (tgt := 26) hx hb dX10_hours_76 (by decide) ?_
          exact ih _ _ _ _ _ _ _ h _ _ _ hw (lv_sub hl [2, 3, 4, 1, 0] rfl)
        · replace h := h.2 hc
          refine lv_iconst (v := 1) hx hb dX10_hours_65 (by decide) ?_
          refine lv_goto (tgt := 70) hx hb dX10_hours_66 (by decide) ?_
          refine lv_iadd hx hb dX10_hours_70 ?_
          refine lv_istore (lv' := [(4, .int (x4 + (1 : Int32))), (0, .ref (ad 0)), (1, .int x1), (2, .int x2), (5, .int x5)]) hx hb dX10_hours_71 hl (by decide) rfl (fun ls hl => ?_)
          refine lv_iinc (v := (x5 + (1 : Int32))) (lv' := [(5, .int (x5 + (1 : Int32))), (4, .int (x4 + (1 : Int32))), (0, .ref (ad 0)), (1, .int x1), (2, .int x2)]) hx hb dX10_hours_73 hl (k := 4) rfl rfl (by decide) rfl (fun ls hl => ?_)
          refine lv_goto (tgt := 26) hx hb dX10_hours_76 (by decide) ?_
          exact ih _ _ _ _ _ _ _ h _ _ _ hw (lv_sub hl [2, 3, 4, 1, 0] rfl)
  unfold P_mo_hours at h
  have he : entryFrame m args 6 = entryFrame m ([.ref (ad 0), .int x1, .int x2] : List Value).toArray 6 := by rw [hav]
  refine W.eq he ?_
  have hl := lv_entry ([.ref (ad 0), .int x1, .int x2]) (n := 6) (Nat.le_of_ble_eq_true rfl)
  rw [lg_entry_eq]
  generalize (lg_sl ([.ref (ad 0), .int x1, .int x2]) ++ List.replicate (6 - (lg_sl ([.ref (ad 0), .int x1, .int x2])).length) Slot.unset).toArray = ls at hl ⊢
  have hl : lv_has ls 6 [(0, .ref (ad 0)), (1, .int x1), (2, .int x2)] := hl
  refine lv_aload_n hx hb dX10_hours_0 rfl (lv_at hl 0 rfl) ?_
  refine lv_iload_n hx hb dX10_hours_1 rfl (lv_at hl 1 rfl) ?_
  refine lv_iload_n hx hb dX10_hours_2 rfl (lv_at hl 2 rfl) ?_
  refine lv_iconst (v := 0) hx hb dX10_hours_3 (by decide) ?_
  refine cV_i (b := (ad 0)) (As := [.int x1, .int x2, .int (0 : Int32)]) (rest := []) ⟨hx, hb, hml, hown, hts⟩ hK hw (c_mo_mayAsk x1 x2 (0 : Int32) h) (cwV 3 hts (gd_RX10_196 hB) rfl rfl rfl (by decide +kernel) ⟨Nat.le_of_ble_eq_true rfl, Nat.le_of_ble_eq_true rfl⟩) (rM_mo hK hw) hl.1 ⟨Nat.zero_le _, Nat.zero_le _⟩ rfl rfl (Nat.le_of_ble_eq_true rfl) dX10_hours_4 (fun r4 _ H locs h hw => ?_)
  refine lv_istore_n (lv' := [(3, .int r4), (0, .ref (ad 0)), (1, .int x1), (2, .int x2)]) hx hb dX10_hours_7 rfl hl (by decide) rfl (fun ls hl => ?_)
  refine lv_iload_n hx hb dX10_hours_8 rfl (lv_at hl 0 rfl) ?_
  refine lv_if_ge (tgt := 14) hx hb dX10_hours_9 (by decide) (fun hc => ?_) (fun hc => ?_)
  · replace h := h.1 hc
    refine lv_iconst (v := 0) hx hb dX10_hours_14 (by decide) ?_
    refine lv_istore (lv' := [(4, .int (0 : Int32)), (3, .int r4), (0, .ref (ad 0)), (1, .int x1), (2, .int x2)]) hx hb dX10_hours_15 hl (by decide) rfl (fun ls hl => ?_)
    refine lv_aload_n hx hb dX10_hours_17 rfl (lv_at hl 2 rfl) ?_
    refine lv_iload_n hx hb dX10_hours_18 rfl (lv_at hl 3 rfl) ?_
    refine lv_iload_n hx hb dX10_hours_19 rfl (lv_at hl 4 rfl) ?_
    refine cV_v (b := (ad 0)) (As := [.int x1, .int x2]) (rest := []) ⟨hx, hb, hml, hown, hts⟩ hK hw (c_mo_layTheft x1 x2 h) (cwV 2 hts (gd_RX10_203 hB) rfl rfl rfl (by decide +kernel) ⟨Nat.le_of_ble_eq_true rfl, Nat.le_of_ble_eq_true rfl⟩) (rM_mo hK hw) hl.1 ⟨Nat.zero_le _, Nat.zero_le _⟩ rfl rfl (Nat.le_of_ble_eq_true rfl) dX10_hours_20 (fun u20 H locs h hw => ?_)
    obtain ⟨mo_queue_20, mo_thief_20, mo_danger_20⟩ := u20
    refine lv_iconst (v := 0) hx hb dX10_hours_23 (by decide) ?_
    refine lv_istore (lv' := [(5, .int (0 : Int32)), (4, .int (0 : Int32)), (3, .int r4), (0, .ref (ad 0)), (1, .int x1), (2, .int x2)]) hx hb dX10_hours_24 hl (by decide) rfl (fun ls hl => ?_)
    obtain ⟨n26, h⟩ := h
    exact J26  n26 _ _ _ _ _ _ _ h _ _ _ hw (lv_sub hl [3, 4, 5, 1, 0] rfl)
  · replace h := h.2 hc
    refine lv_iload_n hx hb dX10_hours_12 rfl (lv_at hl 0 rfl) ?_
    rw [hZ]
    exact rt_i (mo_queue, mo_thief, mo_danger) hx hb hr hlocks hw h dX10_hours_13
def rm_mo_turned : Room := { frames := 0, cells := 0, slots := 0, locals := 0 }
set_option maxHeartbeats 4000000 in
set_option maxRecDepth 100000 in
theorem c_mo_turned {l : Launch} {D : va_G} {cI cL cZ : ClassId} {mx my : Nat} {A : Nat → Prop} {ad : Nat → Nat} {mo_wide mo_tall mo_law mo_range mo_pictures mo_postMany : Int32} {mo_kind mo_queue mo_far mo_pictureCell mo_facing mo_sights mo_fewest mo_posts mo_left mo_roundMany mo_round mo_shift mo_thief mo_danger mo_old : Nat → Int32} (x1 : Int32) {Q : Int32 → Prop} (h : P_mo_turned mo_wide mo_tall x1 Q) : Met l yX10_turned wsX10_turned rm_mo_turned (va_Pc [.ref (ad 0), .int x1] (WC D cI cL cZ mx my A (wdM cI cL cZ ad mo_wide mo_tall mo_kind mo_law mo_range mo_queue mo_far mo_pictures mo_pictureCell mo_facing mo_sights mo_fewest mo_posts mo_postMany mo_left mo_roundMany mo_round mo_shift mo_thief mo_danger mo_old))) (va_Qi (fun (r : Int32) (u : Unit) => Q r) (fun (u : Unit) t => PW D A (wdM cI cL cZ ad mo_wide mo_tall mo_kind mo_law mo_range mo_queue mo_far mo_pictures mo_pictureCell mo_facing mo_sights mo_fewest mo_posts mo_postMany mo_left mo_roundMany mo_round mo_shift mo_thief mo_danger mo_old) t.heap) A) 0 0 A := by
  refine Met.ofW (cc := cX10_turned) (maxL := 2) (ret := (some .int)) (by decide) rfl ?_
  intro p e s m args below meth c s₁ B hml hv
  obtain ⟨hav, hP0, hD0, hK⟩ := hv
  have hx := B.exec
  have hb := B.bytes
  have hr := B.returns
  have hts := atoms_spec (ws := wsX10_turned) B.pre
  have hown : s.vm.findClass RX10 = some m.cls := findClass_of_methodNamed B.named
  have hlocks := B.notSynchronized
  have hB : ∀ w ∈ BIG, w ∈ wsX10_turned := fun _ h => List.mem_cons_of_mem _ h
  have hin : ∀ w ∈ wsX100, w ∈ wsX10_turned := fun w h => hB w (inB_X10 w h)
  have lk68 := hts _ (hB _ m_931)
  have lk71 := hts _ (hB _ m_932)
  obtain ⟨Z, hZ⟩ : ∃ Z : State → Prop, Z = MQ below (va_Qi (fun (r : Int32) (u : Unit) => Q r) (fun (u : Unit) t => PW D A (wdM cI cL cZ ad mo_wide mo_tall mo_kind mo_law mo_range mo_queue mo_far mo_pictures mo_pictureCell mo_facing mo_sights mo_fewest mo_posts mo_postMany mo_left mo_roundMany mo_round mo_shift mo_thief mo_danger mo_old) t.heap) A) args s 0 0 A := ⟨_, rfl⟩
  rw [← hZ]
  have hw : SW D A s.heap (wdM cI cL cZ ad mo_wide mo_tall mo_kind mo_law mo_range mo_queue mo_far mo_pictures mo_pictureCell mo_facing mo_sights mo_fewest mo_posts mo_postMany mo_left mo_roundMany mo_round mo_shift mo_thief mo_danger mo_old) s.heap [] := ⟨hP0, hD0, va_S.rf⟩
  clear hP0 hD0 B
  unfold P_mo_turned at h
  have he : entryFrame m args 2 = entryFrame m ([.ref (ad 0), .int x1] : List Value).toArray 2 := by rw [hav]
  refine W.eq he ?_
  have hl := lv_entry ([.ref (ad 0), .int x1]) (n := 2) (Nat.le_of_ble_eq_true rfl)
  rw [lg_entry_eq]
  generalize (lg_sl ([.ref (ad 0), .int x1]) ++ List.replicate (2 - (lg_sl ([.ref (ad 0), .int x1])).length) Slot.unset).toArray = ls at hl ⊢
  have hl : lv_has ls 2 [(0, .ref (ad 0)), (1, .int x1)] := hl
  refine lv_iload_n hx hb dX10_turned_0 rfl (lv_at hl 1 rfl) ?_
  refine lv_aload_n hx hb dX10_turned_1 rfl (lv_at hl 0 rfl) ?_
  refine gM_mo_wide hx hb hts hin hown hK hw lk68 dX10_turned_2 ?_
  refine lv_irem hx hb dX10_turned_5 h.1 ?_
  replace h := h.2
  refine lv_aload_n hx hb dX10_turned_6 rfl (lv_at hl 0 rfl) ?_
  refine gM_mo_tall hx hb hts hin hown hK hw lk71 dX10_turned_7 ?_
  refine lv_imul hx hb dX10_turned_10 ?_
  refine lv_aload_n hx hb dX10_turned_11 rfl (lv_at hl 0 rfl) ?_
  refine gM_mo_tall hx hb hts hin hown hK hw lk71 dX10_turned_12 ?_
  refine lv_iadd hx hb dX10_turned_15 ?_
  refine lv_iconst (v := 1) hx hb dX10_turned_16 (by decide) ?_
  refine lv_isub hx hb dX10_turned_17 ?_
  refine lv_iload_n hx hb dX10_turned_18 rfl (lv_at hl 1 rfl) ?_
  refine lv_aload_n hx hb dX10_turned_19 rfl (lv_at hl 0 rfl) ?_
  refine gM_mo_wide hx hb hts hin hown hK hw lk68 dX10_turned_20 ?_
  refine lv_idiv hx hb dX10_turned_23 h.1 ?_
  replace h := h.2
  refine lv_isub hx hb dX10_turned_24 ?_
  rw [hZ]
  exact rt_i () hx hb hr hlocks hw h dX10_turned_25
def rm_mo_turn : Room := { frames := 1, cells := 0, slots := 0, locals := 21 }
set_option maxHeartbeats 4000000 in
set_option maxRecDepth 100000 in
theorem c_mo_turn {l : Launch} {D : va_G} {cI cL cZ : ClassId} {mx my : Nat} {A : Nat → Prop} {ad : Nat → Nat} {mo_wide mo_tall mo_law mo_range mo_pictures mo_postMany : Int32} {mo_kind mo_queue mo_far mo_pictureCell mo_facing mo_sights mo_fewest mo_posts mo_left mo_roundMany mo_round mo_shift mo_thief mo_danger mo_old : Nat → Int32}  {Q : Int32 → Int32 → Int32 → (Nat → Int32) → (Nat → Int32) → (Nat → Int32) → (Nat → Int32) → (Nat → Int32) → Prop} (h : P_mo_turn mo_wide mo_tall mo_kind mo_pictures mo_pictureCell mo_facing mo_roundMany mo_round mo_old Q) : Met l yX10_turn wsX10_turn rm_mo_turn (va_Pc [.ref (ad 0)] (WC D cI cL cZ mx my A (wdM cI cL cZ ad mo_wide mo_tall mo_kind mo_law mo_range mo_queue mo_far mo_pictures mo_pictureCell mo_facing mo_sights mo_fewest mo_posts mo_postMany mo_left mo_roundMany mo_round mo_shift mo_thief mo_danger mo_old))) (va_Qi (fun (r : Int32) (u : Int32 × Int32 × (Nat → Int32) × (Nat → Int32) × (Nat → Int32) × (Nat → Int32) × (Nat → Int32)) => Q r u.1 u.2.1 u.2.2.1 u.2.2.2.1 u.2.2.2.2.1 u.2.2.2.2.2.1 u.2.2.2.2.2.2) (fun (u : Int32 × Int32 × (Nat → Int32) × (Nat → Int32) × (Nat → Int32) × (Nat → Int32) × (Nat → Int32)) t => PW D A (wdM cI cL cZ ad u.1 u.2.1 u.2.2.1 mo_law mo_range mo_queue mo_far mo_pictures u.2.2.2.1 u.2.2.2.2.1 mo_sights mo_fewest mo_posts mo_postMany mo_left mo_roundMany u.2.2.2.2.2.1 mo_shift mo_thief mo_danger u.2.2.2.2.2.2) t.heap) A) 0 0 A := by
  refine Met.ofW (cc := cX10_turn) (maxL := 2) (ret := (some .int)) (by decide) rfl ?_
  intro p e s m args below meth c s₁ B hml hv
  obtain ⟨hav, hP0, hD0, hK⟩ := hv
  have hx := B.exec
  have hb := B.bytes
  have hr := B.returns
  have hts := atoms_spec (ws := wsX10_turn) B.pre
  have hown : s.vm.findClass RX10 = some m.cls := findClass_of_methodNamed B.named
  have hlocks := B.notSynchronized
  have hB : ∀ w ∈ BIG, w ∈ wsX10_turn := fun _ h => List.mem_cons_of_mem _ h
  have hin : ∀ w ∈ wsX100, w ∈ wsX10_turn := fun w h => hB w (inB_X10 w h)
  have lk7 := hts _ (hB _ m_933)
  have lk27 := hts _ (hB _ m_939)
  have lk30 := hts _ (hB _ m_940)
  have lk45 := hts _ (hB _ m_946)
  have lk48 := hts _ (hB _ m_947)
  have lk61 := hts _ (hB _ m_951)
  have lk68 := hts _ (hB _ m_931)
  have lk71 := hts _ (hB _ m_932)
  have lk74 := hts _ (hB _ m_938)
  obtain ⟨Z, hZ⟩ : ∃ Z : State → Prop, Z = MQ below (va_Qi (fun (r : Int32) (u : Int32 × Int32 × (Nat → Int32) × (Nat → Int32) × (Nat → Int32) × (Nat → Int32) × (Nat → Int32)) => Q r u.1 u.2.1 u.2.2.1 u.2.2.2.1 u.2.2.2.2.1 u.2.2.2.2.2.1 u.2.2.2.2.2.2) (fun (u : Int32 × Int32 × (Nat → Int32) × (Nat → Int32) × (Nat → Int32) × (Nat → Int32) × (Nat → Int32)) t => PW D A (wdM cI cL cZ ad u.1 u.2.1 u.2.2.1 mo_law mo_range mo_queue mo_far mo_pictures u.2.2.2.1 u.2.2.2.2.1 mo_sights mo_fewest mo_posts mo_postMany mo_left mo_roundMany u.2.2.2.2.2.1 mo_shift mo_thief mo_danger u.2.2.2.2.2.2) t.heap) A) args s 0 0 A := ⟨_, rfl⟩
  rw [← hZ]
  have hw : SW D A s.heap (wdM cI cL cZ ad mo_wide mo_tall mo_kind mo_law mo_range mo_queue mo_far mo_pictures mo_pictureCell mo_facing mo_sights mo_fewest mo_posts mo_postMany mo_left mo_roundMany mo_round mo_shift mo_thief mo_danger mo_old) s.heap [] := ⟨hP0, hD0, va_S.rf⟩
  clear hP0 hD0 B
  have J168 : ∀ (_ : True) (mo_wide : Int32) (mo_tall : Int32) (mo_kind : (Nat → Int32)) (mo_pictureCell : (Nat → Int32)) (mo_facing : (Nat → Int32)) (mo_round : (Nat → Int32)) (mo_old : (Nat → Int32)) , B_mo_turn_168 Q mo_wide mo_tall mo_kind mo_pictureCell mo_facing mo_round mo_old → ∀ (H : Heap) (locs : List Loc) (ls : Array Slot), SW D A s.heap (wdM cI cL cZ ad mo_wide mo_tall mo_kind mo_law mo_range mo_queue mo_far mo_pictures mo_pictureCell mo_facing mo_sights mo_fewest mo_posts mo_postMany mo_left mo_roundMany mo_round mo_shift mo_thief mo_danger mo_old) H locs → lv_has ls 2 [(0, .ref (ad 0))] → W p l e (headSpec wsX10_turn rm_mo_turn).room s m args below meth c H locs 0 0 Z (F0 m 168 ls []) := by
    intro _  mo_wide mo_tall mo_kind mo_pictureCell mo_facing mo_round mo_old h H locs ls hw hl
    unfold B_mo_turn_168 at h
    refine lv_aload_n hx hb dX10_turn_168 rfl (lv_at hl 0 rfl) ?_
    refine gM_mo_wide hx hb hts hin hown hK hw lk68 dX10_turn_169 ?_
    refine lv_istore_n (lv' := [(1, .int mo_wide), (0, .ref (ad 0))]) hx hb dX10_turn_172 rfl hl (by decide) rfl (fun ls hl => ?_)
    refine lv_aload_n hx hb dX10_turn_173 rfl (lv_at hl 1 rfl) ?_
    refine lv_aload_n hx hb dX10_turn_174 rfl (lv_at hl 1 rfl) ?_
    refine gM_mo_tall hx hb hts hin hown hK hw lk71 dX10_turn_175 ?_
    refine sM_mo_wide hx hb hts hin hown hK hw lk68 dX10_turn_178 (fun H locs hw => ?_)
    refine lv_aload_n hx hb dX10_turn_181 rfl (lv_at hl 1 rfl) ?_
    refine lv_iload_n hx hb dX10_turn_182 rfl (lv_at hl 0 rfl) ?_
    refine sM_mo_tall hx hb hts hin hown hK hw lk71 dX10_turn_183 (fun H locs hw => ?_)
    refine lv_aload_n hx hb dX10_turn_186 rfl (lv_at hl 1 rfl) ?_
    refine gM_mo_wide hx hb hts hin hown hK hw lk68 dX10_turn_187 ?_
    rw [hZ]
    exact rt_i (mo_tall, mo_wide, mo_kind, mo_pictureCell, mo_facing, mo_round, mo_old) hx hb hr hlocks hw h dX10_turn_190
  have J120 : ∀ (n : Nat) (mo_wide : Int32) (mo_tall : Int32) (mo_kind : (Nat → Int32)) (mo_pictureCell : (Nat → Int32)) (mo_facing : (Nat → Int32)) (mo_round : (Nat → Int32)) (mo_old : (Nat → Int32)) (x1 : Int32) , L_mo_turn_120 mo_roundMany Q n mo_wide mo_tall mo_kind mo_pictureCell mo_facing mo_round mo_old x1 → ∀ (H : Heap) (locs : List Loc) (ls : Array Slot), SW D A s.heap (wdM cI cL cZ ad mo_wide mo_tall mo_kind mo_law mo_range mo_queue mo_far mo_pictures mo_pictureCell mo_facing mo_sights mo_fewest mo_posts mo_postMany mo_left mo_roundMany mo_round mo_shift mo_thief mo_danger mo_old) H locs → lv_has ls 2 [(0, .ref (ad 0)), (1, .int x1)] → W p l e (headSpec wsX10_turn rm_mo_turn).room s m args below meth c H locs 0 0 Z (F0 m 120 ls []) := by
    intro  n
    induction n with
    | zero => intro mo_wide mo_tall mo_kind mo_pictureCell mo_facing mo_round mo_old x1 h; exact h.elim
    | succ n ih =>
    intro mo_wide mo_tall mo_kind mo_pictureCell mo_facing mo_round mo_old x1 h H locs ls hw hl
    unfold L_mo_turn_120 at h
    refine lv_iload_n hx hb dX10_turn_120 rfl (lv_at hl 1 rfl) ?_
    refine lv_bipush (v := 24) hx hb dX10_turn_121 (by decide) ?_
    refine lv_icmp_ge (tgt := 168) hx hb dX10_turn_123 (by decide) (fun hc => ?_) (fun hc => ?_)
    · replace h := h.1 hc
      exact J168 trivial  _ _ _ _ _ _ _ h _ _ _ hw (lv_sub hl [0] rfl)
    · replace h := h.2 hc
      refine lv_aload_n hx hb dX10_turn_126 rfl (lv_at hl 0 rfl) ?_
      refine gM_mo_round hx hb hts hin hown hK hw lk48 dX10_turn_127 ?_
      refine lv_iload_n hx hb dX10_turn_130 rfl (lv_at hl 1 rfl) ?_
      refine lv_iload_n hx hb dX10_turn_131 rfl (lv_at hl 1 rfl) ?_
      refine lv_bipush (v := 6) hx hb dX10_turn_132 (by decide) ?_
      refine lv_irem hx hb dX10_turn_134 h.1 ?_
      replace h := h.2
      refine lv_aload_n hx hb dX10_turn_135 rfl (lv_at hl 0 rfl) ?_
      refine gM_mo_roundMany hx hb hts hin hown hK hw lk45 dX10_turn_136 ?_
      refine lv_iload_n hx hb dX10_turn_139 rfl (lv_at hl 1 rfl) ?_
      refine lv_bipush (v := 6) hx hb dX10_turn_140 (by decide) ?_
      refine lv_idiv hx hb dX10_turn_142 h.1 ?_
      replace h := h.2
      refine aM_mo_roundMany hx hb hK hw h.1 dX10_turn_143 ?_
      replace h := h.2
      refine lv_icmp_ge (tgt := 160) hx hb dX10_turn_144 (by decide) (fun hc => ?_) (fun hc => ?_)
      · replace h := h.1 hc
        refine lv_iconst (v := 0) hx hb dX10_turn_160 (by decide) ?_
        refine tM_mo_round hx hb hK hw h.1 dX10_turn_161 (fun H locs hw => ?_)
        replace h := h.2
        refine lv_iinc (v := (x1 + (1 : Int32))) (lv' := [(1, .int (x1 + (1 : Int32))), (0, .ref (ad 0))]) hx hb dX10_turn_162 hl (k := 1) rfl rfl (by decide) rfl (fun ls hl => ?_)
        refine lv_goto (tgt := 120) hx hb dX10_turn_165 (by decide) ?_
        exact ih _ _ _ _ _ _ _ _ h _ _ _ hw (lv_sub hl [1, 0] rfl)
      · replace h := h.2 hc
        refine lv_aload_n hx hb dX10_turn_147 rfl (lv_at hl 0 rfl) ?_
        refine lv_aload_n hx hb dX10_turn_148 rfl (lv_at hl 0 rfl) ?_
        refine gM_mo_round hx hb hts hin hown hK hw lk48 dX10_turn_149 ?_
        refine lv_iload_n hx hb dX10_turn_152 rfl (lv_at hl 1 rfl) ?_
        refine aM_mo_round hx hb hK hw h.1 dX10_turn_153 ?_
        replace h := h.2
        refine cV_i (b := (ad 0)) (As := [.int (mo_round x1.toNatClampNeg)]) (rest := [.int x1, .ref (ad 11)]) ⟨hx, hb, hml, hown, hts⟩ hK hw (c_mo_turned (mo_round x1.toNatClampNeg) h) (cwV 1 hts (gd_RX10_212 hB) rfl rfl rfl (by decide +kernel) ⟨Nat.le_of_ble_eq_true rfl, Nat.le_of_ble_eq_true rfl⟩) (rM_mo hK hw) hl.1 ⟨Nat.zero_le _, Nat.zero_le _⟩ rfl rfl (Nat.le_of_ble_eq_true rfl) dX10_turn_154 (fun r154 _ H locs h hw => ?_)
        refine lv_goto (tgt := 161) hx hb dX10_turn_157 (by decide) ?_
        refine tM_mo_round hx hb hK hw h.1 dX10_turn_161 (fun H locs hw => ?_)
        replace h := h.2
        refine lv_iinc (v := (x1 + (1 : Int32))) (lv' := [(1, .int (x1 + (1 : Int32))), (0, .ref (ad 0))]) hx hb dX10_turn_162 hl (k := 1) rfl rfl (by decide) rfl (fun ls hl => ?_)
        refine lv_goto (tgt := 120) hx hb dX10_turn_165 (by decide) ?_
        exact ih _ _ _ _ _ _ _ _ h _ _ _ hw (lv_sub hl [1, 0] rfl)
  have J72 : ∀ (n : Nat) (mo_wide : Int32) (mo_tall : Int32) (mo_kind : (Nat → Int32)) (mo_pictureCell : (Nat → Int32)) (mo_facing : (Nat → Int32)) (mo_round : (Nat → Int32)) (mo_old : (Nat → Int32)) (x1 : Int32) , L_mo_turn_72 mo_pictures mo_roundMany Q n mo_wide mo_tall mo_kind mo_pictureCell mo_facing mo_round mo_old x1 → ∀ (H : Heap) (locs : List Loc) (ls : Array Slot), SW D A s.heap (wdM cI cL cZ ad mo_wide mo_tall mo_kind mo_law mo_range mo_queue mo_far mo_pictures mo_pictureCell mo_facing mo_sights mo_fewest mo_posts mo_postMany mo_left mo_roundMany mo_round mo_shift mo_thief mo_danger mo_old) H locs → lv_has ls 2 [(0, .ref (ad 0)), (1, .int x1)] → W p l e (headSpec wsX10_turn rm_mo_turn).room s m args below meth c H locs 0 0 Z (F0 m 72 ls []) := by
    intro  n
    induction n with
    | zero => intro mo_wide mo_tall mo_kind mo_pictureCell mo_facing mo_round mo_old x1 h; exact h.elim
    | succ n ih =>
    intro mo_wide mo_tall mo_kind mo_pictureCell mo_facing mo_round mo_old x1 h H locs ls hw hl
    unfold L_mo_turn_72 at h
    refine lv_iload_n hx hb dX10_turn_72 rfl (lv_at hl 1 rfl) ?_
    refine lv_aload_n hx hb dX10_turn_73 rfl (lv_at hl 0 rfl) ?_
    refine gM_mo_pictures hx hb hts hin hown hK hw lk74 dX10_turn_74 ?_
    refine lv_icmp_ge (tgt := 118) hx hb dX10_turn_77 (by decide) (fun hc => ?_) (fun hc => ?_)
    · replace h := h.1 hc
      refine lv_iconst (v := 0) hx hb dX10_turn_118 (by decide) ?_
      refine lv_istore_n (lv' := [(1, .int (0 : Int32)), (0, .ref (ad 0))]) hx hb dX10_turn_119 rfl hl (by decide) rfl (fun ls hl => ?_)
      obtain ⟨n120, h⟩ := h
      exact J120  n120 _ _ _ _ _ _ _ _ h _ _ _ hw (lv_sub hl [1, 0] rfl)
    · replace h := h.2 hc
      refine lv_aload_n hx hb dX10_turn_80 rfl (lv_at hl 0 rfl) ?_
      refine gM_mo_pictureCell hx hb hts hin hown hK hw lk27 dX10_turn_81 ?_
      refine lv_iload_n hx hb dX10_turn_84 rfl (lv_at hl 1 rfl) ?_
      refine lv_aload_n hx hb dX10_turn_85 rfl (lv_at hl 0 rfl) ?_
      refine lv_aload_n hx hb dX10_turn_86 rfl (lv_at hl 0 rfl) ?_
      refine gM_mo_pictureCell hx hb hts hin hown hK hw lk27 dX10_turn_87 ?_
      refine lv_iload_n hx hb dX10_turn_90 rfl (lv_at hl 1 rfl) ?_
      refine aM_mo_pictureCell hx hb hK hw h.1 dX10_turn_91 ?_
      replace h := h.2
      refine cV_i (b := (ad 0)) (As := [.int (mo_pictureCell x1.toNatClampNeg)]) (rest := [.int x1, .ref (ad 4)]) ⟨hx, hb, hml, hown, hts⟩ hK hw (c_mo_turned (mo_pictureCell x1.toNatClampNeg) h) (cwV 1 hts (gd_RX10_212 hB) rfl rfl rfl (by decide +kernel) ⟨Nat.le_of_ble_eq_true rfl, Nat.le_of_ble_eq_true rfl⟩) (rM_mo hK hw) hl.1 ⟨Nat.zero_le _, Nat.zero_le _⟩ rfl rfl (Nat.le_of_ble_eq_true rfl) dX10_turn_92 (fun r92 _ H locs h hw => ?_)
      refine tM_mo_pictureCell hx hb hK hw h.1 dX10_turn_95 (fun H locs hw => ?_)
      replace h := h.2
      refine lv_aload_n hx hb dX10_turn_96 rfl (lv_at hl 0 rfl) ?_
      refine gM_mo_facing hx hb hts hin hown hK hw lk30 dX10_turn_97 ?_
      refine lv_iload_n hx hb dX10_turn_100 rfl (lv_at hl 1 rfl) ?_
      refine lv_aload_n hx hb dX10_turn_101 rfl (lv_at hl 0 rfl) ?_
      refine gM_mo_facing hx hb hts hin hown hK hw lk30 dX10_turn_102 ?_
      refine lv_iload_n hx hb dX10_turn_105 rfl (lv_at hl 1 rfl) ?_
      refine aM_mo_facing hx hb hK hw h.1 dX10_turn_106 ?_
      replace h := h.2
      refine lv_iconst (v := 1) hx hb dX10_turn_107 (by decide) ?_
      refine lv_iadd hx hb dX10_turn_108 ?_
      refine lv_iconst (v := 4) hx hb dX10_turn_109 (by decide) ?_
      refine lv_irem hx hb dX10_turn_110 h.1 ?_
      replace h := h.2
      refine tM_mo_facing hx hb hK hw h.1 dX10_turn_111 (fun H locs hw => ?_)
      replace h := h.2
      refine lv_iinc (v := (x1 + (1 : Int32))) (lv' := [(1, .int (x1 + (1 : Int32))), (0, .ref (ad 0))]) hx hb dX10_turn_112 hl (k := 1) rfl rfl (by decide) rfl (fun ls hl => ?_)
      refine lv_goto (tgt := 72) hx hb dX10_turn_115 (by decide) ?_
      exact ih _ _ _ _ _ _ _ _ h _ _ _ hw (lv_sub hl [1, 0] rfl)
  have J35 : ∀ (n : Nat) (mo_wide : Int32) (mo_tall : Int32) (mo_kind : (Nat → Int32)) (mo_pictureCell : (Nat → Int32)) (mo_facing : (Nat → Int32)) (mo_round : (Nat → Int32)) (mo_old : (Nat → Int32)) (x1 : Int32) , L_mo_turn_35 mo_pictures mo_roundMany Q n mo_wide mo_tall mo_kind mo_pictureCell mo_facing mo_round mo_old x1 → ∀ (H : Heap) (locs : List Loc) (ls : Array Slot), SW D A s.heap (wdM cI cL cZ ad mo_wide mo_tall mo_kind mo_law mo_range mo_queue mo_far mo_pictures mo_pictureCell mo_facing mo_sights mo_fewest mo_posts mo_postMany mo_left mo_roundMany mo_round mo_shift mo_thief mo_danger mo_old) H locs → lv_has ls 2 [(0, .ref (ad 0)), (1, .int x1)] → W p l e (headSpec wsX10_turn rm_mo_turn).room s m args below meth c H locs 0 0 Z (F0 m 35 ls []) := by
    intro  n
    induction n with
    | zero => intro mo_wide mo_tall mo_kind mo_pictureCell mo_facing mo_round mo_old x1 h; exact h.elim
    | succ n ih =>
    intro mo_wide mo_tall mo_kind mo_pictureCell mo_facing mo_round mo_old x1 h H locs ls hw hl
    unfold L_mo_turn_35 at h
    refine lv_iload_n hx hb dX10_turn_35 rfl (lv_at hl 1 rfl) ?_
    refine lv_aload_n hx hb dX10_turn_36 rfl (lv_at hl 0 rfl) ?_
    refine gM_mo_wide hx hb hts hin hown hK hw lk68 dX10_turn_37 ?_
    refine lv_aload_n hx hb dX10_turn_40 rfl (lv_at hl 0 rfl) ?_
    refine gM_mo_tall hx hb hts hin hown hK hw lk71 dX10_turn_41 ?_
    refine lv_imul hx hb dX10_turn_44 ?_
    refine lv_icmp_ge (tgt := 70) hx hb dX10_turn_45 (by decide) (fun hc => ?_) (fun hc => ?_)
    · replace h := h.1 hc
      refine lv_iconst (v := 0) hx hb dX10_turn_70 (by decide) ?_
      refine lv_istore_n (lv' := [(1, .int (0 : Int32)), (0, .ref (ad 0))]) hx hb dX10_turn_71 rfl hl (by decide) rfl (fun ls hl => ?_)
      obtain ⟨n72, h⟩ := h
      exact J72  n72 _ _ _ _ _ _ _ _ h _ _ _ hw (lv_sub hl [1, 0] rfl)
    · replace h := h.2 hc
      refine lv_aload_n hx hb dX10_turn_48 rfl (lv_at hl 0 rfl) ?_
      refine gM_mo_kind hx hb hts hin hown hK hw lk7 dX10_turn_49 ?_
      refine lv_aload_n hx hb dX10_turn_52 rfl (lv_at hl 0 rfl) ?_
      refine lv_iload_n hx hb dX10_turn_53 rfl (lv_at hl 1 rfl) ?_
      refine cV_i (b := (ad 0)) (As := [.int x1]) (rest := [.ref (ad 1)]) ⟨hx, hb, hml, hown, hts⟩ hK hw (c_mo_turned x1 h) (cwV 1 hts (gd_RX10_212 hB) rfl rfl rfl (by decide +kernel) ⟨Nat.le_of_ble_eq_true rfl, Nat.le_of_ble_eq_true rfl⟩) (rM_mo hK hw) hl.1 ⟨Nat.zero_le _, Nat.zero_le _⟩ rfl rfl (Nat.le_of_ble_eq_true rfl) dX10_turn_54 (fun r54 _ H locs h hw => ?_)
      refine lv_aload_n hx hb dX10_turn_57 rfl (lv_at hl 0 rfl) ?_
      refine gM_mo_old hx hb hts hin hown hK hw lk61 dX10_turn_58 ?_
      refine lv_iload_n hx hb dX10_turn_61 rfl (lv_at hl 1 rfl) ?_
      refine aM_mo_old hx hb hK hw h.1 dX10_turn_62 ?_
      replace h := h.2
      refine tM_mo_kind hx hb hK hw h.1 dX10_turn_63 (fun H locs hw => ?_)
      replace h := h.2
      refine lv_iinc (v := (x1 + (1 : Int32))) (lv' := [(1, .int (x1 + (1 : Int32))), (0, .ref (ad 0))]) hx hb dX10_turn_64 hl (k := 1) rfl rfl (by decide) rfl (fun ls hl => ?_)
      refine lv_goto (tgt := 35) hx hb dX10_turn_67 (by decide) ?_
      exact ih _ _ _ _ _ _ _ _ h _ _ _ hw (lv_sub hl [1, 0] rfl)
  have J2 : ∀ (n : Nat) (mo_wide : Int32) (mo_tall : Int32) (mo_kind : (Nat → Int32)) (mo_pictureCell : (Nat → Int32)) (mo_facing : (Nat → Int32)) (mo_round : (Nat → Int32)) (mo_old : (Nat → Int32)) (x1 : Int32) , L_mo_turn_2 mo_pictures mo_roundMany Q n mo_wide mo_tall mo_kind mo_pictureCell mo_facing mo_round mo_old x1 → ∀ (H : Heap) (locs : List Loc) (ls : Array Slot), SW D A s.heap (wdM cI cL cZ ad mo_wide mo_tall mo_kind mo_law mo_range mo_queue mo_far mo_pictures mo_pictureCell mo_facing mo_sights mo_fewest mo_posts mo_postMany mo_left mo_roundMany mo_round mo_shift mo_thief mo_danger mo_old) H locs → lv_has ls 2 [(0, .ref (ad 0)), (1, .int x1)] → W p l e (headSpec wsX10_turn rm_mo_turn).room s m args below meth c H locs 0 0 Z (F0 m 2 ls []) := by
    intro  n
    induction n with
    | zero => intro mo_wide mo_tall mo_kind mo_pictureCell mo_facing mo_round mo_old x1 h; exact h.elim
    | succ n ih =>
    intro mo_wide mo_tall mo_kind mo_pictureCell mo_facing mo_round mo_old x1 h H locs ls hw hl
    unfold L_mo_turn_2 at h
    refine lv_iload_n hx hb dX10_turn_2 rfl (lv_at hl 1 rfl) ?_
    refine lv_aload_n hx hb dX10_turn_3 rfl (lv_at hl 0 rfl) ?_
    refine gM_mo_wide hx hb hts hin hown hK hw lk68 dX10_turn_4 ?_
    refine lv_aload_n hx hb dX10_turn_7 rfl (lv_at hl 0 rfl) ?_
    refine gM_mo_tall hx hb hts hin hown hK hw lk71 dX10_turn_8 ?_
    refine lv_imul hx hb dX10_turn_11 ?_
    refine lv_icmp_ge (tgt := 33) hx hb dX10_turn_12 (by decide) (fun hc => ?_) (fun hc => ?_)
    · replace h := h.1 hc
      refine lv_iconst (v := 0) hx hb dX10_turn_33 (by decide) ?_
      refine lv_istore_n (lv' := [(1, .int (0 : Int32)), (0, .ref (ad 0))]) hx hb dX10_turn_34 rfl hl (by decide) rfl (fun ls hl => ?_)
      obtain ⟨n35, h⟩ := h
      exact J35  n35 _ _ _ _ _ _ _ _ h _ _ _ hw (lv_sub hl [1, 0] rfl)
    · replace h := h.2 hc
      refine lv_aload_n hx hb dX10_turn_15 rfl (lv_at hl 0 rfl) ?_
      refine gM_mo_old hx hb hts hin hown hK hw lk61 dX10_turn_16 ?_
      refine lv_iload_n hx hb dX10_turn_19 rfl (lv_at hl 1 rfl) ?_
      refine lv_aload_n hx hb dX10_turn_20 rfl (lv_at hl 0 rfl) ?_
      refine gM_mo_kind hx hb hts hin hown hK hw lk7 dX10_turn_21 ?_
      refine lv_iload_n hx hb dX10_turn_24 rfl (lv_at hl 1 rfl) ?_
      refine aM_mo_kind hx hb hK hw h.1 dX10_turn_25 ?_
      replace h := h.2
      refine tM_mo_old hx hb hK hw h.1 dX10_turn_26 (fun H locs hw => ?_)
      replace h := h.2
      refine lv_iinc (v := (x1 + (1 : Int32))) (lv' := [(1, .int (x1 + (1 : Int32))), (0, .ref (ad 0))]) hx hb dX10_turn_27 hl (k := 1) rfl rfl (by decide) rfl (fun ls hl => ?_)
      refine lv_goto (tgt := 2) hx hb dX10_turn_30 (by decide) ?_
      exact ih _ _ _ _ _ _ _ _ h _ _ _ hw (lv_sub hl [1, 0] rfl)
  unfold P_mo_turn at h
  have he : entryFrame m args 2 = entryFrame m ([.ref (ad 0)] : List Value).toArray 2 := by rw [hav]
  refine W.eq he ?_
  have hl := lv_entry ([.ref (ad 0)]) (n := 2) (Nat.le_of_ble_eq_true rfl)
  rw [lg_entry_eq]
  generalize (lg_sl ([.ref (ad 0)]) ++ List.replicate (2 - (lg_sl ([.ref (ad 0)])).length) Slot.unset).toArray = ls at hl ⊢
  have hl : lv_has ls 2 [(0, .ref (ad 0))] := hl
  refine lv_iconst (v := 0) hx hb dX10_turn_0 (by decide) ?_
  refine lv_istore_n (lv' := [(1, .int (0 : Int32)), (0, .ref (ad 0))]) hx hb dX10_turn_1 rfl hl (by decide) rfl (fun ls hl => ?_)
  obtain ⟨n2, h⟩ := h
  exact J2  n2 _ _ _ _ _ _ _ _ h _ _ _ hw (lv_sub hl [1, 0] rfl)
def rm_mo_mirrored : Room := { frames := 0, cells := 0, slots := 0, locals := 0 }
set_option maxHeartbeats 4000000 in
set_option maxRecDepth 100000 in
theorem c_mo_mirrored {l : Launch} {D : va_G} {cI cL cZ : ClassId} {mx my : Nat} {A : Nat → Prop} {ad : Nat → Nat} {mo_wide mo_tall mo_law mo_range mo_pictures mo_postMany : Int32} {mo_kind mo_queue mo_far mo_pictureCell mo_facing mo_sights mo_fewest mo_posts mo_left mo_roundMany mo_round mo_shift mo_thief mo_danger mo_old : Nat → Int32} (x1 : Int32) {Q : Int32 → Prop} (h : P_mo_mirrored mo_wide x1 Q) : Met l yX10_mirrored wsX10_mirrored rm_mo_mirrored (va_Pc [.ref (ad 0), .int x1] (WC D cI cL cZ mx my A (wdM cI cL cZ ad mo_wide mo_tall mo_kind mo_law mo_range mo_queue mo_far mo_pictures mo_pictureCell mo_facing mo_sights mo_fewest mo_posts mo_postMany mo_left mo_roundMany mo_round mo_shift mo_thief mo_danger mo_old))) (va_Qi (fun (r : Int32) (u : Unit) => Q r) (fun (u : Unit) t => PW D A (wdM cI cL cZ ad mo_wide mo_tall mo_kind mo_law mo_range mo_queue mo_far mo_pictures mo_pictureCell mo_facing mo_sights mo_fewest mo_posts mo_postMany mo_left mo_roundMany mo_round mo_shift mo_thief mo_danger mo_old) t.heap) A) 0 0 A := by
  refine Met.ofW (cc := cX10_mirrored) (maxL := 2) (ret := (some .int)) (by decide) rfl ?_
  intro p e s m args below meth c s₁ B hml hv
  obtain ⟨hav, hP0, hD0, hK⟩ := hv
  have hx := B.exec
  have hb := B.bytes
  have hr := B.returns
  have hts := atoms_spec (ws := wsX10_mirrored) B.pre
  have hown : s.vm.findClass RX10 = some m.cls := findClass_of_methodNamed B.named
  have hlocks := B.notSynchronized
  have hB : ∀ w ∈ BIG, w ∈ wsX10_mirrored := fun _ h => List.mem_cons_of_mem _ h
  have hin : ∀ w ∈ wsX100, w ∈ wsX10_mirrored := fun w h => hB w (inB_X10 w h)
  have lk68 := hts _ (hB _ m_931)
  obtain ⟨Z, hZ⟩ : ∃ Z : State → Prop, Z = MQ below (va_Qi (fun (r : Int32) (u : Unit) => Q r) (fun (u : Unit) t => PW D A (wdM cI cL cZ ad mo_wide mo_tall mo_kind mo_law mo_range mo_queue mo_far mo_pictures mo_pictureCell mo_facing mo_sights mo_fewest mo_posts mo_postMany mo_left mo_roundMany mo_round mo_shift mo_thief mo_danger mo_old) t.heap) A) args s 0 0 A := ⟨_, rfl⟩
  rw [← hZ]
  have hw : SW D A s.heap (wdM cI cL cZ ad mo_wide mo_tall mo_kind mo_law mo_range mo_queue mo_far mo_pictures mo_pictureCell mo_facing mo_sights mo_fewest mo_posts mo_postMany mo_left mo_roundMany mo_round mo_shift mo_thief mo_danger mo_old) s.heap [] := ⟨hP0, hD0, va_S.rf⟩
  clear hP0 hD0 B
  unfold P_mo_mirrored at h
  have he : entryFrame m args 2 = entryFrame m ([.ref (ad 0), .int x1] : List Value).toArray 2 := by rw [hav]
  refine W.eq he ?_
  have hl := lv_entry ([.ref (ad 0), .int x1]) (n := 2) (Nat.le_of_ble_eq_true rfl)
  rw [lg_entry_eq]
  generalize (lg_sl ([.ref (ad 0), .int x1]) ++ List.replicate (2 - (lg_sl ([.ref (ad 0), .int x1])).length) Slot.unset).toArray = ls at hl ⊢
  have hl : lv_has ls 2 [(0, .ref (ad 0)), (1, .int x1)] := hl
  refine lv_iload_n hx hb dX10_mirrored_0 rfl (lv_at hl 1 rfl) ?_
  refine lv_aload_n hx hb dX10_mirrored_1 rfl (lv_at hl 0 rfl) ?_
  refine gM_mo_wide hx hb hts hin hown hK hw lk68 dX10_mirrored_2 ?_
  refine lv_idiv hx hb dX10_mirrored_5 h.1 ?_
  replace h := h.2
  refine lv_aload_n hx hb dX10_mirrored_6 rfl (lv_at hl 0 rfl) ?_
  refine gM_mo_wide hx hb hts hin hown hK hw lk68 dX10_mirrored_7 ?_
  refine lv_imul hx hb dX10_mirrored_10 ?_
  refine lv_aload_n hx hb dX10_mirrored_11 rfl (lv_at hl 0 rfl) ?_
  refine gM_mo_wide hx hb hts hin hown hK hw lk68 dX10_mirrored_12 ?_
  refine lv_iadd hx hb dX10_mirrored_15 ?_
  refine lv_iconst (v := 1) hx hb dX10_mirrored_16 (by decide) ?_
  refine lv_isub hx hb dX10_mirrored_17 ?_
  refine lv_iload_n hx hb dX10_mirrored_18 rfl (lv_at hl 1 rfl) ?_
  refine lv_aload_n hx hb dX10_mirrored_19 rfl (lv_at hl 0 rfl) ?_
  refine gM_mo_wide hx hb hts hin hown hK hw lk68 dX10_mirrored_20 ?_
  refine lv_irem hx hb dX10_mirrored_23 h.1 ?_
  replace h := h.2
  refine lv_isub hx hb dX10_mirrored_24 ?_
  rw [hZ]
  exact rt_i () hx hb hr hlocks hw h dX10_mirrored_25
def rm_mo_mirror : Room := { frames := 1, cells := 0, slots := 0, locals := 21 }
set_option maxHeartbeats 4000000 in
set_option maxRecDepth 100000 in
theorem c_mo_mirror {l : Launch} {D : va_G} {cI cL cZ : ClassId} {mx my : Nat} {A : Nat → Prop} {ad : Nat → Nat} {mo_wide mo_tall mo_law mo_range mo_pictures mo_postMany : Int32} {mo_kind mo_queue mo_far mo_pictureCell mo_facing mo_sights mo_fewest mo_posts mo_left mo_roundMany mo_round mo_shift mo_thief mo_danger mo_old : Nat → Int32}  {Q : Int32 → (Nat → Int32) → (Nat → Int32) → (Nat → Int32) → (Nat → Int32) → (Nat → Int32) → Prop} (h : P_mo_mirror mo_wide mo_tall mo_kind mo_pictures mo_pictureCell mo_facing mo_roundMany mo_round mo_old Q) : Met l yX10_mirror wsX10_mirror rm_mo_mirror (va_Pc [.ref (ad 0)] (WC D cI cL cZ mx my A (wdM cI cL cZ ad mo_wide mo_tall mo_kind mo_law mo_range mo_queue mo_far mo_pictures mo_pictureCell mo_facing mo_sights mo_fewest mo_posts mo_postMany mo_left mo_roundMany mo_round mo_shift mo_thief mo_danger mo_old))) (va_Qi (fun (r : Int32) (u : (Nat → Int32) × (Nat → Int32) × (Nat → Int32) × (Nat → Int32) × (Nat → Int32)) => Q r u.1 u.2.1 u.2.2.1 u.2.2.2.1 u.2.2.2.2) (fun (u : (Nat → Int32) × (Nat → Int32) × (Nat → Int32) × (Nat → Int32) × (Nat → Int32)) t => PW D A (wdM cI cL cZ ad mo_wide mo_tall u.1 mo_law mo_range mo_queue mo_far mo_pictures u.2.1 u.2.2.1 mo_sights mo_fewest mo_posts mo_postMany mo_left mo_roundMany u.2.2.2.1 mo_shift mo_thief mo_danger u.2.2.2.2) t.heap) A) 0 0 A := by
  refine Met.ofW (cc := cX10_mirror) (maxL := 3) (ret := (some .int)) (by decide) rfl ?_
  intro p e s m args below meth c s₁ B hml hv
  obtain ⟨hav, hP0, hD0, hK⟩ := hv
  have hx := B.exec
  have hb := B.bytes
  have hr := B.returns
  have hts := atoms_spec (ws := wsX10_mirror) B.pre
  have hown : s.vm.findClass RX10 = some m.cls := findClass_of_methodNamed B.named
  have hlocks := B.notSynchronized
  have hB : ∀ w ∈ BIG, w ∈ wsX10_mirror := fun _ h => List.mem_cons_of_mem _ h
  have hin : ∀ w ∈ wsX100, w ∈ wsX10_mirror := fun w h => hB w (inB_X10 w h)
  have lk7 := hts _ (hB _ m_933)
  have lk27 := hts _ (hB _ m_939)
  have lk30 := hts _ (hB _ m_940)
  have lk45 := hts _ (hB _ m_946)
  have lk48 := hts _ (hB _ m_947)
  have lk61 := hts _ (hB _ m_951)
  have lk68 := hts _ (hB _ m_931)
  have lk71 := hts _ (hB _ m_932)
  have lk74 := hts _ (hB _ m_938)
  obtain ⟨Z, hZ⟩ : ∃ Z : State → Prop, Z = MQ below (va_Qi (fun (r : Int32) (u : (Nat → Int32) × (Nat → Int32) × (Nat → Int32) × (Nat → Int32) × (Nat → Int32)) => Q r u.1 u.2.1 u.2.2.1 u.2.2.2.1 u.2.2.2.2) (fun (u : (Nat → Int32) × (Nat → Int32) × (Nat → Int32) × (Nat → Int32) × (Nat → Int32)) t => PW D A (wdM cI cL cZ ad mo_wide mo_tall u.1 mo_law mo_range mo_queue mo_far mo_pictures u.2.1 u.2.2.1 mo_sights mo_fewest mo_posts mo_postMany mo_left mo_roundMany u.2.2.2.1 mo_shift mo_thief mo_danger u.2.2.2.2) t.heap) A) args s 0 0 A := ⟨_, rfl⟩
  rw [← hZ]
  have hw : SW D A s.heap (wdM cI cL cZ ad mo_wide mo_tall mo_kind mo_law mo_range mo_queue mo_far mo_pictures mo_pictureCell mo_facing mo_sights mo_fewest mo_posts mo_postMany mo_left mo_roundMany mo_round mo_shift mo_thief mo_danger mo_old) s.heap [] := ⟨hP0, hD0, va_S.rf⟩
  clear hP0 hD0 B
  have J168 : ∀ (n : Nat) (mo_kind : (Nat → Int32)) (mo_pictureCell : (Nat → Int32)) (mo_facing : (Nat → Int32)) (mo_round : (Nat → Int32)) (mo_old : (Nat → Int32)) (x1 : Int32) (x2 : Int32) , L_mo_mirror_168 mo_wide mo_roundMany Q n mo_kind mo_pictureCell mo_facing mo_round mo_old x1 x2 → ∀ (H : Heap) (locs : List Loc) (ls : Array Slot), SW D A s.heap (wdM cI cL cZ ad mo_wide mo_tall mo_kind mo_law mo_range mo_queue mo_far mo_pictures mo_pictureCell mo_facing mo_sights mo_fewest mo_posts mo_postMany mo_left mo_roundMany mo_round mo_shift mo_thief mo_danger mo_old) H locs → lv_has ls 3 [(0, .ref (ad 0)), (1, .int x1), (2, .int x2)] → W p l e (headSpec wsX10_mirror rm_mo_mirror).room s m args below meth c H locs 0 0 Z (F0 m 168 ls []) := by
    intro  n
    induction n with
    | zero => intro mo_kind mo_pictureCell mo_facing mo_round mo_old x1 x2 h; exact h.elim
    | succ n ih =>
    intro mo_kind mo_pictureCell mo_facing mo_round mo_old x1 x2 h H locs ls hw hl
    unfold L_mo_mirror_168 at h
    refine lv_iload_n hx hb dX10_mirror_168 rfl (lv_at hl 2 rfl) ?_
    refine lv_bipush (v := 24) hx hb dX10_mirror_169 (by decide) ?_
    refine lv_icmp_ge (tgt := 216) hx hb dX10_mirror_171 (by decide) (fun hc => ?_) (fun hc => ?_)
    · replace h := h.1 hc
      refine lv_iload_n hx hb dX10_mirror_216 rfl (lv_at hl 1 rfl) ?_
      rw [hZ]
      exact rt_i (mo_kind, mo_pictureCell, mo_facing, mo_round, mo_old) hx hb hr hlocks hw h dX10_mirror_217
    · replace h := h.2 hc
      refine lv_aload_n hx hb dX10_mirror_174 rfl (lv_at hl 0 rfl) ?_
      refine gM_mo_round hx hb hts hin hown hK hw lk48 dX10_mirror_175 ?_
      refine lv_iload_n hx hb dX10_mirror_178 rfl (lv_at hl 2 rfl) ?_
      refine lv_iload_n hx hb dX10_mirror_179 rfl (lv_at hl 2 rfl) ?_
      refine lv_bipush (v := 6) hx hb dX10_mirror_180 (by decide) ?_
      refine lv_irem hx hb dX10_mirror_182 h.1 ?_
      replace h := h.2
      refine lv_aload_n hx hb dX10_mirror_183 rfl (lv_at hl 0 rfl) ?_
      refine gM_mo_roundMany hx hb hts hin hown hK hw lk45 dX10_mirror_184 ?_
      refine lv_iload_n hx hb dX10_mirror_187 rfl (lv_at hl 2 rfl) ?_
      refine lv_bipush (v := 6) hx hb dX10_mirror_188 (by decide) ?_
      refine lv_idiv hx hb dX10_mirror_190 h.1 ?_
      replace h := h.2
      refine aM_mo_roundMany hx hb hK hw h.1 dX10_mirror_191 ?_
      replace h := h.2
      refine lv_icmp_ge (tgt := 208) hx hb dX10_mirror_192 (by decide) (fun hc => ?_) (fun hc => ?_)
      · replace h := h.1 hc
        refine lv_iconst (v := 0) hx hb dX10_mirror_208 (by decide) ?_
        refine tM_mo_round hx hb hK hw h.1 dX10_mirror_209 (fun H locs hw => ?_)
        replace h := h.2
        refine lv_iinc (v := (x2 + (1 : Int32))) (lv' := [(2, .int (x2 + (1 : Int32))), (0, .ref (ad 0)), (1, .int x1)]) hx hb dX10_mirror_210 hl (k := 2) rfl rfl (by decide) rfl (fun ls hl => ?_)
        refine lv_goto (tgt := 168) hx hb dX10_mirror_213 (by decide) ?_
        exact ih _ _ _ _ _ _ _ h _ _ _ hw (lv_sub hl [1, 2, 0] rfl)
      · replace h := h.2 hc
        refine lv_aload_n hx hb dX10_mirror_195 rfl (lv_at hl 0 rfl) ?_
        refine lv_aload_n hx hb dX10_mirror_196 rfl (lv_at hl 0 rfl) ?_
        refine gM_mo_round hx hb hts hin hown hK hw lk48 dX10_mirror_197 ?_
        refine lv_iload_n hx hb dX10_mirror_200 rfl (lv_at hl 2 rfl) ?_
        refine aM_mo_round hx hb hK hw h.1 dX10_mirror_201 ?_
        replace h := h.2
        refine cV_i (b := (ad 0)) (As := [.int (mo_round x2.toNatClampNeg)]) (rest := [.int x2, .ref (ad 11)]) ⟨hx, hb, hml, hown, hts⟩ hK hw (c_mo_mirrored (mo_round x2.toNatClampNeg) h) (cwV 1 hts (gd_RX10_215 hB) rfl rfl rfl (by decide +kernel) ⟨Nat.le_of_ble_eq_true rfl, Nat.le_of_ble_eq_true rfl⟩) (rM_mo hK hw) hl.1 ⟨Nat.zero_le _, Nat.zero_le _⟩ rfl rfl (Nat.le_of_ble_eq_true rfl) dX10_mirror_202 (fun r202 _ H locs h hw => ?_)
        refine lv_goto (tgt := 209) hx hb dX10_mirror_205 (by decide) ?_
        refine tM_mo_round hx hb hK hw h.1 dX10_mirror_209 (fun H locs hw => ?_)
        replace h := h.2
        refine lv_iinc (v := (x2 + (1 : Int32))) (lv' := [(2, .int (x2 + (1 : Int32))), (0, .ref (ad 0)), (1, .int x1)]) hx hb dX10_mirror_210 hl (k := 2) rfl rfl (by decide) rfl (fun ls hl => ?_)
        refine lv_goto (tgt := 168) hx hb dX10_mirror_213 (by decide) ?_
        exact ih _ _ _ _ _ _ _ h _ _ _ hw (lv_sub hl [1, 2, 0] rfl)
  have J97 : ∀ (n : Nat) (mo_kind : (Nat → Int32)) (mo_pictureCell : (Nat → Int32)) (mo_facing : (Nat → Int32)) (mo_round : (Nat → Int32)) (mo_old : (Nat → Int32)) (x1 : Int32) (x2 : Int32) , L_mo_mirror_97 mo_wide mo_pictures mo_roundMany Q n mo_kind mo_pictureCell mo_facing mo_round mo_old x1 x2 → ∀ (H : Heap) (locs : List Loc) (ls : Array Slot), SW D A s.heap (wdM cI cL cZ ad mo_wide mo_tall mo_kind mo_law mo_range mo_queue mo_far mo_pictures mo_pictureCell mo_facing mo_sights mo_fewest mo_posts mo_postMany mo_left mo_roundMany mo_round mo_shift mo_thief mo_danger mo_old) H locs → lv_has ls 3 [(0, .ref (ad 0)), (1, .int x1), (2, .int x2)] → W p l e (headSpec wsX10_mirror rm_mo_mirror).room s m args below meth c H locs 0 0 Z (F0 m 97 ls []) := by
    intro  n
    induction n with
    | zero => intro mo_kind mo_pictureCell mo_facing mo_round mo_old x1 x2 h; exact h.elim
    | succ n ih =>
    intro mo_kind mo_pictureCell mo_facing mo_round mo_old x1 x2 h H locs ls hw hl
    unfold L_mo_mirror_97 at h
    refine lv_iload_n hx hb dX10_mirror_97 rfl (lv_at hl 2 rfl) ?_
    refine lv_aload_n hx hb dX10_mirror_98 rfl (lv_at hl 0 rfl) ?_
    refine gM_mo_pictures hx hb hts hin hown hK hw lk74 dX10_mirror_99 ?_
    refine lv_icmp_ge (tgt := 166) hx hb dX10_mirror_102 (by decide) (fun hc => ?_) (fun hc => ?_)
    · replace h := h.1 hc
      refine lv_iconst (v := 0) hx hb dX10_mirror_166 (by decide) ?_
      refine lv_istore_n (lv' := [(2, .int (0 : Int32)), (0, .ref (ad 0)), (1, .int x1)]) hx hb dX10_mirror_167 rfl hl (by decide) rfl (fun ls hl => ?_)
      obtain ⟨n168, h⟩ := h
      exact J168  n168 _ _ _ _ _ _ _ h _ _ _ hw (lv_sub hl [1, 2, 0] rfl)
    · replace h := h.2 hc
      refine lv_aload_n hx hb dX10_mirror_105 rfl (lv_at hl 0 rfl) ?_
      refine gM_mo_pictureCell hx hb hts hin hown hK hw lk27 dX10_mirror_106 ?_
      refine lv_iload_n hx hb dX10_mirror_109 rfl (lv_at hl 2 rfl) ?_
      refine lv_aload_n hx hb dX10_mirror_110 rfl (lv_at hl 0 rfl) ?_
      refine lv_aload_n hx hb dX10_mirror_111 rfl (lv_at hl 0 rfl) ?_
      refine gM_mo_pictureCell hx hb hts hin hown hK hw lk27 dX10_mirror_112 ?_
      refine lv_iload_n hx hb dX10_mirror_115 rfl (lv_at hl 2 rfl) ?_
      refine aM_mo_pictureCell hx hb hK hw h.1 dX10_mirror_116 ?_
      replace h := h.2
      refine cV_i (b := (ad 0)) (As := [.int (mo_pictureCell x2.toNatClampNeg)]) (rest := [.int x2, .ref (ad 4)]) ⟨hx, hb, hml, hown, hts⟩ hK hw (c_mo_mirrored (mo_pictureCell x2.toNatClampNeg) h) (cwV 1 hts (gd_RX10_215 hB) rfl rfl rfl (by decide +kernel) ⟨Nat.le_of_ble_eq_true rfl, Nat.le_of_ble_eq_true rfl⟩) (rM_mo hK hw) hl.1 ⟨Nat.zero_le _, Nat.zero_le _⟩ rfl rfl (Nat.le_of_ble_eq_true rfl) dX10_mirror_117 (fun r117 _ H locs h hw => ?_)
      refine tM_mo_pictureCell hx hb hK hw h.1 dX10_mirror_120 (fun H locs hw => ?_)
      replace h := h.2
      refine lv_aload_n hx hb dX10_mirror_121 rfl (lv_at hl 0 rfl) ?_
      refine gM_mo_facing hx hb hts hin hown hK hw lk30 dX10_mirror_122 ?_
      refine lv_iload_n hx hb dX10_mirror_125 rfl (lv_at hl 2 rfl) ?_
      refine lv_aload_n hx hb dX10_mirror_126 rfl (lv_at hl 0 rfl) ?_
      refine gM_mo_facing hx hb hts hin hown hK hw lk30 dX10_mirror_127 ?_
      refine lv_iload_n hx hb dX10_mirror_130 rfl (lv_at hl 2 rfl) ?_
      refine aM_mo_facing hx hb hK hw h.1 dX10_mirror_131 ?_
      replace h := h.2
      refine lv_if_ne (tgt := 139) hx hb dX10_mirror_132 (by decide) (fun hc => ?_) (fun hc => ?_)
      · replace h := h.2 hc
        refine lv_aload_n hx hb dX10_mirror_139 rfl (lv_at hl 0 rfl) ?_
        refine gM_mo_facing hx hb hts hin hown hK hw lk30 dX10_mirror_140 ?_
        refine lv_iload_n hx hb dX10_mirror_143 rfl (lv_at hl 2 rfl) ?_
        refine aM_mo_facing hx hb hK hw h.1 dX10_mirror_144 ?_
        replace h := h.2
        refine lv_iconst (v := 2) hx hb dX10_mirror_145 (by decide) ?_
        refine lv_icmp_ne (tgt := 153) hx hb dX10_mirror_146 (by decide) (fun hc => ?_) (fun hc => ?_)
        · replace h := h.2 hc
          refine lv_aload_n hx hb dX10_mirror_153 rfl (lv_at hl 0 rfl) ?_
          refine gM_mo_facing hx hb hts hin hown hK hw lk30 dX10_mirror_154 ?_
          refine lv_iload_n hx hb dX10_mirror_157 rfl (lv_at hl 2 rfl) ?_
          refine aM_mo_facing hx hb hK hw h.1 dX10_mirror_158 ?_
          replace h := h.2
          refine tM_mo_facing hx hb hK hw h.1 dX10_mirror_159 (fun H locs hw => ?_)
          replace h := h.2
          refine lv_iinc (v := (x2 + (1 : Int32))) (lv' := [(2, .int (x2 + (1 : Int32))), (0, .ref (ad 0)), (1, .int x1)]) hx hb dX10_mirror_160 hl (k := 2) rfl rfl (by decide) rfl (fun ls hl => ?_)
          refine lv_goto (tgt := 97) hx hb dX10_mirror_163 (by decide) ?_
          exact ih _ _ _ _ _ _ _ h _ _ _ hw (lv_sub hl [1, 2, 0] rfl)
        · replace h := h.1 hc
          refine lv_iconst (v := 0) hx hb dX10_mirror_149 (by decide) ?_
          refine lv_goto (tgt := 159) hx hb dX10_mirror_150 (by decide) ?_
          refine tM_mo_facing hx hb hK hw h.1 dX10_mirror_159 (fun H locs hw => ?_)
          replace h := h.2
          refine lv_iinc (v := (x2 + (1 : Int32))) (lv' := [(2, .int (x2 + (1 : Int32))), (0, .ref (ad 0)), (1, .int x1)]) hx hb dX10_mirror_160 hl (k := 2) rfl rfl (by decide) rfl (fun ls hl => ?_)
          refine lv_goto (tgt := 97) hx hb dX10_mirror_163 (by decide) ?_
          exact ih _ _ _ _ _ _ _ h _ _ _ hw (lv_sub hl [1, 2, 0] rfl)
      · replace h := h.1 hc
        refine lv_iconst (v := 2) hx hb dX10_mirror_135 (by decide) ?_
        refine lv_goto (tgt := 159) hx hb dX10_mirror_136 (by decide) ?_
        refine tM_mo_facing hx hb hK hw h.1 dX10_mirror_159 (fun H locs hw => ?_)
        replace h := h.2
        refine lv_iinc (v := (x2 + (1 : Int32))) (lv' := [(2, .int (x2 + (1 : Int32))), (0, .ref (ad 0)), (1, .int x1)]) hx hb dX10_mirror_160 hl (k := 2) rfl rfl (by decide) rfl (fun ls hl => ?_)
        refine lv_goto (tgt := 97) hx hb dX10_mirror_163 (by decide) ?_
        exact ih _ _ _ _ _ _ _ h _ _ _ hw (lv_sub hl [1, 2, 0] rfl)
  have J37 : ∀ (n : Nat) (mo_kind : (Nat → Int32)) (mo_pictureCell : (Nat → Int32)) (mo_facing : (Nat → Int32)) (mo_round : (Nat → Int32)) (mo_old : (Nat → Int32)) (x1 : Int32) (x2 : Int32) , L_mo_mirror_37 mo_wide mo_tall mo_pictures mo_roundMany Q n mo_kind mo_pictureCell mo_facing mo_round mo_old x1 x2 → ∀ (H : Heap) (locs : List Loc) (ls : Array Slot), SW D A s.heap (wdM cI cL cZ ad mo_wide mo_tall mo_kind mo_law mo_range mo_queue mo_far mo_pictures mo_pictureCell mo_facing mo_sights mo_fewest mo_posts mo_postMany mo_left mo_roundMany mo_round mo_shift mo_thief mo_danger mo_old) H locs → lv_has ls 3 [(0, .ref (ad 0)), (1, .int x1), (2, .int x2)] → W p l e (headSpec wsX10_mirror rm_mo_mirror).room s m args below meth c H locs 0 0 Z (F0 m 37 ls []) := by
    intro  n
    induction n with
    | zero => intro mo_kind mo_pictureCell mo_facing mo_round mo_old x1 x2 h; exact h.elim
    | succ n ih =>
    intro mo_kind mo_pictureCell mo_facing mo_round mo_old x1 x2 h H locs ls hw hl
    unfold L_mo_mirror_37 at h
    refine lv_iload_n hx hb dX10_mirror_37 rfl (lv_at hl 2 rfl) ?_
    refine lv_aload_n hx hb dX10_mirror_38 rfl (lv_at hl 0 rfl) ?_
    refine gM_mo_wide hx hb hts hin hown hK hw lk68 dX10_mirror_39 ?_
    refine lv_aload_n hx hb dX10_mirror_42 rfl (lv_at hl 0 rfl) ?_
    refine gM_mo_tall hx hb hts hin hown hK hw lk71 dX10_mirror_43 ?_
    refine lv_imul hx hb dX10_mirror_46 ?_
    refine lv_icmp_ge (tgt := 95) hx hb dX10_mirror_47 (by decide) (fun hc => ?_) (fun hc => ?_)
    · replace h := h.1 hc
      refine lv_iconst (v := 0) hx hb dX10_mirror_95 (by decide) ?_
      refine lv_istore_n (lv' := [(2, .int (0 : Int32)), (0, .ref (ad 0)), (1, .int x1)]) hx hb dX10_mirror_96 rfl hl (by decide) rfl (fun ls hl => ?_)
      obtain ⟨n97, h⟩ := h
      exact J97  n97 _ _ _ _ _ _ _ h _ _ _ hw (lv_sub hl [1, 2, 0] rfl)
    · replace h := h.2 hc
      refine lv_aload_n hx hb dX10_mirror_50 rfl (lv_at hl 0 rfl) ?_
      refine gM_mo_kind hx hb hts hin hown hK hw lk7 dX10_mirror_51 ?_
      refine lv_iload_n hx hb dX10_mirror_54 rfl (lv_at hl 2 rfl) ?_
      refine lv_aload_n hx hb dX10_mirror_55 rfl (lv_at hl 0 rfl) ?_
      refine gM_mo_old hx hb hts hin hown hK hw lk61 dX10_mirror_56 ?_
      refine lv_aload_n hx hb dX10_mirror_59 rfl (lv_at hl 0 rfl) ?_
      refine lv_iload_n hx hb dX10_mirror_60 rfl (lv_at hl 2 rfl) ?_
      refine cV_i (b := (ad 0)) (As := [.int x2]) (rest := [.ref (ad 15), .int x2, .ref (ad 1)]) ⟨hx, hb, hml, hown, hts⟩ hK hw (c_mo_mirrored x2 h) (cwV 1 hts (gd_RX10_215 hB) rfl rfl rfl (by decide +kernel) ⟨Nat.le_of_ble_eq_true rfl, Nat.le_of_ble_eq_true rfl⟩) (rM_mo hK hw) hl.1 ⟨Nat.zero_le _, Nat.zero_le _⟩ rfl rfl (Nat.le_of_ble_eq_true rfl) dX10_mirror_61 (fun r61 _ H locs h hw => ?_)
      refine aM_mo_old hx hb hK hw h.1 dX10_mirror_64 ?_
      replace h := h.2
      refine tM_mo_kind hx hb hK hw h.1 dX10_mirror_65 (fun H locs hw => ?_)
      replace h := h.2
      refine lv_iload_n hx hb dX10_mirror_66 rfl (lv_at hl 1 rfl) ?_
      refine lv_aload_n hx hb dX10_mirror_67 rfl (lv_at hl 0 rfl) ?_
      refine gM_mo_kind hx hb hts hin hown hK hw lk7 dX10_mirror_68 ?_
      refine lv_iload_n hx hb dX10_mirror_71 rfl (lv_at hl 2 rfl) ?_
      refine aM_mo_kind hx hb hK hw h.1 dX10_mirror_72 ?_
      replace h := h.2
      refine lv_aload_n hx hb dX10_mirror_73 rfl (lv_at hl 0 rfl) ?_
      refine gM_mo_old hx hb hts hin hown hK hw lk61 dX10_mirror_74 ?_
      refine lv_iload_n hx hb dX10_mirror_77 rfl (lv_at hl 2 rfl) ?_
      refine aM_mo_old hx hb hK hw h.1 dX10_mirror_78 ?_
      replace h := h.2
      refine lv_icmp_eq (tgt := 86) hx hb dX10_mirror_79 (by decide) (fun hc => ?_) (fun hc => ?_)
      · replace h := h.1 hc
        refine lv_iconst (v := 0) hx hb dX10_mirror_86 (by decide) ?_
        refine lv_iadd hx hb dX10_mirror_87 ?_
        refine lv_istore_n (lv' := [(1, .int (x1 + (0 : Int32))), (0, .ref (ad 0)), (2, .int x2)]) hx hb dX10_mirror_88 rfl hl (by decide) rfl (fun ls hl => ?_)
        refine lv_iinc (v := (x2 + (1 : Int32))) (lv' := [(2, .int (x2 + (1 : Int32))), (1, .int (x1 + (0 : Int32))), (0, .ref (ad 0))]) hx hb dX10_mirror_89 hl (k := 2) rfl rfl (by decide) rfl (fun ls hl => ?_)
        refine lv_goto (tgt := 37) hx hb dX10_mirror_92 (by decide) ?_
        exact ih _ _ _ _ _ _ _ h _ _ _ hw (lv_sub hl [2, 1, 0] rfl)
      · replace h := h.2 hc
        refine lv_iconst (v := 1) hx hb dX10_mirror_82 (by decide) ?_
        refine lv_goto (tgt := 87) hx hb dX10_mirror_83 (by decide) ?_
        refine lv_iadd hx hb dX10_mirror_87 ?_
        refine lv_istore_n (lv' := [(1, .int (x1 + (1 : Int32))), (0, .ref (ad 0)), (2, .int x2)]) hx hb dX10_mirror_88 rfl hl (by decide) rfl (fun ls hl => ?_)
        refine lv_iinc (v := (x2 + (1 : Int32))) (lv' := [(2, .int (x2 + (1 : Int32))), (1, .int (x1 + (1 : Int32))), (0, .ref (ad 0))]) hx hb dX10_mirror_89 hl (k := 2) rfl rfl (by decide) rfl (fun ls hl => ?_)
        refine lv_goto (tgt := 37) hx hb dX10_mirror_92 (by decide) ?_
        exact ih _ _ _ _ _ _ _ h _ _ _ hw (lv_sub hl [2, 1, 0] rfl)
  have J4 : ∀ (n : Nat) (mo_kind : (Nat → Int32)) (mo_pictureCell : (Nat → Int32)) (mo_facing : (Nat → Int32)) (mo_round : (Nat → Int32)) (mo_old : (Nat → Int32)) (x1 : Int32) (x2 : Int32) , L_mo_mirror_4 mo_wide mo_tall mo_pictures mo_roundMany Q n mo_kind mo_pictureCell mo_facing mo_round mo_old x1 x2 → ∀ (H : Heap) (locs : List Loc) (ls : Array Slot), SW D A s.heap (wdM cI cL cZ ad mo_wide mo_tall mo_kind mo_law mo_range mo_queue mo_far mo_pictures mo_pictureCell mo_facing mo_sights mo_fewest mo_posts mo_postMany mo_left mo_roundMany mo_round mo_shift mo_thief mo_danger mo_old) H locs → lv_has ls 3 [(0, .ref (ad 0)), (1, .int x1), (2, .int x2)] → W p l e (headSpec wsX10_mirror rm_mo_mirror).room s m args below meth c H locs 0 0 Z (F0 m 4 ls []) := by
    intro  n
    induction n with
    | zero => intro mo_kind mo_pictureCell mo_facing mo_round mo_old x1 x2 h; exact h.elim
    | succ n ih =>
    intro mo_kind mo_pictureCell mo_facing mo_round mo_old x1 x2 h H locs ls hw hl
    unfold L_mo_mirror_4 at h
    refine lv_iload_n hx hb dX10_mirror_4 rfl (lv_at hl 2 rfl) ?_
    refine lv_aload_n hx hb dX10_mirror_5 rfl (lv_at hl 0 rfl) ?_
    refine gM_mo_wide hx hb hts hin hown hK hw lk68 dX10_mirror_6 ?_
    refine lv_aload_n hx hb dX10_mirror_9 rfl (lv_at hl 0 rfl) ?_
    refine gM_mo_tall hx hb hts hin hown hK hw lk71 dX10_mirror_10 ?_
    refine lv_imul hx hb dX10_mirror_13 ?_
    refine lv_icmp_ge (tgt := 35) hx hb dX10_mirror_14 (by decide) (fun hc => ?_) (fun hc => ?_)
    · replace h := h.1 hc
      refine lv_iconst (v := 0) hx hb dX10_mirror_35 (by decide) ?_
      refine lv_istore_n (lv' := [(2, .int (0 : Int32)), (0, .ref (ad 0)), (1, .int x1)]) hx hb dX10_mirror_36 rfl hl (by decide) rfl (fun ls hl => ?_)
      obtain ⟨n37, h⟩ := h
      exact J37  n37 _ _ _ _ _ _ _ h _ _ _ hw (lv_sub hl [1, 2, 0] rfl)
    · replace h := h.2 hc
      refine lv_aload_n hx hb dX10_mirror_17 rfl (lv_at hl 0 rfl) ?_
      refine gM_mo_old hx hb hts hin hown hK hw lk61 dX10_mirror_18 ?_
      refine lv_iload_n hx hb dX10_mirror_21 rfl (lv_at hl 2 rfl) ?_
      refine lv_aload_n hx hb dX10_mirror_22 rfl (lv_at hl 0 rfl) ?_
      refine gM_mo_kind hx hb hts hin hown hK hw lk7 dX10_mirror_23 ?_
      refine lv_iload_n hx hb dX10_mirror_26 rfl (lv_at hl 2 rfl) ?_
      refine aM_mo_kind hx hb hK hw h.1 dX10_mirror_27 ?_
      replace h := h.2
      refine tM_mo_old hx hb hK hw h.1 dX10_mirror_28 (fun H locs hw => ?_)
      replace h := h.2
      refine lv_iinc (v := (x2 + (1 : Int32))) (lv' := [(2, .int (x2 + (1 : Int32))), (0, .ref (ad 0)), (1, .int x1)]) hx hb dX10_mirror_29 hl (k := 2) rfl rfl (by decide) rfl (fun ls hl => ?_)
      refine lv_goto (tgt := 4) hx hb dX10_mirror_32 (by decide) ?_
      exact ih _ _ _ _ _ _ _ h _ _ _ hw (lv_sub hl [1, 2, 0] rfl)
  unfold P_mo_mirror at h
  have he : entryFrame m args 3 = entryFrame m ([.ref (ad 0)] : List Value).toArray 3 := by rw [hav]
  refine W.eq he ?_
  have hl := lv_entry ([.ref (ad 0)]) (n := 3) (Nat.le_of_ble_eq_true rfl)
  rw [lg_entry_eq]
  generalize (lg_sl ([.ref (ad 0)]) ++ List.replicate (3 - (lg_sl ([.ref (ad 0)])).length) Slot.unset).toArray = ls at hl ⊢
  have hl : lv_has ls 3 [(0, .ref (ad 0))] := hl
  refine lv_iconst (v := 0) hx hb dX10_mirror_0 (by decide) ?_
  refine lv_istore_n (lv' := [(1, .int (0 : Int32)), (0, .ref (ad 0))]) hx hb dX10_mirror_1 rfl hl (by decide) rfl (fun ls hl => ?_)
  refine lv_iconst (v := 0) hx hb dX10_mirror_2 (by decide) ?_
  refine lv_istore_n (lv' := [(2, .int (0 : Int32)), (1, .int (0 : Int32)), (0, .ref (ad 0))]) hx hb dX10_mirror_3 rfl hl (by decide) rfl (fun ls hl => ?_)
  obtain ⟨n4, h⟩ := h
  exact J4  n4 _ _ _ _ _ _ _ h _ _ _ hw (lv_sub hl [2, 1, 0] rfl)
def rm_mo_count : Room := { frames := 1, cells := 0, slots := 0, locals := 21 }
set_option maxHeartbeats 4000000 in
set_option maxRecDepth 100000 in
theorem c_mo_count {l : Launch} {D : va_G} {cI cL cZ : ClassId} {mx my : Nat} {A : Nat → Prop} {ad : Nat → Nat} {mo_wide mo_tall mo_law mo_range mo_pictures mo_postMany : Int32} {mo_kind mo_queue mo_far mo_pictureCell mo_facing mo_sights mo_fewest mo_posts mo_left mo_roundMany mo_round mo_shift mo_thief mo_danger mo_old : Nat → Int32} (x1 : Int32) {Q : Int32 → Prop} (h : P_mo_count mo_wide mo_tall mo_kind mo_pictures mo_roundMany x1 Q) : Met l yX10_count wsX10_count rm_mo_count (va_Pc [.ref (ad 0), .int x1] (WC D cI cL cZ mx my A (wdM cI cL cZ ad mo_wide mo_tall mo_kind mo_law mo_range mo_queue mo_far mo_pictures mo_pictureCell mo_facing mo_sights mo_fewest mo_posts mo_postMany mo_left mo_roundMany mo_round mo_shift mo_thief mo_danger mo_old))) (va_Qi (fun (r : Int32) (u : Unit) => Q r) (fun (u : Unit) t => PW D A (wdM cI cL cZ ad mo_wide mo_tall mo_kind mo_law mo_range mo_queue mo_far mo_pictures mo_pictureCell mo_facing mo_sights mo_fewest mo_posts mo_postMany mo_left mo_roundMany mo_round mo_shift mo_thief mo_danger mo_old) t.heap) A) 0 0 A := by
  refine Met.ofW (cc := cX10_count) (maxL := 5) (ret := (some .int)) (by decide) rfl ?_
  intro p e s m args below meth c s₁ B hml hv
  obtain ⟨hav, hP0, hD0, hK⟩ := hv
  have hx := B.exec
  have hb := B.bytes
  have hr := B.returns
  have hts := atoms_spec (ws := wsX10_count) B.pre
  have hown : s.vm.findClass RX10 = some m.cls := findClass_of_methodNamed B.named
  have hlocks := B.notSynchronized
  have hB : ∀ w ∈ BIG, w ∈ wsX10_count := fun _ h => List.mem_cons_of_mem _ h
  have hin : ∀ w ∈ wsX100, w ∈ wsX10_count := fun w h => hB w (inB_X10 w h)
  have lk45 := hts _ (hB _ m_946)
  have lk68 := hts _ (hB _ m_931)
  have lk71 := hts _ (hB _ m_932)
  have lk74 := hts _ (hB _ m_938)
  obtain ⟨Z, hZ⟩ : ∃ Z : State → Prop, Z = MQ below (va_Qi (fun (r : Int32) (u : Unit) => Q r) (fun (u : Unit) t => PW D A (wdM cI cL cZ ad mo_wide mo_tall mo_kind mo_law mo_range mo_queue mo_far mo_pictures mo_pictureCell mo_facing mo_sights mo_fewest mo_posts mo_postMany mo_left mo_roundMany mo_round mo_shift mo_thief mo_danger mo_old) t.heap) A) args s 0 0 A := ⟨_, rfl⟩
  rw [← hZ]
  have hw : SW D A s.heap (wdM cI cL cZ ad mo_wide mo_tall mo_kind mo_law mo_range mo_queue mo_far mo_pictures mo_pictureCell mo_facing mo_sights mo_fewest mo_posts mo_postMany mo_left mo_roundMany mo_round mo_shift mo_thief mo_danger mo_old) s.heap [] := ⟨hP0, hD0, va_S.rf⟩
  clear hP0 hD0 B
  have J77 : ∀ (_ : True) (x1 : Int32) (x2 : Int32) (x3 : Int32) , B_mo_count_77 mo_wide mo_tall mo_pictures Q x1 x2 x3 → ∀ (H : Heap) (locs : List Loc) (ls : Array Slot), SW D A s.heap (wdM cI cL cZ ad mo_wide mo_tall mo_kind mo_law mo_range mo_queue mo_far mo_pictures mo_pictureCell mo_facing mo_sights mo_fewest mo_posts mo_postMany mo_left mo_roundMany mo_round mo_shift mo_thief mo_danger mo_old) H locs → lv_has ls 5 [(0, .ref (ad 0)), (1, .int x1), (2, .int x2), (3, .int x3)] → W p l e (headSpec wsX10_count rm_mo_count).room s m args below meth c H locs 0 0 Z (F0 m 77 ls []) := by
    intro _  x1 x2 x3 h H locs ls hw hl
    unfold B_mo_count_77 at h
    refine lv_iload_n hx hb dX10_count_77 rfl (lv_at hl 1 rfl) ?_
    by_cases hc0 : x1 = 0
    · replace h := h.1 hc0
      refine lv_tableIn (tgt := 112) hx hb dX10_count_78 (by rw [hc0]; decide) (by rw [hc0]; decide) (by rw [hc0]; rfl) (by decide) ?_
      refine lv_aload_n hx hb dX10_count_112 rfl (lv_at hl 0 rfl) ?_
      refine gM_mo_wide hx hb hts hin hown hK hw lk68 dX10_count_113 ?_
      rw [hZ]
      exact rt_i () hx hb hr hlocks hw h dX10_count_116
    by_cases hc1 : x1 = 1
    · replace h := h.2.1 hc1
      refine lv_tableIn (tgt := 117) hx hb dX10_count_78 (by rw [hc1]; decide) (by rw [hc1]; decide) (by rw [hc1]; rfl) (by decide) ?_
      refine lv_aload_n hx hb dX10_count_117 rfl (lv_at hl 0 rfl) ?_
      refine gM_mo_tall hx hb hts hin hown hK hw lk71 dX10_count_118 ?_
      rw [hZ]
      exact rt_i () hx hb hr hlocks hw h dX10_count_121
    by_cases hc2 : x1 = 2
    · replace h := h.2.2.1 hc2
      refine lv_tableIn (tgt := 122) hx hb dX10_count_78 (by rw [hc2]; decide) (by rw [hc2]; decide) (by rw [hc2]; rfl) (by decide) ?_
      refine lv_aload_n hx hb dX10_count_122 rfl (lv_at hl 0 rfl) ?_
      refine gM_mo_pictures hx hb hts hin hown hK hw lk74 dX10_count_123 ?_
      rw [hZ]
      exact rt_i () hx hb hr hlocks hw h dX10_count_126
    by_cases hc3 : x1 = 3
    · replace h := h.2.2.2.1 hc3
      refine lv_tableIn (tgt := 127) hx hb dX10_count_78 (by rw [hc3]; decide) (by rw [hc3]; decide) (by rw [hc3]; rfl) (by decide) ?_
      refine lv_iload_n hx hb dX10_count_127 rfl (lv_at hl 2 rfl) ?_
      rw [hZ]
      exact rt_i () hx hb hr hlocks hw h dX10_count_128
    by_cases hc4 : x1 = 4
    · replace h := h.2.2.2.2.1 hc4
      refine lv_tableIn (tgt := 129) hx hb dX10_count_78 (by rw [hc4]; decide) (by rw [hc4]; decide) (by rw [hc4]; rfl) (by decide) ?_
      refine lv_iload_n hx hb dX10_count_129 rfl (lv_at hl 3 rfl) ?_
      rw [hZ]
      exact rt_i () hx hb hr hlocks hw h dX10_count_130
    replace h := h.2.2.2.2.2 hc0 hc1 hc2 hc3 hc4
    refine lv_tableOut (tgt := 131) hx hb dX10_count_78 (by have q0 := lv_neT hc0 (a := 0) rfl; have q1 := lv_neT hc1 (a := 1) rfl; have q2 := lv_neT hc2 (a := 2) rfl; have q3 := lv_neT hc3 (a := 3) rfl; have q4 := lv_neT hc4 (a := 4) rfl; omega) (by decide) ?_
    refine lv_bipush (v := (-2)) hx hb dX10_count_131 (by decide) ?_
    rw [hZ]
    exact rt_i () hx hb hr hlocks hw h dX10_count_133
  have J40 : ∀ (n : Nat) (x1 : Int32) (x2 : Int32) (x3 : Int32) (x4 : Int32) , L_mo_count_40 mo_wide mo_tall mo_kind mo_pictures Q n x1 x2 x3 x4 → ∀ (H : Heap) (locs : List Loc) (ls : Array Slot), SW D A s.heap (wdM cI cL cZ ad mo_wide mo_tall mo_kind mo_law mo_range mo_queue mo_far mo_pictures mo_pictureCell mo_facing mo_sights mo_fewest mo_posts mo_postMany mo_left mo_roundMany mo_round mo_shift mo_thief mo_danger mo_old) H locs → lv_has ls 5 [(0, .ref (ad 0)), (1, .int x1), (2, .int x2), (3, .int x3), (4, .int x4)] → W p l e (headSpec wsX10_count rm_mo_count).room s m args below meth c H locs 0 0 Z (F0 m 40 ls []) := by
    intro  n
    induction n with
    | zero => intro x1 x2 x3 x4 h; exact h.elim
    | succ n ih =>
    intro x1 x2 x3 x4 h H locs ls hw hl
    unfold L_mo_count_40 at h
    refine lv_iload hx hb dX10_count_40 (lv_at hl 4 rfl) ?_
    refine lv_aload_n hx hb dX10_count_42 rfl (lv_at hl 0 rfl) ?_
    refine gM_mo_wide hx hb hts hin hown hK hw lk68 dX10_count_43 ?_
    refine lv_aload_n hx hb dX10_count_46 rfl (lv_at hl 0 rfl) ?_
    refine gM_mo_tall hx hb hts hin hown hK hw lk71 dX10_count_47 ?_
    refine lv_imul hx hb dX10_count_50 ?_
    refine lv_icmp_ge (tgt := 77) hx hb dX10_count_51 (by decide) (fun hc => ?_) (fun hc => ?_)
    · replace h := h.1 hc
      exact J77 trivial  _ _ _ h _ _ _ hw (lv_sub hl [0, 1, 2, 3] rfl)
    · replace h := h.2 hc
      refine lv_iload_n hx hb dX10_count_54 rfl (lv_at hl 3 rfl) ?_
      refine lv_aload_n hx hb dX10_count_55 rfl (lv_at hl 0 rfl) ?_
      refine lv_iload hx hb dX10_count_56 (lv_at hl 4 rfl) ?_
      refine cV_i (b := (ad 0)) (As := [.int x4]) (rest := [.int x3]) ⟨hx, hb, hml, hown, hts⟩ hK hw (c_mo_stands x4 h) (cwV 1 hts (gd_RX10_91 hB) rfl rfl rfl (by decide +kernel) ⟨Nat.le_of_ble_eq_true rfl, Nat.le_of_ble_eq_true rfl⟩) (rM_mo hK hw) hl.1 ⟨Nat.zero_le _, Nat.zero_le _⟩ rfl rfl (Nat.le_of_ble_eq_true rfl) dX10_count_58 (fun r58 _ H locs h hw => ?_)
      refine lv_if_eq (tgt := 68) hx hb dX10_count_61 (by decide) (fun hc => ?_) (fun hc => ?_)
      · replace h := h.1 hc
        refine lv_iconst (v := 0) hx hb dX10_count_68 (by decide) ?_
        refine lv_iadd hx hb dX10_count_69 ?_
        refine lv_istore_n (lv' := [(3, .int (x3 + (0 : Int32))), (0, .ref (ad 0)), (1, .int x1), (2, .int x2), (4, .int x4)]) hx hb dX10_count_70 rfl hl (by decide) rfl (fun ls hl => ?_)
        refine lv_iinc (v := (x4 + (1 : Int32))) (lv' := [(4, .int (x4 + (1 : Int32))), (3, .int (x3 + (0 : Int32))), (0, .ref (ad 0)), (1, .int x1), (2, .int x2)]) hx hb dX10_count_71 hl (k := 4) rfl rfl (by decide) rfl (fun ls hl => ?_)
        refine lv_goto (tgt := 40) hx hb dX10_count_74 (by decide) ?_
        exact ih _ _ _ _ h _ _ _ hw (lv_sub hl [2, 3, 4, 1, 0] rfl)
      · replace h := h.2 hc
        refine lv_iconst (v := 1) hx hb dX10_count_64 (by decide) ?_
        refine lv_goto (tgt := 69) hx hb dX10_count_65 (by decide) ?_
        refine lv_iadd hx hb dX10_count_69 ?_
        refine lv_istore_n (lv' := [(3, .int (x3 + (1 : Int32))), (0, .ref (ad 0)), (1, .int x1), (2, .int x2), (4, .int x4)]) hx hb dX10_count_70 rfl hl (by decide) rfl (fun ls hl => ?_)
        refine lv_iinc (v := (x4 + (1 : Int32))) (lv' := [(4, .int (x4 + (1 : Int32))), (3, .int (x3 + (1 : Int32))), (0, .ref (ad 0)), (1, .int x1), (2, .int x2)]) hx hb dX10_count_71 hl (k := 4) rfl rfl (by decide) rfl (fun ls hl => ?_)
        refine lv_goto (tgt := 40) hx hb dX10_count_74 (by decide) ?_
        exact ih _ _ _ _ h _ _ _ hw (lv_sub hl [2, 3, 4, 1, 0] rfl)
  have J7 : ∀ (n : Nat) (x1 : Int32) (x2 : Int32) (x3 : Int32) (x4 : Int32) , L_mo_count_7 mo_wide mo_tall mo_kind mo_pictures mo_roundMany Q n x1 x2 x3 x4 → ∀ (H : Heap) (locs : List Loc) (ls : Array Slot), SW D A s.heap (wdM cI cL cZ ad mo_wide mo_tall mo_kind mo_law mo_range mo_queue mo_far mo_pictures mo_pictureCell mo_facing mo_sights mo_fewest mo_posts mo_postMany mo_left mo_roundMany mo_round mo_shift mo_thief mo_danger mo_old) H locs → lv_has ls 5 [(0, .ref (ad 0)), (1, .int x1), (2, .int x2), (3, .int x3), (4, .int x4)] → W p l e (headSpec wsX10_count rm_mo_count).room s m args below meth c H locs 0 0 Z (F0 m 7 ls []) := by
    intro  n
    induction n with
    | zero => intro x1 x2 x3 x4 h; exact h.elim
    | succ n ih =>
    intro x1 x2 x3 x4 h H locs ls hw hl
    unfold L_mo_count_7 at h
    refine lv_iload hx hb dX10_count_7 (lv_at hl 4 rfl) ?_
    refine lv_iconst (v := 4) hx hb dX10_count_9 (by decide) ?_
    refine lv_icmp_ge (tgt := 37) hx hb dX10_count_10 (by decide) (fun hc => ?_) (fun hc => ?_)
    · replace h := h.1 hc
      refine lv_iconst (v := 0) hx hb dX10_count_37 (by decide) ?_
      refine lv_istore (lv' := [(4, .int (0 : Int32)), (0, .ref (ad 0)), (1, .int x1), (2, .int x2), (3, .int x3)]) hx hb dX10_count_38 hl (by decide) rfl (fun ls hl => ?_)
      obtain ⟨n40, h⟩ := h
      exact J40  n40 _ _ _ _ h _ _ _ hw (lv_sub hl [1, 2, 3, 4, 0] rfl)
    · replace h := h.2 hc
      refine lv_iload_n hx hb dX10_count_13 rfl (lv_at hl 2 rfl) ?_
      refine lv_aload_n hx hb dX10_count_14 rfl (lv_at hl 0 rfl) ?_
      refine gM_mo_roundMany hx hb hts hin hown hK hw lk45 dX10_count_15 ?_
      refine lv_iload hx hb dX10_count_18 (lv_at hl 4 rfl) ?_
      refine aM_mo_roundMany hx hb hK hw h.1 dX10_count_20 ?_
      replace h := h.2
      refine lv_if_le (tgt := 28) hx hb dX10_count_21 (by decide) (fun hc => ?_) (fun hc => ?_)
      · replace h := h.1 hc
        refine lv_iconst (v := 0) hx hb dX10_count_28 (by decide) ?_
        refine lv_iadd hx hb dX10_count_29 ?_
        refine lv_istore_n (lv' := [(2, .int (x2 + (0 : Int32))), (0, .ref (ad 0)), (1, .int x1), (3, .int x3), (4, .int x4)]) hx hb dX10_count_30 rfl hl (by decide) rfl (fun ls hl => ?_)
        refine lv_iinc (v := (x4 + (1 : Int32))) (lv' := [(4, .int (x4 + (1 : Int32))), (2, .int (x2 + (0 : Int32))), (0, .ref (ad 0)), (1, .int x1), (3, .int x3)]) hx hb dX10_count_31 hl (k := 4) rfl rfl (by decide) rfl (fun ls hl => ?_)
        refine lv_goto (tgt := 7) hx hb dX10_count_34 (by decide) ?_
        exact ih _ _ _ _ h _ _ _ hw (lv_sub hl [2, 3, 1, 4, 0] rfl)
      · replace h := h.2 hc
        refine lv_iconst (v := 1) hx hb dX10_count_24 (by decide) ?_
        refine lv_goto (tgt := 29) hx hb dX10_count_25 (by decide) ?_
        refine lv_iadd hx hb dX10_count_29 ?_
        refine lv_istore_n (lv' := [(2, .int (x2 + (1 : Int32))), (0, .ref (ad 0)), (1, .int x1), (3, .int x3), (4, .int x4)]) hx hb dX10_count_30 rfl hl (by decide) rfl (fun ls hl => ?_)
        refine lv_iinc (v := (x4 + (1 : Int32))) (lv' := [(4, .int (x4 + (1 : Int32))), (2, .int (x2 + (1 : Int32))), (0, .ref (ad 0)), (1, .int x1), (3, .int x3)]) hx hb dX10_count_31 hl (k := 4) rfl rfl (by decide) rfl (fun ls hl => ?_)
        refine lv_goto (tgt := 7) hx hb dX10_count_34 (by decide) ?_
        exact ih _ _ _ _ h _ _ _ hw (lv_sub hl [2, 3, 1, 4, 0] rfl)
  unfold P_mo_count at h
  have he : entryFrame m args 5 = entryFrame m ([.ref (ad 0), .int x1] : List Value).toArray 5 := by rw [hav]
  refine W.eq he ?_
  have hl := lv_entry ([.ref (ad 0), .int x1]) (n := 5) (Nat.le_of_ble_eq_true rfl)
  rw [lg_entry_eq]
  generalize (lg_sl ([.ref (ad 0), .int x1]) ++ List.replicate (5 - (lg_sl ([.ref (ad 0), .int x1])).length) Slot.unset).toArray = ls at hl ⊢
  have hl : lv_has ls 5 [(0, .ref (ad 0)), (1, .int x1)] := hl
  refine lv_iconst (v := 0) hx hb dX10_count_0 (by decide) ?_
  refine lv_istore_n (lv' := [(2, .int (0 : Int32)), (0, .ref (ad 0)), (1, .int x1)]) hx hb dX10_count_1 rfl hl (by decide) rfl (fun ls hl => ?_)
  refine lv_iconst (v := 0) hx hb dX10_count_2 (by decide) ?_
  refine lv_istore_n (lv' := [(3, .int (0 : Int32)), (2, .int (0 : Int32)), (0, .ref (ad 0)), (1, .int x1)]) hx hb dX10_count_3 rfl hl (by decide) rfl (fun ls hl => ?_)
  refine lv_iconst (v := 0) hx hb dX10_count_4 (by decide) ?_
  refine lv_istore (lv' := [(4, .int (0 : Int32)), (3, .int (0 : Int32)), (2, .int (0 : Int32)), (0, .ref (ad 0)), (1, .int x1)]) hx hb dX10_count_5 hl (by decide) rfl (fun ls hl => ?_)
  obtain ⟨n7, h⟩ := h
  exact J7  n7 _ _ _ _ h _ _ _ hw (lv_sub hl [3, 4, 2, 1, 0] rfl)
