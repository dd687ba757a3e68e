def rm_mo_sightsFrom : Room := { frames := 4, cells := 0, slots := 0, locals := 105 }
set_option maxHeartbeats 4000000 in
set_option maxRecDepth 100000 in
theorem c_mo_sightsFrom {l : Launch} {D : va_G} {cI cL cZ : ClassId} {mx my : Nat} {A : Nat → Prop} {ad : Nat → Nat} {mo_wide mo_tall mo_law mo_range mo_pictures mo_postMany : Int32} {mo_kind mo_queue mo_far mo_pictureCell mo_facing mo_sights mo_fewest mo_posts mo_left mo_roundMany mo_round mo_shift mo_thief mo_danger mo_old : Nat → Int32} (x1 : Int32) {Q : Int32 → Prop} (h : P_mo_sightsFrom mo_wide mo_kind mo_law mo_range mo_pictures mo_pictureCell mo_facing x1 Q) : Met l yX10_sightsFrom wsX10_sightsFrom rm_mo_sightsFrom (va_Pc [.ref (ad 0), .int x1] (WC D cI cL cZ mx my A (wdM cI cL cZ ad mo_wide mo_tall mo_kind mo_law mo_range mo_queue mo_far mo_pictures mo_pictureCell mo_facing mo_sights mo_fewest mo_posts mo_postMany mo_left mo_roundMany mo_round mo_shift mo_thief mo_danger mo_old))) (va_Qi (fun (r : Int32) (u : Unit) => Q r) (fun (u : Unit) t => PW D A (wdM cI cL cZ ad mo_wide mo_tall mo_kind mo_law mo_range mo_queue mo_far mo_pictures mo_pictureCell mo_facing mo_sights mo_fewest mo_posts mo_postMany mo_left mo_roundMany mo_round mo_shift mo_thief mo_danger mo_old) t.heap) A) 0 0 A := by
  refine Met.ofW (cc := cX10_sightsFrom) (maxL := 4) (ret := (some .int)) (by decide) rfl ?_
  intro p e s m args below meth c s₁ B hml hv
  obtain ⟨hav, hP0, hD0, hK⟩ := hv
  have hx := B.exec
  have hb := B.bytes
  have hr := B.returns
  have hts := atoms_spec (ws := wsX10_sightsFrom) B.pre
  have hown : s.vm.findClass RX10 = some m.cls := findClass_of_methodNamed B.named
  have hlocks := B.notSynchronized
  have hB : ∀ w ∈ BIG, w ∈ wsX10_sightsFrom := fun _ h => List.mem_cons_of_mem _ h
  have hin : ∀ w ∈ wsX100, w ∈ wsX10_sightsFrom := fun w h => hB w (inB_X10 w h)
  have lk74 := hts _ (hB _ m_938)
  obtain ⟨Z, hZ⟩ : ∃ Z : State → Prop, Z = MQ below (va_Qi (fun (r : Int32) (u : Unit) => Q r) (fun (u : Unit) t => PW D A (wdM cI cL cZ ad mo_wide mo_tall mo_kind mo_law mo_range mo_queue mo_far mo_pictures mo_pictureCell mo_facing mo_sights mo_fewest mo_posts mo_postMany mo_left mo_roundMany mo_round mo_shift mo_thief mo_danger mo_old) t.heap) A) args s 0 0 A := ⟨_, rfl⟩
  rw [← hZ]
  have hw : SW D A s.heap (wdM cI cL cZ ad mo_wide mo_tall mo_kind mo_law mo_range mo_queue mo_far mo_pictures mo_pictureCell mo_facing mo_sights mo_fewest mo_posts mo_postMany mo_left mo_roundMany mo_round mo_shift mo_thief mo_danger mo_old) s.heap [] := ⟨hP0, hD0, va_S.rf⟩
  clear hP0 hD0 B
  have J4 : ∀ (n : Nat) (x1 : Int32) (x2 : Int32) (x3 : Int32) , L_mo_sightsFrom_4 mo_wide mo_kind mo_law mo_range mo_pictures mo_pictureCell mo_facing Q n x1 x2 x3 → ∀ (H : Heap) (locs : List Loc) (ls : Array Slot), SW D A s.heap (wdM cI cL cZ ad mo_wide mo_tall mo_kind mo_law mo_range mo_queue mo_far mo_pictures mo_pictureCell mo_facing mo_sights mo_fewest mo_posts mo_postMany mo_left mo_roundMany mo_round mo_shift mo_thief mo_danger mo_old) H locs → lv_has ls 4 [(0, .ref (ad 0)), (1, .int x1), (2, .int x2), (3, .int x3)] → W p l e (headSpec wsX10_sightsFrom rm_mo_sightsFrom).room s m args below meth c H locs 0 0 Z (F0 m 4 ls []) := by
    intro  n
    induction n with
    | zero => intro x1 x2 x3 h; exact h.elim
    | succ n ih =>
    intro x1 x2 x3 h H locs ls hw hl
    unfold L_mo_sightsFrom_4 at h
    refine lv_iload_n hx hb dX10_sightsFrom_4 rfl (lv_at hl 3 rfl) ?_
    refine lv_aload_n hx hb dX10_sightsFrom_5 rfl (lv_at hl 0 rfl) ?_
    refine gM_mo_pictures hx hb hts hin hown hK hw lk74 dX10_sightsFrom_6 ?_
    refine lv_icmp_ge (tgt := 37) hx hb dX10_sightsFrom_9 (by decide) (fun hc => ?_) (fun hc => ?_)
    · replace h := h.1 hc
      refine lv_iload_n hx hb dX10_sightsFrom_37 rfl (lv_at hl 2 rfl) ?_
      rw [hZ]
      exact rt_i () hx hb hr hlocks hw h dX10_sightsFrom_38
    · replace h := h.2 hc
      refine lv_iload_n hx hb dX10_sightsFrom_12 rfl (lv_at hl 2 rfl) ?_
      refine lv_aload_n hx hb dX10_sightsFrom_13 rfl (lv_at hl 0 rfl) ?_
      refine lv_iload_n hx hb dX10_sightsFrom_14 rfl (lv_at hl 3 rfl) ?_
      refine lv_iload_n hx hb dX10_sightsFrom_15 rfl (lv_at hl 1 rfl) ?_
      refine cV_i (b := (ad 0)) (As := [.int x3, .int x1]) (rest := [.int x2]) ⟨hx, hb, hml, hown, hts⟩ hK hw (c_mo_sightsPicture x3 x1 h) (cwV 2 hts (gd_RX10_128 hB) rfl rfl rfl (by decide +kernel) ⟨Nat.le_of_ble_eq_true rfl, Nat.le_of_ble_eq_true rfl⟩) (rM_mo hK hw) hl.1 ⟨Nat.zero_le _, Nat.zero_le _⟩ rfl rfl (Nat.le_of_ble_eq_true rfl) dX10_sightsFrom_16 (fun r16 _ H locs h hw => ?_)
      refine lv_if_eq (tgt := 28) hx hb dX10_sightsFrom_19 (by decide) (fun hc => ?_) (fun hc => ?_)
      · replace h := h.1 hc
        refine lv_iconst (v := 0) hx hb dX10_sightsFrom_28 (by decide) ?_
        refine lv_ior hx hb dX10_sightsFrom_29 ?_
        refine lv_topi (fun x2_30 ex2_30 => ?_)
        replace h := h x2_30 ex2_30
        refine lv_istore_n (lv' := [(2, .int x2_30), (0, .ref (ad 0)), (1, .int x1), (3, .int x3)]) hx hb dX10_sightsFrom_30 rfl hl (by decide) rfl (fun ls hl => ?_)
        refine lv_iinc (v := (x3 + (1 : Int32))) (lv' := [(3, .int (x3 + (1 : Int32))), (2, .int x2_30), (0, .ref (ad 0)), (1, .int x1)]) hx hb dX10_sightsFrom_31 hl (k := 3) rfl rfl (by decide) rfl (fun ls hl => ?_)
        refine lv_goto (tgt := 4) hx hb dX10_sightsFrom_34 (by decide) ?_
        exact ih _ _ _ h _ _ _ hw (lv_sub hl [2, 3, 1, 0] rfl)
      · replace h := h.2 hc
        refine lv_iconst (v := 1) hx hb dX10_sightsFrom_22 (by decide) ?_
        refine lv_iload_n hx hb dX10_sightsFrom_23 rfl (lv_at hl 3 rfl) ?_
        refine lv_ishl hx hb dX10_sightsFrom_24 ?_
        refine lv_goto (tgt := 29) hx hb dX10_sightsFrom_25 (by decide) ?_
        refine lv_ior hx hb dX10_sightsFrom_29 ?_
        refine lv_topi (fun x2_30 ex2_30 => ?_)
        replace h := h x2_30 ex2_30
        refine lv_istore_n (lv' := [(2, .int x2_30), (0, .ref (ad 0)), (1, .int x1), (3, .int x3)]) hx hb dX10_sightsFrom_30 rfl hl (by decide) rfl (fun ls hl => ?_)
        refine lv_iinc (v := (x3 + (1 : Int32))) (lv' := [(3, .int (x3 + (1 : Int32))), (2, .int x2_30), (0, .ref (ad 0)), (1, .int x1)]) hx hb dX10_sightsFrom_31 hl (k := 3) rfl rfl (by decide) rfl (fun ls hl => ?_)
        refine lv_goto (tgt := 4) hx hb dX10_sightsFrom_34 (by decide) ?_
        exact ih _ _ _ h _ _ _ hw (lv_sub hl [2, 3, 1, 0] rfl)
  unfold P_mo_sightsFrom at h
  have he : entryFrame m args 4 = entryFrame m ([.ref (ad 0), .int x1] : List Value).toArray 4 := by rw [hav]
  refine W.eq he ?_
  have hl := lv_entry ([.ref (ad 0), .int x1]) (n := 4) (Nat.le_of_ble_eq_true rfl)
  rw [lg_entry_eq]
  generalize (lg_sl ([.ref (ad 0), .int x1]) ++ List.replicate (4 - (lg_sl ([.ref (ad 0), .int x1])).length) Slot.unset).toArray = ls at hl ⊢
  have hl : lv_has ls 4 [(0, .ref (ad 0)), (1, .int x1)] := hl
  refine lv_iconst (v := 0) hx hb dX10_sightsFrom_0 (by decide) ?_
  refine lv_istore_n (lv' := [(2, .int (0 : Int32)), (0, .ref (ad 0)), (1, .int x1)]) hx hb dX10_sightsFrom_1 rfl hl (by decide) rfl (fun ls hl => ?_)
  refine lv_iconst (v := 0) hx hb dX10_sightsFrom_2 (by decide) ?_
  refine lv_istore_n (lv' := [(3, .int (0 : Int32)), (2, .int (0 : Int32)), (0, .ref (ad 0)), (1, .int x1)]) hx hb dX10_sightsFrom_3 rfl hl (by decide) rfl (fun ls hl => ?_)
  obtain ⟨n4, h⟩ := h
  exact J4  n4 _ _ _ h _ _ _ hw (lv_sub hl [2, 3, 1, 0] rfl)
def rm_mo_seen : Room := { frames := 4, cells := 0, slots := 0, locals := 105 }
set_option maxHeartbeats 4000000 in
set_option maxRecDepth 100000 in
theorem c_mo_seen {l : Launch} {D : va_G} {cI cL cZ : ClassId} {mx my : Nat} {A : Nat → Prop} {ad : Nat → Nat} {mo_wide mo_tall mo_law mo_range mo_pictures mo_postMany : Int32} {mo_kind mo_queue mo_far mo_pictureCell mo_facing mo_sights mo_fewest mo_posts mo_left mo_roundMany mo_round mo_shift mo_thief mo_danger mo_old : Nat → Int32} (x1 : Int32) (x2 : Int32) {Q : Int32 → Prop} (h : P_mo_seen mo_wide mo_tall mo_kind mo_law mo_range mo_pictures mo_pictureCell mo_facing x1 x2 Q) : Met l yX10_seen wsX10_seen rm_mo_seen (va_Pc [.ref (ad 0), .int x1, .int x2] (WC D cI cL cZ mx my A (wdM cI cL cZ ad mo_wide mo_tall mo_kind mo_law mo_range mo_queue mo_far mo_pictures mo_pictureCell mo_facing mo_sights mo_fewest mo_posts mo_postMany mo_left mo_roundMany mo_round mo_shift mo_thief mo_danger mo_old))) (va_Qi (fun (r : Int32) (u : Unit) => Q r) (fun (u : Unit) t => PW D A (wdM cI cL cZ ad mo_wide mo_tall mo_kind mo_law mo_range mo_queue mo_far mo_pictures mo_pictureCell mo_facing mo_sights mo_fewest mo_posts mo_postMany mo_left mo_roundMany mo_round mo_shift mo_thief mo_danger mo_old) t.heap) A) 0 0 A := by
  refine Met.ofW (cc := cX10_seen) (maxL := 3) (ret := (some .int)) (by decide) rfl ?_
  intro p e s m args below meth c s₁ B hml hv
  obtain ⟨hav, hP0, hD0, hK⟩ := hv
  have hx := B.exec
  have hb := B.bytes
  have hr := B.returns
  have hts := atoms_spec (ws := wsX10_seen) B.pre
  have hown : s.vm.findClass RX10 = some m.cls := findClass_of_methodNamed B.named
  have hlocks := B.notSynchronized
  have hB : ∀ w ∈ BIG, w ∈ wsX10_seen := fun _ h => List.mem_cons_of_mem _ h
  obtain ⟨Z, hZ⟩ : ∃ Z : State → Prop, Z = MQ below (va_Qi (fun (r : Int32) (u : Unit) => Q r) (fun (u : Unit) t => PW D A (wdM cI cL cZ ad mo_wide mo_tall mo_kind mo_law mo_range mo_queue mo_far mo_pictures mo_pictureCell mo_facing mo_sights mo_fewest mo_posts mo_postMany mo_left mo_roundMany mo_round mo_shift mo_thief mo_danger mo_old) t.heap) A) args s 0 0 A := ⟨_, rfl⟩
  rw [← hZ]
  have hw : SW D A s.heap (wdM cI cL cZ ad mo_wide mo_tall mo_kind mo_law mo_range mo_queue mo_far mo_pictures mo_pictureCell mo_facing mo_sights mo_fewest mo_posts mo_postMany mo_left mo_roundMany mo_round mo_shift mo_thief mo_danger mo_old) s.heap [] := ⟨hP0, hD0, va_S.rf⟩
  clear hP0 hD0 B
  unfold P_mo_seen at h
  have he : entryFrame m args 3 = entryFrame m ([.ref (ad 0), .int x1, .int x2] : List Value).toArray 3 := by rw [hav]
  refine W.eq he ?_
  have hl := lv_entry ([.ref (ad 0), .int x1, .int x2]) (n := 3) (Nat.le_of_ble_eq_true rfl)
  rw [lg_entry_eq]
  generalize (lg_sl ([.ref (ad 0), .int x1, .int x2]) ++ List.replicate (3 - (lg_sl ([.ref (ad 0), .int x1, .int x2])).length) Slot.unset).toArray = ls at hl ⊢
  have hl : lv_has ls 3 [(0, .ref (ad 0)), (1, .int x1), (2, .int x2)] := hl
  refine lv_aload_n hx hb dX10_seen_0 rfl (lv_at hl 0 rfl) ?_
  refine lv_iload_n hx hb dX10_seen_1 rfl (lv_at hl 1 rfl) ?_
  refine cV_i (b := (ad 0)) (As := [.int x1]) (rest := []) ⟨hx, hb, hml, hown, hts⟩ hK hw (c_mo_isPicture x1 h) (cwV 1 hts (gd_RX10_125 hB) rfl rfl rfl (by decide +kernel) ⟨Nat.le_of_ble_eq_true rfl, Nat.le_of_ble_eq_true rfl⟩) (rM_mo hK hw) hl.1 ⟨Nat.zero_le _, Nat.zero_le _⟩ rfl rfl (Nat.le_of_ble_eq_true rfl) dX10_seen_2 (fun r2 _ H locs h hw => ?_)
  refine lv_if_eq (tgt := 16) hx hb dX10_seen_5 (by decide) (fun hc => ?_) (fun hc => ?_)
  · replace h := h.1 hc
    refine lv_iconst (v := (-1)) hx hb dX10_seen_16 (by decide) ?_
    refine lv_goto (tgt := 34) hx hb dX10_seen_17 (by decide) ?_
    rw [hZ]
    exact rt_i () hx hb hr hlocks hw h dX10_seen_34
  · replace h := h.2 hc
    refine lv_aload_n hx hb dX10_seen_8 rfl (lv_at hl 0 rfl) ?_
    refine lv_iload_n hx hb dX10_seen_9 rfl (lv_at hl 2 rfl) ?_
    refine cV_i (b := (ad 0)) (As := [.int x2]) (rest := []) ⟨hx, hb, hml, hown, hts⟩ hK hw (c_mo_isCell x2 h) (cwV 1 hts (gd_RX10_85 hB) rfl rfl rfl (by decide +kernel) ⟨Nat.le_of_ble_eq_true rfl, Nat.le_of_ble_eq_true rfl⟩) (rM_mo hK hw) hl.1 ⟨Nat.zero_le _, Nat.zero_le _⟩ rfl rfl (Nat.le_of_ble_eq_true rfl) dX10_seen_10 (fun r10 _ H locs h hw => ?_)
    refine lv_if_ne (tgt := 20) hx hb dX10_seen_13 (by decide) (fun hc => ?_) (fun hc => ?_)
    · replace h := h.2 hc
      refine lv_aload_n hx hb dX10_seen_20 rfl (lv_at hl 0 rfl) ?_
      refine lv_iload_n hx hb dX10_seen_21 rfl (lv_at hl 1 rfl) ?_
      refine lv_iload_n hx hb dX10_seen_22 rfl (lv_at hl 2 rfl) ?_
      refine cV_i (b := (ad 0)) (As := [.int x1, .int x2]) (rest := []) ⟨hx, hb, hml, hown, hts⟩ hK hw (c_mo_sightsPicture x1 x2 h) (cwV 2 hts (gd_RX10_128 hB) rfl rfl rfl (by decide +kernel) ⟨Nat.le_of_ble_eq_true rfl, Nat.le_of_ble_eq_true rfl⟩) (rM_mo hK hw) hl.1 ⟨Nat.zero_le _, Nat.zero_le _⟩ rfl rfl (Nat.le_of_ble_eq_true rfl) dX10_seen_23 (fun r23 _ H locs h hw => ?_)
      refine lv_if_eq (tgt := 33) hx hb dX10_seen_26 (by decide) (fun hc => ?_) (fun hc => ?_)
      · replace h := h.1 hc
        refine lv_iconst (v := 0) hx hb dX10_seen_33 (by decide) ?_
        rw [hZ]
        exact rt_i () hx hb hr hlocks hw h dX10_seen_34
      · replace h := h.2 hc
        refine lv_iconst (v := 1) hx hb dX10_seen_29 (by decide) ?_
        refine lv_goto (tgt := 34) hx hb dX10_seen_30 (by decide) ?_
        rw [hZ]
        exact rt_i () hx hb hr hlocks hw h dX10_seen_34
    · replace h := h.1 hc
      refine lv_iconst (v := (-1)) hx hb dX10_seen_16 (by decide) ?_
      refine lv_goto (tgt := 34) hx hb dX10_seen_17 (by decide) ?_
      rw [hZ]
      exact rt_i () hx hb hr hlocks hw h dX10_seen_34
def rm_mo_from : Room := { frames := 5, cells := 0, slots := 0, locals := 128 }
set_option maxHeartbeats 4000000 in
set_option maxRecDepth 100000 in
theorem c_mo_from {l : Launch} {D : va_G} {cI cL cZ : ClassId} {mx my : Nat} {A : Nat → Prop} {ad : Nat → Nat} {mo_wide mo_tall mo_law mo_range mo_pictures mo_postMany : Int32} {mo_kind mo_queue mo_far mo_pictureCell mo_facing mo_sights mo_fewest mo_posts mo_left mo_roundMany mo_round mo_shift mo_thief mo_danger mo_old : Nat → Int32} (x1 : Int32) {Q : Int32 → Prop} (h : P_mo_from mo_wide mo_tall mo_kind mo_law mo_range mo_pictures mo_pictureCell mo_facing x1 Q) : Met l yX10_from wsX10_from rm_mo_from (va_Pc [.ref (ad 0), .int x1] (WC D cI cL cZ mx my A (wdM cI cL cZ ad mo_wide mo_tall mo_kind mo_law mo_range mo_queue mo_far mo_pictures mo_pictureCell mo_facing mo_sights mo_fewest mo_posts mo_postMany mo_left mo_roundMany mo_round mo_shift mo_thief mo_danger mo_old))) (va_Qi (fun (r : Int32) (u : Unit) => Q r) (fun (u : Unit) t => PW D A (wdM cI cL cZ ad mo_wide mo_tall mo_kind mo_law mo_range mo_queue mo_far mo_pictures mo_pictureCell mo_facing mo_sights mo_fewest mo_posts mo_postMany mo_left mo_roundMany mo_round mo_shift mo_thief mo_danger mo_old) t.heap) A) 0 0 A := by
  refine Met.ofW (cc := cX10_from) (maxL := 2) (ret := (some .int)) (by decide) rfl ?_
  intro p e s m args below meth c s₁ B hml hv
  obtain ⟨hav, hP0, hD0, hK⟩ := hv
  have hx := B.exec
  have hb := B.bytes
  have hr := B.returns
  have hts := atoms_spec (ws := wsX10_from) B.pre
  have hown : s.vm.findClass RX10 = some m.cls := findClass_of_methodNamed B.named
  have hlocks := B.notSynchronized
  have hB : ∀ w ∈ BIG, w ∈ wsX10_from := fun _ h => List.mem_cons_of_mem _ h
  obtain ⟨Z, hZ⟩ : ∃ Z : State → Prop, Z = MQ below (va_Qi (fun (r : Int32) (u : Unit) => Q r) (fun (u : Unit) t => PW D A (wdM cI cL cZ ad mo_wide mo_tall mo_kind mo_law mo_range mo_queue mo_far mo_pictures mo_pictureCell mo_facing mo_sights mo_fewest mo_posts mo_postMany mo_left mo_roundMany mo_round mo_shift mo_thief mo_danger mo_old) t.heap) A) args s 0 0 A := ⟨_, rfl⟩
  rw [← hZ]
  have hw : SW D A s.heap (wdM cI cL cZ ad mo_wide mo_tall mo_kind mo_law mo_range mo_queue mo_far mo_pictures mo_pictureCell mo_facing mo_sights mo_fewest mo_posts mo_postMany mo_left mo_roundMany mo_round mo_shift mo_thief mo_danger mo_old) s.heap [] := ⟨hP0, hD0, va_S.rf⟩
  clear hP0 hD0 B
  unfold P_mo_from at h
  have he : entryFrame m args 2 = entryFrame m ([.ref (ad 0), .int x1] : List Value).toArray 2 := by rw [hav]
  refine W.eq he ?_
  have hl := lv_entry ([.ref (ad 0), .int x1]) (n := 2) (Nat.le_of_ble_eq_true rfl)
  rw [lg_entry_eq]
  generalize (lg_sl ([.ref (ad 0), .int x1]) ++ List.replicate (2 - (lg_sl ([.ref (ad 0), .int x1])).length) Slot.unset).toArray = ls at hl ⊢
  have hl : lv_has ls 2 [(0, .ref (ad 0)), (1, .int x1)] := hl
  refine lv_aload_n hx hb dX10_from_0 rfl (lv_at hl 0 rfl) ?_
  refine lv_iload_n hx hb dX10_from_1 rfl (lv_at hl 1 rfl) ?_
  refine cV_i (b := (ad 0)) (As := [.int x1]) (rest := []) ⟨hx, hb, hml, hown, hts⟩ hK hw (c_mo_isCell x1 h) (cwV 1 hts (gd_RX10_85 hB) rfl rfl rfl (by decide +kernel) ⟨Nat.le_of_ble_eq_true rfl, Nat.le_of_ble_eq_true rfl⟩) (rM_mo hK hw) hl.1 ⟨Nat.zero_le _, Nat.zero_le _⟩ rfl rfl (Nat.le_of_ble_eq_true rfl) dX10_from_2 (fun r2 _ H locs h hw => ?_)
  refine lv_if_eq (tgt := 16) hx hb dX10_from_5 (by decide) (fun hc => ?_) (fun hc => ?_)
  · replace h := h.1 hc
    refine lv_iconst (v := (-1)) hx hb dX10_from_16 (by decide) ?_
    rw [hZ]
    exact rt_i () hx hb hr hlocks hw h dX10_from_17
  · replace h := h.2 hc
    refine lv_aload_n hx hb dX10_from_8 rfl (lv_at hl 0 rfl) ?_
    refine lv_iload_n hx hb dX10_from_9 rfl (lv_at hl 1 rfl) ?_
    refine cV_i (b := (ad 0)) (As := [.int x1]) (rest := []) ⟨hx, hb, hml, hown, hts⟩ hK hw (c_mo_sightsFrom x1 h) (cwV 1 hts (gd_RX10_131 hB) rfl rfl rfl (by decide +kernel) ⟨Nat.le_of_ble_eq_true rfl, Nat.le_of_ble_eq_true rfl⟩) (rM_mo hK hw) hl.1 ⟨Nat.zero_le _, Nat.zero_le _⟩ rfl rfl (Nat.le_of_ble_eq_true rfl) dX10_from_10 (fun r10 _ H locs h hw => ?_)
    refine lv_goto (tgt := 17) hx hb dX10_from_13 (by decide) ?_
    rw [hZ]
    exact rt_i () hx hb hr hlocks hw h dX10_from_17
def rm_mo_laySights : Room := { frames := 5, cells := 0, slots := 0, locals := 128 }
set_option maxHeartbeats 4000000 in
set_option maxRecDepth 100000 in
theorem c_mo_laySights {l : Launch} {D : va_G} {cI cL cZ : ClassId} {mx my : Nat} {A : Nat → Prop} {ad : Nat → Nat} {mo_wide mo_tall mo_law mo_range mo_pictures mo_postMany : Int32} {mo_kind mo_queue mo_far mo_pictureCell mo_facing mo_sights mo_fewest mo_posts mo_left mo_roundMany mo_round mo_shift mo_thief mo_danger mo_old : Nat → Int32}  {Q : (Nat → Int32) → Prop} (h : P_mo_laySights mo_wide mo_tall mo_kind mo_law mo_range mo_pictures mo_pictureCell mo_facing mo_sights Q) : Met l yX10_laySights wsX10_laySights rm_mo_laySights (va_Pc [.ref (ad 0)] (WC D cI cL cZ mx my A (wdM cI cL cZ ad mo_wide mo_tall mo_kind mo_law mo_range mo_queue mo_far mo_pictures mo_pictureCell mo_facing mo_sights mo_fewest mo_posts mo_postMany mo_left mo_roundMany mo_round mo_shift mo_thief mo_danger mo_old))) (va_Qv (fun (u : (Nat → Int32)) => Q u) (fun (u : (Nat → Int32)) t => PW D A (wdM cI cL cZ ad mo_wide mo_tall mo_kind mo_law mo_range mo_queue mo_far mo_pictures mo_pictureCell mo_facing u mo_fewest mo_posts mo_postMany mo_left mo_roundMany mo_round mo_shift mo_thief mo_danger mo_old) t.heap) A) 0 0 A := by
  refine Met.ofW (cc := cX10_laySights) (maxL := 2) (ret := none) (by decide) rfl ?_
  intro p e s m args below meth c s₁ B hml hv
  obtain ⟨hav, hP0, hD0, hK⟩ := hv
  have hx := B.exec
  have hb := B.bytes
  have hr := B.returns
  have hts := atoms_spec (ws := wsX10_laySights) B.pre
  have hown : s.vm.findClass RX10 = some m.cls := findClass_of_methodNamed B.named
  have hlocks := B.notSynchronized
  have hB : ∀ w ∈ BIG, w ∈ wsX10_laySights := fun _ h => List.mem_cons_of_mem _ h
  have hin : ∀ w ∈ wsX100, w ∈ wsX10_laySights := fun w h => hB w (inB_X10 w h)
  have lk33 := hts _ (hB _ m_941)
  have lk68 := hts _ (hB _ m_931)
  have lk71 := hts _ (hB _ m_932)
  obtain ⟨Z, hZ⟩ : ∃ Z : State → Prop, Z = MQ below (va_Qv (fun (u : (Nat → Int32)) => Q u) (fun (u : (Nat → Int32)) t => PW D A (wdM cI cL cZ ad mo_wide mo_tall mo_kind mo_law mo_range mo_queue mo_far mo_pictures mo_pictureCell mo_facing u mo_fewest mo_posts mo_postMany mo_left mo_roundMany mo_round mo_shift mo_thief mo_danger mo_old) t.heap) A) args s 0 0 A := ⟨_, rfl⟩
  rw [← hZ]
  have hw : SW D A s.heap (wdM cI cL cZ ad mo_wide mo_tall mo_kind mo_law mo_range mo_queue mo_far mo_pictures mo_pictureCell mo_facing mo_sights mo_fewest mo_posts mo_postMany mo_left mo_roundMany mo_round mo_shift mo_thief mo_danger mo_old) s.heap [] := ⟨hP0, hD0, va_S.rf⟩
  clear hP0 hD0 B
  have J2 : ∀ (n : Nat) (mo_sights : (Nat → Int32)) (x1 : Int32) , L_mo_laySights_2 mo_wide mo_tall mo_kind mo_law mo_range mo_pictures mo_pictureCell mo_facing Q n mo_sights x1 → ∀ (H : Heap) (locs : List Loc) (ls : Array Slot), SW D A s.heap (wdM cI cL cZ ad mo_wide mo_tall mo_kind mo_law mo_range mo_queue mo_far mo_pictures mo_pictureCell mo_facing mo_sights mo_fewest mo_posts mo_postMany mo_left mo_roundMany mo_round mo_shift mo_thief mo_danger mo_old) H locs → lv_has ls 2 [(0, .ref (ad 0)), (1, .int x1)] → W p l e (headSpec wsX10_laySights rm_mo_laySights).room s m args below meth c H locs 0 0 Z (F0 m 2 ls []) := by
    intro  n
    induction n with
    | zero => intro mo_sights x1 h; exact h.elim
    | succ n ih =>
    intro mo_sights x1 h H locs ls hw hl
    unfold L_mo_laySights_2 at h
    refine lv_iload_n hx hb dX10_laySights_2 rfl (lv_at hl 1 rfl) ?_
    refine lv_aload_n hx hb dX10_laySights_3 rfl (lv_at hl 0 rfl) ?_
    refine gM_mo_wide hx hb hts hin hown hK hw lk68 dX10_laySights_4 ?_
    refine lv_aload_n hx hb dX10_laySights_7 rfl (lv_at hl 0 rfl) ?_
    refine gM_mo_tall hx hb hts hin hown hK hw lk71 dX10_laySights_8 ?_
    refine lv_imul hx hb dX10_laySights_11 ?_
    refine lv_icmp_ge (tgt := 44) hx hb dX10_laySights_12 (by decide) (fun hc => ?_) (fun hc => ?_)
    · replace h := h.1 hc
      rw [hZ]
      exact rt_v mo_sights hx hb hr hlocks hw h dX10_laySights_44
    · replace h := h.2 hc
      refine lv_aload_n hx hb dX10_laySights_15 rfl (lv_at hl 0 rfl) ?_
      refine gM_mo_sights hx hb hts hin hown hK hw lk33 dX10_laySights_16 ?_
      refine lv_iload_n hx hb dX10_laySights_19 rfl (lv_at hl 1 rfl) ?_
      refine lv_aload_n hx hb dX10_laySights_20 rfl (lv_at hl 0 rfl) ?_
      refine lv_iload_n hx hb dX10_laySights_21 rfl (lv_at hl 1 rfl) ?_
      refine cV_i (b := (ad 0)) (As := [.int x1]) (rest := [.int x1, .ref (ad 6)]) ⟨hx, hb, hml, hown, hts⟩ hK hw (c_mo_stands x1 h) (cwV 1 hts (gd_RX10_91 hB) rfl rfl rfl (by decide +kernel) ⟨Nat.le_of_ble_eq_true rfl, Nat.le_of_ble_eq_true rfl⟩) (rM_mo hK hw) hl.1 ⟨Nat.zero_le _, Nat.zero_le _⟩ rfl rfl (Nat.le_of_ble_eq_true rfl) dX10_laySights_22 (fun r22 _ H locs h hw => ?_)
      refine lv_if_eq (tgt := 36) hx hb dX10_laySights_25 (by decide) (fun hc => ?_) (fun hc => ?_)
      · replace h := h.1 hc
        refine lv_iconst (v := 0) hx hb dX10_laySights_36 (by decide) ?_
        refine tM_mo_sights hx hb hK hw h.1 dX10_laySights_37 (fun H locs hw => ?_)
        replace h := h.2
        refine lv_iinc (v := (x1 + (1 : Int32))) (lv' := [(1, .int (x1 + (1 : Int32))), (0, .ref (ad 0))]) hx hb dX10_laySights_38 hl (k := 1) rfl rfl (by decide) rfl (fun ls hl => ?_)
        refine lv_goto (tgt := 2) hx hb dX10_laySights_41 (by decide) ?_
        exact ih _ _ h _ _ _ hw (lv_sub hl [1, 0] rfl)
      · replace h := h.2 hc
        refine lv_aload_n hx hb dX10_laySights_28 rfl (lv_at hl 0 rfl) ?_
        refine lv_iload_n hx hb dX10_laySights_29 rfl (lv_at hl 1 rfl) ?_
        refine cV_i (b := (ad 0)) (As := [.int x1]) (rest := [.int x1, .ref (ad 6)]) ⟨hx, hb, hml, hown, hts⟩ hK hw (c_mo_sightsFrom x1 h) (cwV 1 hts (gd_RX10_131 hB) rfl rfl rfl (by decide +kernel) ⟨Nat.le_of_ble_eq_true rfl, Nat.le_of_ble_eq_true rfl⟩) (rM_mo hK hw) hl.1 ⟨Nat.zero_le _, Nat.zero_le _⟩ rfl rfl (Nat.le_of_ble_eq_true rfl) dX10_laySights_30 (fun r30 _ H locs h hw => ?_)
        refine lv_goto (tgt := 37) hx hb dX10_laySights_33 (by decide) ?_
        refine tM_mo_sights hx hb hK hw h.1 dX10_laySights_37 (fun H locs hw => ?_)
        replace h := h.2
        refine lv_iinc (v := (x1 + (1 : Int32))) (lv' := [(1, .int (x1 + (1 : Int32))), (0, .ref (ad 0))]) hx hb dX10_laySights_38 hl (k := 1) rfl rfl (by decide) rfl (fun ls hl => ?_)
        refine lv_goto (tgt := 2) hx hb dX10_laySights_41 (by decide) ?_
        exact ih _ _ h _ _ _ hw (lv_sub hl [1, 0] rfl)
  unfold P_mo_laySights at h
  have he : entryFrame m args 2 = entryFrame m ([.ref (ad 0)] : List Value).toArray 2 := by rw [hav]
  refine W.eq he ?_
  have hl := lv_entry ([.ref (ad 0)]) (n := 2) (Nat.le_of_ble_eq_true rfl)
  rw [lg_entry_eq]
  generalize (lg_sl ([.ref (ad 0)]) ++ List.replicate (2 - (lg_sl ([.ref (ad 0)])).length) Slot.unset).toArray = ls at hl ⊢
  have hl : lv_has ls 2 [(0, .ref (ad 0))] := hl
  refine lv_iconst (v := 0) hx hb dX10_laySights_0 (by decide) ?_
  refine lv_istore_n (lv' := [(1, .int (0 : Int32)), (0, .ref (ad 0))]) hx hb dX10_laySights_1 rfl hl (by decide) rfl (fun ls hl => ?_)
  obtain ⟨n2, h⟩ := h
  exact J2  n2 _ _ h _ _ _ hw (lv_sub hl [1, 0] rfl)
def rm_mo_layPosts : Room := { frames := 6, cells := 0, slots := 0, locals := 149 }
set_option maxHeartbeats 4000000 in
set_option maxRecDepth 100000 in
theorem c_mo_layPosts {l : Launch} {D : va_G} {cI cL cZ : ClassId} {mx my : Nat} {A : Nat → Prop} {ad : Nat → Nat} {mo_wide mo_tall mo_law mo_range mo_pictures mo_postMany : Int32} {mo_kind mo_queue mo_far mo_pictureCell mo_facing mo_sights mo_fewest mo_posts mo_left mo_roundMany mo_round mo_shift mo_thief mo_danger mo_old : Nat → Int32}  {Q : (Nat → Int32) → (Nat → Int32) → (Nat → Int32) → Int32 → Prop} (h : P_mo_layPosts mo_wide mo_tall mo_kind mo_law mo_range mo_pictures mo_pictureCell mo_facing mo_sights mo_fewest mo_posts mo_postMany Q) : Met l yX10_layPosts wsX10_layPosts rm_mo_layPosts (va_Pc [.ref (ad 0)] (WC D cI cL cZ mx my A (wdM cI cL cZ ad mo_wide mo_tall mo_kind mo_law mo_range mo_queue mo_far mo_pictures mo_pictureCell mo_facing mo_sights mo_fewest mo_posts mo_postMany mo_left mo_roundMany mo_round mo_shift mo_thief mo_danger mo_old))) (va_Qv (fun (u : (Nat → Int32) × (Nat → Int32) × (Nat → Int32) × Int32) => Q u.1 u.2.1 u.2.2.1 u.2.2.2) (fun (u : (Nat → Int32) × (Nat → Int32) × (Nat → Int32) × Int32) t => PW D A (wdM cI cL cZ ad mo_wide mo_tall mo_kind mo_law mo_range mo_queue mo_far mo_pictures mo_pictureCell mo_facing u.1 u.2.1 u.2.2.1 u.2.2.2 mo_left mo_roundMany mo_round mo_shift mo_thief mo_danger mo_old) t.heap) A) 0 0 A := by
  refine Met.ofW (cc := cX10_layPosts) (maxL := 7) (ret := none) (by decide) rfl ?_
  intro p e s m args below meth c s₁ B hml hv
  obtain ⟨hav, hP0, hD0, hK⟩ := hv
  have hx := B.exec
  have hb := B.bytes
  have hr := B.returns
  have hts := atoms_spec (ws := wsX10_layPosts) B.pre
  have hown : s.vm.findClass RX10 = some m.cls := findClass_of_methodNamed B.named
  have hlocks := B.notSynchronized
  have hB : ∀ w ∈ BIG, w ∈ wsX10_layPosts := fun _ h => List.mem_cons_of_mem _ h
  have hin : ∀ w ∈ wsX100, w ∈ wsX10_layPosts := fun w h => hB w (inB_X10 w h)
  have lk33 := hts _ (hB _ m_941)
  have lk36 := hts _ (hB _ m_942)
  have lk39 := hts _ (hB _ m_943)
  have lk68 := hts _ (hB _ m_931)
  have lk71 := hts _ (hB _ m_932)
  have lk74 := hts _ (hB _ m_938)
  have lk138 := hts _ (hB _ m_944)
  obtain ⟨Z, hZ⟩ : ∃ Z : State → Prop, Z = MQ below (va_Qv (fun (u : (Nat → Int32) × (Nat → Int32) × (Nat → Int32) × Int32) => Q u.1 u.2.1 u.2.2.1 u.2.2.2) (fun (u : (Nat → Int32) × (Nat → Int32) × (Nat → Int32) × Int32) t => PW D A (wdM cI cL cZ ad mo_wide mo_tall mo_kind mo_law mo_range mo_queue mo_far mo_pictures mo_pictureCell mo_facing u.1 u.2.1 u.2.2.1 u.2.2.2 mo_left mo_roundMany mo_round mo_shift mo_thief mo_danger mo_old) t.heap) A) args s 0 0 A := ⟨_, rfl⟩
  rw [← hZ]
  have hw : SW D A s.heap (wdM cI cL cZ ad mo_wide mo_tall mo_kind mo_law mo_range mo_queue mo_far mo_pictures mo_pictureCell mo_facing mo_sights mo_fewest mo_posts mo_postMany mo_left mo_roundMany mo_round mo_shift mo_thief mo_danger mo_old) s.heap [] := ⟨hP0, hD0, va_S.rf⟩
  clear hP0 hD0 B
  have J275 : ∀ (_ : True) (k185 : (Nat → Int32) → (Nat → Int32) → (Nat → Int32) → Int32 → Int32 → Int32 → Int32 → Prop) (hk185 : ∀ (mo_sights : (Nat → Int32)) (mo_fewest : (Nat → Int32)) (mo_posts : (Nat → Int32)) (mo_postMany : Int32) (x1 : Int32) (x3 : Int32) (x4 : Int32) , k185 mo_sights mo_fewest mo_posts mo_postMany x1 x3 x4 → ∀ (H : Heap) (locs : List Loc) (ls : Array Slot), SW D A s.heap (wdM cI cL cZ ad mo_wide mo_tall mo_kind mo_law mo_range mo_queue mo_far mo_pictures mo_pictureCell mo_facing mo_sights mo_fewest mo_posts mo_postMany mo_left mo_roundMany mo_round mo_shift mo_thief mo_danger mo_old) H locs → lv_has ls 7 [(0, .ref (ad 0)), (1, .int x1), (3, .int x3), (4, .int x4)] → W p l e (headSpec wsX10_layPosts rm_mo_layPosts).room s m args below meth c H locs 0 0 Z (F0 m 185 ls [])) (mo_sights : (Nat → Int32)) (mo_fewest : (Nat → Int32)) (mo_posts : (Nat → Int32)) (mo_postMany : Int32) (x1 : Int32) (x3 : Int32) (x4 : Int32) (y0 : Int32) , B_mo_layPosts_275 mo_kind Q k185 mo_sights mo_fewest mo_posts mo_postMany x1 x3 x4 y0 → ∀ (H : Heap) (locs : List Loc) (ls : Array Slot), SW D A s.heap (wdM cI cL cZ ad mo_wide mo_tall mo_kind mo_law mo_range mo_queue mo_far mo_pictures mo_pictureCell mo_facing mo_sights mo_fewest mo_posts mo_postMany mo_left mo_roundMany mo_round mo_shift mo_thief mo_danger mo_old) H locs → lv_has ls 7 [(0, .ref (ad 0)), (1, .int x1), (3, .int x3), (4, .int x4)] → W p l e (headSpec wsX10_layPosts rm_mo_layPosts).room s m args below meth c H locs 0 0 Z (F0 m 275 ls [.int y0]) := by
    intro _ k185 hk185 mo_sights mo_fewest mo_posts mo_postMany x1 x3 x4 y0 h H locs ls hw hl
    unfold B_mo_layPosts_275 at h
    refine lv_istore (lv' := [(5, .int y0), (0, .ref (ad 0)), (1, .int x1), (3, .int x3), (4, .int x4)]) hx hb dX10_layPosts_275 hl (by decide) rfl (fun ls hl => ?_)
    refine lv_iload hx hb dX10_layPosts_277 (lv_at hl 0 rfl) ?_
    refine lv_if_eq (tgt := 313) hx hb dX10_layPosts_279 (by decide) (fun hc => ?_) (fun hc => ?_)
    · replace h := h.1 hc
      refine lv_iinc (v := (x4 + (1 : Int32))) (lv' := [(4, .int (x4 + (1 : Int32))), (5, .int y0), (0, .ref (ad 0)), (1, .int x1), (3, .int x3)]) hx hb dX10_layPosts_313 hl (k := 4) rfl rfl (by decide) rfl (fun ls hl => ?_)
      refine lv_goto (tgt := 185) hx hb dX10_layPosts_316 (by decide) ?_
      exact hk185 _ _ _ _ _ _ _ h _ _ _ hw (lv_sub hl [2, 3, 4, 0] rfl)
    · replace h := h.2 hc
      refine lv_aload_n hx hb dX10_layPosts_282 rfl (lv_at hl 1 rfl) ?_
      refine gM_mo_posts hx hb hts hin hown hK hw lk39 dX10_layPosts_283 ?_
      refine lv_aload_n hx hb dX10_layPosts_286 rfl (lv_at hl 1 rfl) ?_
      refine gM_mo_postMany hx hb hts hin hown hK hw lk138 dX10_layPosts_287 ?_
      refine lv_iload hx hb dX10_layPosts_290 (lv_at hl 4 rfl) ?_
      refine tM_mo_posts hx hb hK hw h.1 dX10_layPosts_292 (fun H locs hw => ?_)
      replace h := h.2
      refine lv_aload_n hx hb dX10_layPosts_293 rfl (lv_at hl 1 rfl) ?_
      refine lv_dup hx hb dX10_layPosts_294 rfl ?_
      refine gM_mo_postMany hx hb hts hin hown hK hw lk138 dX10_layPosts_295 ?_
      refine lv_iconst (v := 1) hx hb dX10_layPosts_298 (by decide) ?_
      refine lv_iadd hx hb dX10_layPosts_299 ?_
      refine sM_mo_postMany hx hb hts hin hown hK hw lk138 dX10_layPosts_300 (fun H locs hw => ?_)
      refine lv_iload_n hx hb dX10_layPosts_303 rfl (lv_at hl 3 rfl) ?_
      refine lv_aload_n hx hb dX10_layPosts_304 rfl (lv_at hl 1 rfl) ?_
      refine gM_mo_sights hx hb hts hin hown hK hw lk33 dX10_layPosts_305 ?_
      refine lv_iload hx hb dX10_layPosts_308 (lv_at hl 4 rfl) ?_
      refine aM_mo_sights hx hb hK hw h.1 dX10_layPosts_310 ?_
      replace h := h.2
      refine lv_ior hx hb dX10_layPosts_311 ?_
      refine lv_topi (fun x3_312 ex3_312 => ?_)
      replace h := h x3_312 ex3_312
      refine lv_istore_n (lv' := [(3, .int x3_312), (5, .int y0), (0, .ref (ad 0)), (1, .int x1), (4, .int x4)]) hx hb dX10_layPosts_312 rfl hl (by decide) rfl (fun ls hl => ?_)
      refine lv_iinc (v := (x4 + (1 : Int32))) (lv' := [(4, .int (x4 + (1 : Int32))), (3, .int x3_312), (5, .int y0), (0, .ref (ad 0)), (1, .int x1)]) hx hb dX10_layPosts_313 hl (k := 4) rfl rfl (by decide) rfl (fun ls hl => ?_)
      refine lv_goto (tgt := 185) hx hb dX10_layPosts_316 (by decide) ?_
      exact hk185 _ _ _ _ _ _ _ h _ _ _ hw (lv_sub hl [3, 4, 1, 0] rfl)
  have J185 : ∀ (n : Nat) (mo_sights : (Nat → Int32)) (mo_fewest : (Nat → Int32)) (mo_posts : (Nat → Int32)) (mo_postMany : Int32) (x1 : Int32) (x3 : Int32) (x4 : Int32) , L_mo_layPosts_185 mo_kind Q n mo_sights mo_fewest mo_posts mo_postMany x1 x3 x4 → ∀ (H : Heap) (locs : List Loc) (ls : Array Slot), SW D A s.heap (wdM cI cL cZ ad mo_wide mo_tall mo_kind mo_law mo_range mo_queue mo_far mo_pictures mo_pictureCell mo_facing mo_sights mo_fewest mo_posts mo_postMany mo_left mo_roundMany mo_round mo_shift mo_thief mo_danger mo_old) H locs → lv_has ls 7 [(0, .ref (ad 0)), (1, .int x1), (3, .int x3), (4, .int x4)] → W p l e (headSpec wsX10_layPosts rm_mo_layPosts).room s m args below meth c H locs 0 0 Z (F0 m 185 ls []) := by
    intro  n
    induction n with
    | zero => intro mo_sights mo_fewest mo_posts mo_postMany x1 x3 x4 h; exact h.elim
    | succ n ih =>
    intro mo_sights mo_fewest mo_posts mo_postMany x1 x3 x4 h H locs ls hw hl
    unfold L_mo_layPosts_185 at h
    refine lv_iload hx hb dX10_layPosts_185 (lv_at hl 3 rfl) ?_
    refine lv_iload_n hx hb dX10_layPosts_187 rfl (lv_at hl 1 rfl) ?_
    refine lv_icmp_ge (tgt := 319) hx hb dX10_layPosts_188 (by decide) (fun hc => ?_) (fun hc => ?_)
    · replace h := h.1 hc
      rw [hZ]
      exact rt_v (mo_sights, mo_fewest, mo_posts, mo_postMany) hx hb hr hlocks hw h dX10_layPosts_319
    · replace h := h.2 hc
      refine lv_aload_n hx hb dX10_layPosts_191 rfl (lv_at hl 0 rfl) ?_
      refine gM_mo_fewest hx hb hts hin hown hK hw lk36 dX10_layPosts_192 ?_
      refine lv_iconst (v := 0) hx hb dX10_layPosts_195 (by decide) ?_
      refine aM_mo_fewest hx hb hK hw h.1 dX10_layPosts_196 ?_
      replace h := h.2
      refine lv_ldc (v := 1000000) hx hb hown (hts _ (hB _ m_1120)) dX10_layPosts_197 ?_
      refine lv_icmp_ge (tgt := 319) hx hb dX10_layPosts_199 (by decide) (fun hc => ?_) (fun hc => ?_)
      · replace h := h.1 hc
        rw [hZ]
        exact rt_v (mo_sights, mo_fewest, mo_posts, mo_postMany) hx hb hr hlocks hw h dX10_layPosts_319
      · replace h := h.2 hc
        refine lv_aload_n hx hb dX10_layPosts_202 rfl (lv_at hl 0 rfl) ?_
        refine lv_iload hx hb dX10_layPosts_203 (lv_at hl 3 rfl) ?_
        refine cV_i (b := (ad 0)) (As := [.int x4]) (rest := []) ⟨hx, hb, hml, hown, hts⟩ hK hw (c_mo_stands x4 h) (cwV 1 hts (gd_RX10_91 hB) rfl rfl rfl (by decide +kernel) ⟨Nat.le_of_ble_eq_true rfl, Nat.le_of_ble_eq_true rfl⟩) (rM_mo hK hw) hl.1 ⟨Nat.zero_le _, Nat.zero_le _⟩ rfl rfl (Nat.le_of_ble_eq_true rfl) dX10_layPosts_205 (fun r205 _ H locs h hw => ?_)
        refine lv_if_eq (tgt := 274) hx hb dX10_layPosts_208 (by decide) (fun hc => ?_) (fun hc => ?_)
        · replace h := h.1 hc
          refine lv_iconst (v := 0) hx hb dX10_layPosts_274 (by decide) ?_
          exact J275 trivial (L_mo_layPosts_185 mo_kind Q n) ih _ _ _ _ _ _ _ _ h _ _ _ hw (lv_sub hl [0, 1, 2, 3] rfl)
        · replace h := h.2 hc
          refine lv_aload_n hx hb dX10_layPosts_211 rfl (lv_at hl 0 rfl) ?_
          refine gM_mo_fewest hx hb hts hin hown hK hw lk36 dX10_layPosts_212 ?_
          refine lv_sipush (v := 256) hx hb dX10_layPosts_215 (by decide) ?_
          refine lv_iload hx hb dX10_layPosts_218 (lv_at hl 3 rfl) ?_
          refine lv_imul hx hb dX10_layPosts_220 ?_
          refine lv_iload_n hx hb dX10_layPosts_221 rfl (lv_at hl 2 rfl) ?_
          refine lv_iadd hx hb dX10_layPosts_222 ?_
          refine aM_mo_fewest hx hb hK hw h.1 dX10_layPosts_223 ?_
          replace h := h.2
          refine lv_if_le (tgt := 274) hx hb dX10_layPosts_224 (by decide) (fun hc => ?_) (fun hc => ?_)
          · replace h := h.1 hc
            refine lv_iconst (v := 0) hx hb dX10_layPosts_274 (by decide) ?_
            exact J275 trivial (L_mo_layPosts_185 mo_kind Q n) ih _ _ _ _ _ _ _ _ h _ _ _ hw (lv_sub hl [0, 1, 2, 3] rfl)
          · replace h := h.2 hc
            refine lv_iconst (v := 1) hx hb dX10_layPosts_227 (by decide) ?_
            refine lv_aload_n hx hb dX10_layPosts_228 rfl (lv_at hl 0 rfl) ?_
            refine gM_mo_fewest hx hb hts hin hown hK hw lk36 dX10_layPosts_229 ?_
            refine lv_sipush (v := 256) hx hb dX10_layPosts_232 (by decide) ?_
            refine lv_iload hx hb dX10_layPosts_235 (lv_at hl 3 rfl) ?_
            refine lv_imul hx hb dX10_layPosts_237 ?_
            refine lv_sipush (v := 256) hx hb dX10_layPosts_238 (by decide) ?_
            refine lv_iadd hx hb dX10_layPosts_241 ?_
            refine lv_iload_n hx hb dX10_layPosts_242 rfl (lv_at hl 2 rfl) ?_
            refine lv_aload_n hx hb dX10_layPosts_243 rfl (lv_at hl 0 rfl) ?_
            refine gM_mo_sights hx hb hts hin hown hK hw lk33 dX10_layPosts_244 ?_
            refine lv_iload hx hb dX10_layPosts_247 (lv_at hl 3 rfl) ?_
            refine aM_mo_sights hx hb hK hw h.1 dX10_layPosts_249 ?_
            replace h := h.2
            refine lv_ior hx hb dX10_layPosts_250 ?_
            refine lv_iadd hx hb dX10_layPosts_251 ?_
            refine aM_mo_fewest hx hb hK hw h.1 dX10_layPosts_252 ?_
            replace h := h.2
            refine lv_iadd hx hb dX10_layPosts_253 ?_
            refine lv_aload_n hx hb dX10_layPosts_254 rfl (lv_at hl 0 rfl) ?_
            refine gM_mo_fewest hx hb hts hin hown hK hw lk36 dX10_layPosts_255 ?_
            refine lv_sipush (v := 256) hx hb dX10_layPosts_258 (by decide) ?_
            refine lv_iload hx hb dX10_layPosts_261 (lv_at hl 3 rfl) ?_
            refine lv_imul hx hb dX10_layPosts_263 ?_
            refine lv_iload_n hx hb dX10_layPosts_264 rfl (lv_at hl 2 rfl) ?_
            refine lv_iadd hx hb dX10_layPosts_265 ?_
            refine aM_mo_fewest hx hb hK hw h.1 dX10_layPosts_266 ?_
            replace h := h.2
            refine lv_icmp_ne (tgt := 274) hx hb dX10_layPosts_267 (by decide) (fun hc => ?_) (fun hc => ?_)
            · replace h := h.2 hc
              refine lv_iconst (v := 0) hx hb dX10_layPosts_274 (by decide) ?_
              exact J275 trivial (L_mo_layPosts_185 mo_kind Q n) ih _ _ _ _ _ _ _ _ h _ _ _ hw (lv_sub hl [0, 1, 2, 3] rfl)
            · replace h := h.1 hc
              refine lv_iconst (v := 1) hx hb dX10_layPosts_270 (by decide) ?_
              refine lv_goto (tgt := 275) hx hb dX10_layPosts_271 (by decide) ?_
              exact J275 trivial (L_mo_layPosts_185 mo_kind Q n) ih _ _ _ _ _ _ _ _ h _ _ _ hw (lv_sub hl [0, 1, 2, 3] rfl)
  have J175 : ∀ (_ : True) (mo_sights : (Nat → Int32)) (mo_fewest : (Nat → Int32)) (mo_posts : (Nat → Int32)) (mo_postMany : Int32) (x1 : Int32) , B_mo_layPosts_175 mo_kind Q mo_sights mo_fewest mo_posts mo_postMany x1 → ∀ (H : Heap) (locs : List Loc) (ls : Array Slot), SW D A s.heap (wdM cI cL cZ ad mo_wide mo_tall mo_kind mo_law mo_range mo_queue mo_far mo_pictures mo_pictureCell mo_facing mo_sights mo_fewest mo_posts mo_postMany mo_left mo_roundMany mo_round mo_shift mo_thief mo_danger mo_old) H locs → lv_has ls 7 [(0, .ref (ad 0)), (1, .int x1)] → W p l e (headSpec wsX10_layPosts rm_mo_layPosts).room s m args below meth c H locs 0 0 Z (F0 m 175 ls []) := by
    intro _  mo_sights mo_fewest mo_posts mo_postMany x1 h H locs ls hw hl
    unfold B_mo_layPosts_175 at h
    refine lv_aload_n hx hb dX10_layPosts_175 rfl (lv_at hl 0 rfl) ?_
    refine lv_iconst (v := 0) hx hb dX10_layPosts_176 (by decide) ?_
    refine sM_mo_postMany hx hb hts hin hown hK hw lk138 dX10_layPosts_177 (fun H locs hw => ?_)
    refine lv_iconst (v := 0) hx hb dX10_layPosts_180 (by decide) ?_
    refine lv_istore_n (lv' := [(3, .int (0 : Int32)), (0, .ref (ad 0)), (1, .int x1)]) hx hb dX10_layPosts_181 rfl hl (by decide) rfl (fun ls hl => ?_)
    refine lv_iconst (v := 0) hx hb dX10_layPosts_182 (by decide) ?_
    refine lv_istore (lv' := [(4, .int (0 : Int32)), (3, .int (0 : Int32)), (0, .ref (ad 0)), (1, .int x1)]) hx hb dX10_layPosts_183 hl (by decide) rfl (fun ls hl => ?_)
    obtain ⟨n185, h⟩ := h
    exact J185  n185 _ _ _ _ _ _ _ h _ _ _ hw (lv_sub hl [2, 3, 1, 0] rfl)
  have J134 : ∀ (_ : True) (k70 : (Nat → Int32) → (Nat → Int32) → (Nat → Int32) → Int32 → Int32 → Int32 → Int32 → Int32 → Prop) (hk70 : ∀ (mo_sights : (Nat → Int32)) (mo_fewest : (Nat → Int32)) (mo_posts : (Nat → Int32)) (mo_postMany : Int32) (x1 : Int32) (x2 : Int32) (x3 : Int32) (x4 : Int32) , k70 mo_sights mo_fewest mo_posts mo_postMany x1 x2 x3 x4 → ∀ (H : Heap) (locs : List Loc) (ls : Array Slot), SW D A s.heap (wdM cI cL cZ ad mo_wide mo_tall mo_kind mo_law mo_range mo_queue mo_far mo_pictures mo_pictureCell mo_facing mo_sights mo_fewest mo_posts mo_postMany mo_left mo_roundMany mo_round mo_shift mo_thief mo_danger mo_old) H locs → lv_has ls 7 [(0, .ref (ad 0)), (1, .int x1), (2, .int x2), (3, .int x3), (4, .int x4)] → W p l e (headSpec wsX10_layPosts rm_mo_layPosts).room s m args below meth c H locs 0 0 Z (F0 m 70 ls [])) (mo_sights : (Nat → Int32)) (mo_fewest : (Nat → Int32)) (mo_posts : (Nat → Int32)) (mo_postMany : Int32) (x1 : Int32) (x2 : Int32) (x3 : Int32) (x4 : Int32) (x5 : Int32) (y0 : Int32) , B_mo_layPosts_134 mo_kind Q k70 mo_sights mo_fewest mo_posts mo_postMany x1 x2 x3 x4 x5 y0 → ∀ (H : Heap) (locs : List Loc) (ls : Array Slot), SW D A s.heap (wdM cI cL cZ ad mo_wide mo_tall mo_kind mo_law mo_range mo_queue mo_far mo_pictures mo_pictureCell mo_facing mo_sights mo_fewest mo_posts mo_postMany mo_left mo_roundMany mo_round mo_shift mo_thief mo_danger mo_old) H locs → lv_has ls 7 [(0, .ref (ad 0)), (1, .int x1), (2, .int x2), (3, .int x3), (4, .int x4), (5, .int x5)] → W p l e (headSpec wsX10_layPosts rm_mo_layPosts).room s m args below meth c H locs 0 0 Z (F0 m 134 ls [.int y0]) := by
    intro _ k70 hk70 mo_sights mo_fewest mo_posts mo_postMany x1 x2 x3 x4 x5 y0 h H locs ls hw hl
    unfold B_mo_layPosts_134 at h
    refine lv_istore (lv' := [(6, .int y0), (0, .ref (ad 0)), (1, .int x1), (2, .int x2), (3, .int x3), (4, .int x4), (5, .int x5)]) hx hb dX10_layPosts_134 hl (by decide) rfl (fun ls hl => ?_)
    refine lv_aload_n hx hb dX10_layPosts_136 rfl (lv_at hl 1 rfl) ?_
    refine gM_mo_fewest hx hb hts hin hown hK hw lk36 dX10_layPosts_137 ?_
    refine lv_sipush (v := 256) hx hb dX10_layPosts_140 (by decide) ?_
    refine lv_iload_n hx hb dX10_layPosts_143 rfl (lv_at hl 4 rfl) ?_
    refine lv_imul hx hb dX10_layPosts_144 ?_
    refine lv_iload hx hb dX10_layPosts_145 (lv_at hl 5 rfl) ?_
    refine lv_iadd hx hb dX10_layPosts_147 ?_
    refine lv_iload hx hb dX10_layPosts_148 (lv_at hl 0 rfl) ?_
    refine lv_iload hx hb dX10_layPosts_150 (lv_at hl 6 rfl) ?_
    refine lv_icmp_ge (tgt := 160) hx hb dX10_layPosts_152 (by decide) (fun hc => ?_) (fun hc => ?_)
    · replace h := h.1 hc
      refine lv_iload hx hb dX10_layPosts_160 (lv_at hl 6 rfl) ?_
      refine tM_mo_fewest hx hb hK hw h.1 dX10_layPosts_162 (fun H locs hw => ?_)
      replace h := h.2
      refine lv_iinc (v := (x4 + (1 : Int32))) (lv' := [(4, .int (x4 + (1 : Int32))), (6, .int y0), (0, .ref (ad 0)), (1, .int x1), (2, .int x2), (3, .int x3), (5, .int x5)]) hx hb dX10_layPosts_163 hl (k := 5) rfl rfl (by decide) rfl (fun ls hl => ?_)
      refine lv_goto (tgt := 70) hx hb dX10_layPosts_166 (by decide) ?_
      exact hk70 _ _ _ _ _ _ _ _ h _ _ _ hw (lv_sub hl [2, 3, 4, 5, 0] rfl)
    · replace h := h.2 hc
      refine lv_iload hx hb dX10_layPosts_155 (lv_at hl 0 rfl) ?_
      refine lv_goto (tgt := 162) hx hb dX10_layPosts_157 (by decide) ?_
      refine tM_mo_fewest hx hb hK hw h.1 dX10_layPosts_162 (fun H locs hw => ?_)
      replace h := h.2
      refine lv_iinc (v := (x4 + (1 : Int32))) (lv' := [(4, .int (x4 + (1 : Int32))), (6, .int y0), (0, .ref (ad 0)), (1, .int x1), (2, .int x2), (3, .int x3), (5, .int x5)]) hx hb dX10_layPosts_163 hl (k := 5) rfl rfl (by decide) rfl (fun ls hl => ?_)
      refine lv_goto (tgt := 70) hx hb dX10_layPosts_166 (by decide) ?_
      exact hk70 _ _ _ _ _ _ _ _ h _ _ _ hw (lv_sub hl [2, 3, 4, 5, 0] rfl)
  have J70 : ∀ (k63 : (Nat → Int32) → (Nat → Int32) → (Nat → Int32) → Int32 → Int32 → Int32 → Int32 → Prop) (hk63 : ∀ (mo_sights : (Nat → Int32)) (mo_fewest : (Nat → Int32)) (mo_posts : (Nat → Int32)) (mo_postMany : Int32) (x1 : Int32) (x2 : Int32) (x3 : Int32) , k63 mo_sights mo_fewest mo_posts mo_postMany x1 x2 x3 → ∀ (H : Heap) (locs : List Loc) (ls : Array Slot), SW D A s.heap (wdM cI cL cZ ad mo_wide mo_tall mo_kind mo_law mo_range mo_queue mo_far mo_pictures mo_pictureCell mo_facing mo_sights mo_fewest mo_posts mo_postMany mo_left mo_roundMany mo_round mo_shift mo_thief mo_danger mo_old) H locs → lv_has ls 7 [(0, .ref (ad 0)), (1, .int x1), (2, .int x2), (3, .int x3)] → W p l e (headSpec wsX10_layPosts rm_mo_layPosts).room s m args below meth c H locs 0 0 Z (F0 m 63 ls [])) (n : Nat) (mo_sights : (Nat → Int32)) (mo_fewest : (Nat → Int32)) (mo_posts : (Nat → Int32)) (mo_postMany : Int32) (x1 : Int32) (x2 : Int32) (x3 : Int32) (x4 : Int32) , L_mo_layPosts_70 mo_kind Q k63 n mo_sights mo_fewest mo_posts mo_postMany x1 x2 x3 x4 → ∀ (H : Heap) (locs : List Loc) (ls : Array Slot), SW D A s.heap (wdM cI cL cZ ad mo_wide mo_tall mo_kind mo_law mo_range mo_queue mo_far mo_pictures mo_pictureCell mo_facing mo_sights mo_fewest mo_posts mo_postMany mo_left mo_roundMany mo_round mo_shift mo_thief mo_danger mo_old) H locs → lv_has ls 7 [(0, .ref (ad 0)), (1, .int x1), (2, .int x2), (3, .int x3), (4, .int x4)] → W p l e (headSpec wsX10_layPosts rm_mo_layPosts).room s m args below meth c H locs 0 0 Z (F0 m 70 ls []) := by
    intro k63 hk63 n
    induction n with
    | zero => intro mo_sights mo_fewest mo_posts mo_postMany x1 x2 x3 x4 h; exact h.elim
    | succ n ih =>
    intro mo_sights mo_fewest mo_posts mo_postMany x1 x2 x3 x4 h H locs ls hw hl
    unfold L_mo_layPosts_70 at h
    refine lv_iload hx hb dX10_layPosts_70 (lv_at hl 4 rfl) ?_
    refine lv_iload_n hx hb dX10_layPosts_72 rfl (lv_at hl 2 rfl) ?_
    refine lv_icmp_ge (tgt := 169) hx hb dX10_layPosts_73 (by decide) (fun hc => ?_) (fun hc => ?_)
    · replace h := h.1 hc
      refine lv_iinc (v := (x3 + (-1 : Int32))) (lv' := [(3, .int (x3 + (-1 : Int32))), (0, .ref (ad 0)), (1, .int x1), (2, .int x2), (4, .int x4)]) hx hb dX10_layPosts_169 hl (k := 3) rfl rfl (by decide) rfl (fun ls hl => ?_)
      refine lv_goto (tgt := 63) hx hb dX10_layPosts_172 (by decide) ?_
      exact hk63 _ _ _ _ _ _ _ h _ _ _ hw (lv_sub hl [1, 2, 3, 0] rfl)
    · replace h := h.2 hc
      refine lv_aload_n hx hb dX10_layPosts_76 rfl (lv_at hl 0 rfl) ?_
      refine gM_mo_fewest hx hb hts hin hown hK hw lk36 dX10_layPosts_77 ?_
      refine lv_sipush (v := 256) hx hb dX10_layPosts_80 (by decide) ?_
      refine lv_iload_n hx hb dX10_layPosts_83 rfl (lv_at hl 3 rfl) ?_
      refine lv_imul hx hb dX10_layPosts_84 ?_
      refine lv_sipush (v := 256) hx hb dX10_layPosts_85 (by decide) ?_
      refine lv_iadd hx hb dX10_layPosts_88 ?_
      refine lv_iload hx hb dX10_layPosts_89 (lv_at hl 4 rfl) ?_
      refine lv_iadd hx hb dX10_layPosts_91 ?_
      refine aM_mo_fewest hx hb hK hw h.1 dX10_layPosts_92 ?_
      replace h := h.2
      refine lv_topi (fun x5_93 ex5_93 => ?_)
      replace h := h x5_93 ex5_93
      refine lv_istore (lv' := [(5, .int x5_93), (0, .ref (ad 0)), (1, .int x1), (2, .int x2), (3, .int x3), (4, .int x4)]) hx hb dX10_layPosts_93 hl (by decide) rfl (fun ls hl => ?_)
      refine lv_aload_n hx hb dX10_layPosts_95 rfl (lv_at hl 1 rfl) ?_
      refine lv_iload_n hx hb dX10_layPosts_96 rfl (lv_at hl 4 rfl) ?_
      refine cV_i (b := (ad 0)) (As := [.int x3]) (rest := []) ⟨hx, hb, hml, hown, hts⟩ hK hw (c_mo_stands x3 h) (cwV 1 hts (gd_RX10_91 hB) rfl rfl rfl (by decide +kernel) ⟨Nat.le_of_ble_eq_true rfl, Nat.le_of_ble_eq_true rfl⟩) (rM_mo hK hw) hl.1 ⟨Nat.zero_le _, Nat.zero_le _⟩ rfl rfl (Nat.le_of_ble_eq_true rfl) dX10_layPosts_97 (fun r97 _ H locs h hw => ?_)
      refine lv_if_eq (tgt := 132) hx hb dX10_layPosts_100 (by decide) (fun hc => ?_) (fun hc => ?_)
      · replace h := h.1 hc
        refine lv_ldc (v := 1000000) hx hb hown (hts _ (hB _ m_1120)) dX10_layPosts_132 ?_
        exact J134 trivial (L_mo_layPosts_70 mo_kind Q k63 n) ih _ _ _ _ _ _ _ _ _ _ h _ _ _ hw (lv_sub hl [1, 2, 3, 4, 5, 0] rfl)
      · replace h := h.2 hc
        refine lv_iconst (v := 1) hx hb dX10_layPosts_103 (by decide) ?_
        refine lv_aload_n hx hb dX10_layPosts_104 rfl (lv_at hl 1 rfl) ?_
        refine gM_mo_fewest hx hb hts hin hown hK hw lk36 dX10_layPosts_105 ?_
        refine lv_sipush (v := 256) hx hb dX10_layPosts_108 (by decide) ?_
        refine lv_iload_n hx hb dX10_layPosts_111 rfl (lv_at hl 4 rfl) ?_
        refine lv_imul hx hb dX10_layPosts_112 ?_
        refine lv_sipush (v := 256) hx hb dX10_layPosts_113 (by decide) ?_
        refine lv_iadd hx hb dX10_layPosts_116 ?_
        refine lv_iload hx hb dX10_layPosts_117 (lv_at hl 5 rfl) ?_
        refine lv_aload_n hx hb dX10_layPosts_119 rfl (lv_at hl 1 rfl) ?_
        refine gM_mo_sights hx hb hts hin hown hK hw lk33 dX10_layPosts_120 ?_
        refine lv_iload_n hx hb dX10_layPosts_123 rfl (lv_at hl 4 rfl) ?_
        refine aM_mo_sights hx hb hK hw h.1 dX10_layPosts_124 ?_
        replace h := h.2
        refine lv_ior hx hb dX10_layPosts_125 ?_
        refine lv_iadd hx hb dX10_layPosts_126 ?_
        refine aM_mo_fewest hx hb hK hw h.1 dX10_layPosts_127 ?_
        replace h := h.2
        refine lv_iadd hx hb dX10_layPosts_128 ?_
        refine lv_goto (tgt := 134) hx hb dX10_layPosts_129 (by decide) ?_
        exact J134 trivial (L_mo_layPosts_70 mo_kind Q k63 n) ih _ _ _ _ _ _ _ _ _ _ h _ _ _ hw (lv_sub hl [1, 2, 3, 4, 5, 0] rfl)
  have J63 : ∀ (n : Nat) (mo_sights : (Nat → Int32)) (mo_fewest : (Nat → Int32)) (mo_posts : (Nat → Int32)) (mo_postMany : Int32) (x1 : Int32) (x2 : Int32) (x3 : Int32) , L_mo_layPosts_63 mo_kind Q n mo_sights mo_fewest mo_posts mo_postMany x1 x2 x3 → ∀ (H : Heap) (locs : List Loc) (ls : Array Slot), SW D A s.heap (wdM cI cL cZ ad mo_wide mo_tall mo_kind mo_law mo_range mo_queue mo_far mo_pictures mo_pictureCell mo_facing mo_sights mo_fewest mo_posts mo_postMany mo_left mo_roundMany mo_round mo_shift mo_thief mo_danger mo_old) H locs → lv_has ls 7 [(0, .ref (ad 0)), (1, .int x1), (2, .int x2), (3, .int x3)] → W p l e (headSpec wsX10_layPosts rm_mo_layPosts).room s m args below meth c H locs 0 0 Z (F0 m 63 ls []) := by
    intro  n
    induction n with
    | zero => intro mo_sights mo_fewest mo_posts mo_postMany x1 x2 x3 h; exact h.elim
    | succ n ih =>
    intro mo_sights mo_fewest mo_posts mo_postMany x1 x2 x3 h H locs ls hw hl
    unfold L_mo_layPosts_63 at h
    refine lv_iload_n hx hb dX10_layPosts_63 rfl (lv_at hl 3 rfl) ?_
    refine lv_if_lt (tgt := 175) hx hb dX10_layPosts_64 (by decide) (fun hc => ?_) (fun hc => ?_)
    · replace h := h.1 hc
      exact J175 trivial  _ _ _ _ _ h _ _ _ hw (lv_sub hl [0, 1] rfl)
    · replace h := h.2 hc
      refine lv_iconst (v := 0) hx hb dX10_layPosts_67 (by decide) ?_
      refine lv_istore (lv' := [(4, .int (0 : Int32)), (0, .ref (ad 0)), (1, .int x1), (2, .int x2), (3, .int x3)]) hx hb dX10_layPosts_68 hl (by decide) rfl (fun ls hl => ?_)
      obtain ⟨n70, h⟩ := h
      exact J70 (L_mo_layPosts_63 mo_kind Q n) ih n70 _ _ _ _ _ _ _ _ h _ _ _ hw (lv_sub hl [1, 2, 3, 4, 0] rfl)
  have J23 : ∀ (n : Nat) (mo_sights : (Nat → Int32)) (mo_fewest : (Nat → Int32)) (mo_posts : (Nat → Int32)) (mo_postMany : Int32) (x1 : Int32) (x2 : Int32) (x3 : Int32) , L_mo_layPosts_23 mo_kind Q n mo_sights mo_fewest mo_posts mo_postMany x1 x2 x3 → ∀ (H : Heap) (locs : List Loc) (ls : Array Slot), SW D A s.heap (wdM cI cL cZ ad mo_wide mo_tall mo_kind mo_law mo_range mo_queue mo_far mo_pictures mo_pictureCell mo_facing mo_sights mo_fewest mo_posts mo_postMany mo_left mo_roundMany mo_round mo_shift mo_thief mo_danger mo_old) H locs → lv_has ls 7 [(0, .ref (ad 0)), (1, .int x1), (2, .int x2), (3, .int x3)] → W p l e (headSpec wsX10_layPosts rm_mo_layPosts).room s m args below meth c H locs 0 0 Z (F0 m 23 ls []) := by
    intro  n
    induction n with
    | zero => intro mo_sights mo_fewest mo_posts mo_postMany x1 x2 x3 h; exact h.elim
    | succ n ih =>
    intro mo_sights mo_fewest mo_posts mo_postMany x1 x2 x3 h H locs ls hw hl
    unfold L_mo_layPosts_23 at h
    refine lv_iload_n hx hb dX10_layPosts_23 rfl (lv_at hl 3 rfl) ?_
    refine lv_iload_n hx hb dX10_layPosts_24 rfl (lv_at hl 2 rfl) ?_
    refine lv_icmp_ge (tgt := 59) hx hb dX10_layPosts_25 (by decide) (fun hc => ?_) (fun hc => ?_)
    · replace h := h.1 hc
      refine lv_iload_n hx hb dX10_layPosts_59 rfl (lv_at hl 1 rfl) ?_
      refine lv_iconst (v := 1) hx hb dX10_layPosts_60 (by decide) ?_
      refine lv_isub hx hb dX10_layPosts_61 ?_
      refine lv_istore_n (lv' := [(3, .int (x1 - (1 : Int32))), (0, .ref (ad 0)), (1, .int x1), (2, .int x2)]) hx hb dX10_layPosts_62 rfl hl (by decide) rfl (fun ls hl => ?_)
      obtain ⟨n63, h⟩ := h
      exact J63  n63 _ _ _ _ _ _ _ h _ _ _ hw (lv_sub hl [1, 2, 3, 0] rfl)
    · replace h := h.2 hc
      refine lv_aload_n hx hb dX10_layPosts_28 rfl (lv_at hl 0 rfl) ?_
      refine gM_mo_fewest hx hb hts hin hown hK hw lk36 dX10_layPosts_29 ?_
      refine lv_sipush (v := 256) hx hb dX10_layPosts_32 (by decide) ?_
      refine lv_iload_n hx hb dX10_layPosts_35 rfl (lv_at hl 1 rfl) ?_
      refine lv_imul hx hb dX10_layPosts_36 ?_
      refine lv_iload_n hx hb dX10_layPosts_37 rfl (lv_at hl 3 rfl) ?_
      refine lv_iadd hx hb dX10_layPosts_38 ?_
      refine lv_iload_n hx hb dX10_layPosts_39 rfl (lv_at hl 3 rfl) ?_
      refine lv_iload_n hx hb dX10_layPosts_40 rfl (lv_at hl 2 rfl) ?_
      refine lv_iconst (v := 1) hx hb dX10_layPosts_41 (by decide) ?_
      refine lv_isub hx hb dX10_layPosts_42 ?_
      refine lv_icmp_ne (tgt := 50) hx hb dX10_layPosts_43 (by decide) (fun hc => ?_) (fun hc => ?_)
      · replace h := h.2 hc
        refine lv_ldc (v := 1000000) hx hb hown (hts _ (hB _ m_1120)) dX10_layPosts_50 ?_
        refine tM_mo_fewest hx hb hK hw h.1 dX10_layPosts_52 (fun H locs hw => ?_)
        replace h := h.2
        refine lv_iinc (v := (x3 + (1 : Int32))) (lv' := [(3, .int (x3 + (1 : Int32))), (0, .ref (ad 0)), (1, .int x1), (2, .int x2)]) hx hb dX10_layPosts_53 hl (k := 3) rfl rfl (by decide) rfl (fun ls hl => ?_)
        refine lv_goto (tgt := 23) hx hb dX10_layPosts_56 (by decide) ?_
        exact ih _ _ _ _ _ _ _ h _ _ _ hw (lv_sub hl [1, 2, 3, 0] rfl)
      · replace h := h.1 hc
        refine lv_iconst (v := 0) hx hb dX10_layPosts_46 (by decide) ?_
        refine lv_goto (tgt := 52) hx hb dX10_layPosts_47 (by decide) ?_
        refine tM_mo_fewest hx hb hK hw h.1 dX10_layPosts_52 (fun H locs hw => ?_)
        replace h := h.2
        refine lv_iinc (v := (x3 + (1 : Int32))) (lv' := [(3, .int (x3 + (1 : Int32))), (0, .ref (ad 0)), (1, .int x1), (2, .int x2)]) hx hb dX10_layPosts_53 hl (k := 3) rfl rfl (by decide) rfl (fun ls hl => ?_)
        refine lv_goto (tgt := 23) hx hb dX10_layPosts_56 (by decide) ?_
        exact ih _ _ _ _ _ _ _ h _ _ _ hw (lv_sub hl [1, 2, 3, 0] rfl)
  unfold P_mo_layPosts at h
  have he : entryFrame m args 7 = entryFrame m ([.ref (ad 0)] : List Value).toArray 7 := by rw [hav]
  refine W.eq he ?_
  have hl := lv_entry ([.ref (ad 0)]) (n := 7) (Nat.le_of_ble_eq_true rfl)
  rw [lg_entry_eq]
  generalize (lg_sl ([.ref (ad 0)]) ++ List.replicate (7 - (lg_sl ([.ref (ad 0)])).length) Slot.unset).toArray = ls at hl ⊢
  have hl : lv_has ls 7 [(0, .ref (ad 0))] := hl
  refine lv_aload_n hx hb dX10_layPosts_0 rfl (lv_at hl 0 rfl) ?_
  refine cV_v (b := (ad 0)) (As := []) (rest := []) ⟨hx, hb, hml, hown, hts⟩ hK hw (c_mo_laySights h) (cwV 0 hts (gd_RX10_134 hB) rfl rfl rfl (by decide +kernel) ⟨Nat.le_of_ble_eq_true rfl, Nat.le_of_ble_eq_true rfl⟩) (rM_mo hK hw) hl.1 ⟨Nat.zero_le _, Nat.zero_le _⟩ rfl rfl (Nat.le_of_ble_eq_true rfl) dX10_layPosts_1 (fun mo_sights_1 H locs h hw => ?_)
  refine lv_aload_n hx hb dX10_layPosts_4 rfl (lv_at hl 0 rfl) ?_
  refine gM_mo_wide hx hb hts hin hown hK hw lk68 dX10_layPosts_5 ?_
  refine lv_aload_n hx hb dX10_layPosts_8 rfl (lv_at hl 0 rfl) ?_
  refine gM_mo_tall hx hb hts hin hown hK hw lk71 dX10_layPosts_9 ?_
  refine lv_imul hx hb dX10_layPosts_12 ?_
  refine lv_topi (fun x1_13 ex1_13 => ?_)
  replace h := h x1_13 ex1_13
  refine lv_istore_n (lv' := [(1, .int x1_13), (0, .ref (ad 0))]) hx hb dX10_layPosts_13 rfl hl (by decide) rfl (fun ls hl => ?_)
  refine lv_iconst (v := 1) hx hb dX10_layPosts_14 (by decide) ?_
  refine lv_aload_n hx hb dX10_layPosts_15 rfl (lv_at hl 1 rfl) ?_
  refine gM_mo_pictures hx hb hts hin hown hK hw lk74 dX10_layPosts_16 ?_
  refine lv_ishl hx hb dX10_layPosts_19 ?_
  refine lv_topi (fun x2_20 ex2_20 => ?_)
  replace h := h x2_20 ex2_20
  refine lv_istore_n (lv' := [(2, .int x2_20), (1, .int x1_13), (0, .ref (ad 0))]) hx hb dX10_layPosts_20 rfl hl (by decide) rfl (fun ls hl => ?_)
  refine lv_iconst (v := 0) hx hb dX10_layPosts_21 (by decide) ?_
  refine lv_istore_n (lv' := [(3, .int (0 : Int32)), (2, .int x2_20), (1, .int x1_13), (0, .ref (ad 0))]) hx hb dX10_layPosts_22 rfl hl (by decide) rfl (fun ls hl => ?_)
  obtain ⟨n23, h⟩ := h
  exact J23  n23 _ _ _ _ _ _ _ h _ _ _ hw (lv_sub hl [3, 2, 1, 0] rfl)
def rm_mo_fewest : Room := { frames := 7, cells := 0, slots := 0, locals := 175 }
set_option maxHeartbeats 4000000 in
set_option maxRecDepth 100000 in
theorem c_mo_fewest {l : Launch} {D : va_G} {cI cL cZ : ClassId} {mx my : Nat} {A : Nat → Prop} {ad : Nat → Nat} {mo_wide mo_tall mo_law mo_range mo_pictures mo_postMany : Int32} {mo_kind mo_queue mo_far mo_pictureCell mo_facing mo_sights mo_fewest mo_posts mo_left mo_roundMany mo_round mo_shift mo_thief mo_danger mo_old : Nat → Int32}  {Q : Int32 → (Nat → Int32) → (Nat → Int32) → (Nat → Int32) → Int32 → Prop} (h : P_mo_fewest mo_wide mo_tall mo_kind mo_law mo_range mo_pictures mo_pictureCell mo_facing mo_sights mo_fewest mo_posts mo_postMany Q) : Met l yX10_fewest wsX10_fewest rm_mo_fewest (va_Pc [.ref (ad 0)] (WC D cI cL cZ mx my A (wdM cI cL cZ ad mo_wide mo_tall mo_kind mo_law mo_range mo_queue mo_far mo_pictures mo_pictureCell mo_facing mo_sights mo_fewest mo_posts mo_postMany mo_left mo_roundMany mo_round mo_shift mo_thief mo_danger mo_old))) (va_Qi (fun (r : Int32) (u : (Nat → Int32) × (Nat → Int32) × (Nat → Int32) × Int32) => Q r u.1 u.2.1 u.2.2.1 u.2.2.2) (fun (u : (Nat → Int32) × (Nat → Int32) × (Nat → Int32) × Int32) t => PW D A (wdM cI cL cZ ad mo_wide mo_tall mo_kind mo_law mo_range mo_queue mo_far mo_pictures mo_pictureCell mo_facing u.1 u.2.1 u.2.2.1 u.2.2.2 mo_left mo_roundMany mo_round mo_shift mo_thief mo_danger mo_old) t.heap) A) 0 0 A := by
  refine Met.ofW (cc := cX10_fewest) (maxL := 1) (ret := (some .int)) (by decide) rfl ?_
  intro p e s m args below meth c s₁ B hml hv
  obtain ⟨hav, hP0, hD0, hK⟩ := hv
  have hx := B.exec
  have hb := B.bytes
  have hr := B.returns
  have hts := atoms_spec (ws := wsX10_fewest) B.pre
  have hown : s.vm.findClass RX10 = some m.cls := findClass_of_methodNamed B.named
  have hlocks := B.notSynchronized
  have hB : ∀ w ∈ BIG, w ∈ wsX10_fewest := fun _ h => List.mem_cons_of_mem _ h
  have hin : ∀ w ∈ wsX100, w ∈ wsX10_fewest := fun w h => hB w (inB_X10 w h)
  have lk36 := hts _ (hB _ m_942)
  obtain ⟨Z, hZ⟩ : ∃ Z : State → Prop, Z = MQ below (va_Qi (fun (r : Int32) (u : (Nat → Int32) × (Nat → Int32) × (Nat → Int32) × Int32) => Q r u.1 u.2.1 u.2.2.1 u.2.2.2) (fun (u : (Nat → Int32) × (Nat → Int32) × (Nat → Int32) × Int32) t => PW D A (wdM cI cL cZ ad mo_wide mo_tall mo_kind mo_law mo_range mo_queue mo_far mo_pictures mo_pictureCell mo_facing u.1 u.2.1 u.2.2.1 u.2.2.2 mo_left mo_roundMany mo_round mo_shift mo_thief mo_danger mo_old) t.heap) A) args s 0 0 A := ⟨_, rfl⟩
  rw [← hZ]
  have hw : SW D A s.heap (wdM cI cL cZ ad mo_wide mo_tall mo_kind mo_law mo_range mo_queue mo_far mo_pictures mo_pictureCell mo_facing mo_sights mo_fewest mo_posts mo_postMany mo_left mo_roundMany mo_round mo_shift mo_thief mo_danger mo_old) s.heap [] := ⟨hP0, hD0, va_S.rf⟩
  clear hP0 hD0 B
  unfold P_mo_fewest at h
  have he : entryFrame m args 1 = entryFrame m ([.ref (ad 0)] : List Value).toArray 1 := by rw [hav]
  refine W.eq he ?_
  have hl := lv_entry ([.ref (ad 0)]) (n := 1) (Nat.le_of_ble_eq_true rfl)
  rw [lg_entry_eq]
  generalize (lg_sl ([.ref (ad 0)]) ++ List.replicate (1 - (lg_sl ([.ref (ad 0)])).length) Slot.unset).toArray = ls at hl ⊢
  have hl : lv_has ls 1 [(0, .ref (ad 0))] := hl
  refine lv_aload_n hx hb dX10_fewest_0 rfl (lv_at hl 0 rfl) ?_
  refine cV_v (b := (ad 0)) (As := []) (rest := []) ⟨hx, hb, hml, hown, hts⟩ hK hw (c_mo_layPosts h) (cwV 0 hts (gd_RX10_141 hB) rfl rfl rfl (by decide +kernel) ⟨Nat.le_of_ble_eq_true rfl, Nat.le_of_ble_eq_true rfl⟩) (rM_mo hK hw) hl.1 ⟨Nat.zero_le _, Nat.zero_le _⟩ rfl rfl (Nat.le_of_ble_eq_true rfl) dX10_fewest_1 (fun u1 H locs h hw => ?_)
  obtain ⟨mo_sights_1, mo_fewest_1, mo_posts_1, mo_postMany_1⟩ := u1
  refine lv_aload_n hx hb dX10_fewest_4 rfl (lv_at hl 0 rfl) ?_
  refine gM_mo_fewest hx hb hts hin hown hK hw lk36 dX10_fewest_5 ?_
  refine lv_iconst (v := 0) hx hb dX10_fewest_8 (by decide) ?_
  refine aM_mo_fewest hx hb hK hw h.1 dX10_fewest_9 ?_
  replace h := h.2
  refine lv_ldc (v := 1000000) hx hb hown (hts _ (hB _ m_1120)) dX10_fewest_10 ?_
  refine lv_icmp_lt (tgt := 20) hx hb dX10_fewest_12 (by decide) (fun hc => ?_) (fun hc => ?_)
  · replace h := h.1 hc
    refine lv_aload_n hx hb dX10_fewest_20 rfl (lv_at hl 0 rfl) ?_
    refine gM_mo_fewest hx hb hts hin hown hK hw lk36 dX10_fewest_21 ?_
    refine lv_iconst (v := 0) hx hb dX10_fewest_24 (by decide) ?_
    refine aM_mo_fewest hx hb hK hw h.1 dX10_fewest_25 ?_
    replace h := h.2
    rw [hZ]
    exact rt_i (mo_sights_1, mo_fewest_1, mo_posts_1, mo_postMany_1) hx hb hr hlocks hw h dX10_fewest_26
  · replace h := h.2 hc
    refine lv_bipush (v := (-9)) hx hb dX10_fewest_15 (by decide) ?_
    refine lv_goto (tgt := 26) hx hb dX10_fewest_17 (by decide) ?_
    rw [hZ]
    exact rt_i (mo_sights_1, mo_fewest_1, mo_posts_1, mo_postMany_1) hx hb hr hlocks hw h dX10_fewest_26
def rm_mo_post : Room := { frames := 7, cells := 0, slots := 0, locals := 175 }
set_option maxHeartbeats 4000000 in
set_option maxRecDepth 100000 in
theorem c_mo_post {l : Launch} {D : va_G} {cI cL cZ : ClassId} {mx my : Nat} {A : Nat → Prop} {ad : Nat → Nat} {mo_wide mo_tall mo_law mo_range mo_pictures mo_postMany : Int32} {mo_kind mo_queue mo_far mo_pictureCell mo_facing mo_sights mo_fewest mo_posts mo_left mo_roundMany mo_round mo_shift mo_thief mo_danger mo_old : Nat → Int32} (x1 : Int32) {Q : Int32 → (Nat → Int32) → (Nat → Int32) → (Nat → Int32) → Int32 → Prop} (h : P_mo_post mo_wide mo_tall mo_kind mo_law mo_range mo_pictures mo_pictureCell mo_facing mo_sights mo_fewest mo_posts mo_postMany x1 Q) : Met l yX10_post wsX10_post rm_mo_post (va_Pc [.ref (ad 0), .int x1] (WC D cI cL cZ mx my A (wdM cI cL cZ ad mo_wide mo_tall mo_kind mo_law mo_range mo_queue mo_far mo_pictures mo_pictureCell mo_facing mo_sights mo_fewest mo_posts mo_postMany mo_left mo_roundMany mo_round mo_shift mo_thief mo_danger mo_old))) (va_Qi (fun (r : Int32) (u : (Nat → Int32) × (Nat → Int32) × (Nat → Int32) × Int32) => Q r u.1 u.2.1 u.2.2.1 u.2.2.2) (fun (u : (Nat → Int32) × (Nat → Int32) × (Nat → Int32) × Int32) t => PW D A (wdM cI cL cZ ad mo_wide mo_tall mo_kind mo_law mo_range mo_queue mo_far mo_pictures mo_pictureCell mo_facing u.1 u.2.1 u.2.2.1 u.2.2.2 mo_left mo_roundMany mo_round mo_shift mo_thief mo_danger mo_old) t.heap) A) 0 0 A := by
  refine Met.ofW (cc := cX10_post) (maxL := 2) (ret := (some .int)) (by decide) rfl ?_
  intro p e s m args below meth c s₁ B hml hv
  obtain ⟨hav, hP0, hD0, hK⟩ := hv
  have hx := B.exec
  have hb := B.bytes
  have hr := B.returns
  have hts := atoms_spec (ws := wsX10_post) B.pre
  have hown : s.vm.findClass RX10 = some m.cls := findClass_of_methodNamed B.named
  have hlocks := B.notSynchronized
  have hB : ∀ w ∈ BIG, w ∈ wsX10_post := fun _ h => List.mem_cons_of_mem _ h
  have hin : ∀ w ∈ wsX100, w ∈ wsX10_post := fun w h => hB w (inB_X10 w h)
  have lk39 := hts _ (hB _ m_943)
  have lk138 := hts _ (hB _ m_944)
  obtain ⟨Z, hZ⟩ : ∃ Z : State → Prop, Z = MQ below (va_Qi (fun (r : Int32) (u : (Nat → Int32) × (Nat → Int32) × (Nat → Int32) × Int32) => Q r u.1 u.2.1 u.2.2.1 u.2.2.2) (fun (u : (Nat → Int32) × (Nat → Int32) × (Nat → Int32) × Int32) t => PW D A (wdM cI cL cZ ad mo_wide mo_tall mo_kind mo_law mo_range mo_queue mo_far mo_pictures mo_pictureCell mo_facing u.1 u.2.1 u.2.2.1 u.2.2.2 mo_left mo_roundMany mo_round mo_shift mo_thief mo_danger mo_old) t.heap) A) args s 0 0 A := ⟨_, rfl⟩
  rw [← hZ]
  have hw : SW D A s.heap (wdM cI cL cZ ad mo_wide mo_tall mo_kind mo_law mo_range mo_queue mo_far mo_pictures mo_pictureCell mo_facing mo_sights mo_fewest mo_posts mo_postMany mo_left mo_roundMany mo_round mo_shift mo_thief mo_danger mo_old) s.heap [] := ⟨hP0, hD0, va_S.rf⟩
  clear hP0 hD0 B
  unfold P_mo_post at h
  have he : entryFrame m args 2 = entryFrame m ([.ref (ad 0), .int x1] : List Value).toArray 2 := by rw [hav]
  refine W.eq he ?_
  have hl := lv_entry ([.ref (ad 0), .int x1]) (n := 2) (Nat.le_of_ble_eq_true rfl)
  rw [lg_entry_eq]
  generalize (lg_sl ([.ref (ad 0), .int x1]) ++ List.replicate (2 - (lg_sl ([.ref (ad 0), .int x1])).length) Slot.unset).toArray = ls at hl ⊢
  have hl : lv_has ls 2 [(0, .ref (ad 0)), (1, .int x1)] := hl
  refine lv_aload_n hx hb dX10_post_0 rfl (lv_at hl 0 rfl) ?_
  refine cV_v (b := (ad 0)) (As := []) (rest := []) ⟨hx, hb, hml, hown, hts⟩ hK hw (c_mo_layPosts h) (cwV 0 hts (gd_RX10_141 hB) rfl rfl rfl (by decide +kernel) ⟨Nat.le_of_ble_eq_true rfl, Nat.le_of_ble_eq_true rfl⟩) (rM_mo hK hw) hl.1 ⟨Nat.zero_le _, Nat.zero_le _⟩ rfl rfl (Nat.le_of_ble_eq_true rfl) dX10_post_1 (fun u1 H locs h hw => ?_)
  obtain ⟨mo_sights_1, mo_fewest_1, mo_posts_1, mo_postMany_1⟩ := u1
  refine lv_iload_n hx hb dX10_post_4 rfl (lv_at hl 1 rfl) ?_
  refine lv_i2l hx hb dX10_post_5 rfl ?_
  refine lv_lconst (v := 0) hx hb dX10_post_6 (by decide) ?_
  refine lv_aload_n hx hb dX10_post_7 rfl (lv_at hl 0 rfl) ?_
  refine gM_mo_postMany hx hb hts hin hown hK hw lk138 dX10_post_8 ?_
  refine lv_iconst (v := 1) hx hb dX10_post_11 (by decide) ?_
  refine lv_isub hx hb dX10_post_12 ?_
  refine lv_i2l hx hb dX10_post_13 rfl ?_
  refine cS_i (As := [.long (Int32.toInt64 x1), .long (0 : Int64), .long (Int32.toInt64 (mo_postMany_1 - (1 : Int32)))]) (rest := []) ⟨hx, hb, hml, hown, hts⟩ hK hw (c_mo_in (Int32.toInt64 x1) (0 : Int64) (Int32.toInt64 (mo_postMany_1 - (1 : Int32))) h) (va_cwS 3 hts (gd_RX10_77 hB) rfl rfl rfl (by decide +kernel) ⟨Nat.le_of_ble_eq_true rfl, Nat.le_of_ble_eq_true rfl⟩) hl.1 ⟨Nat.zero_le _, Nat.zero_le _⟩ rfl rfl (Nat.le_of_ble_eq_true rfl) dX10_post_14 (fun r14 _ H locs h hw => ?_)
  refine lv_if_eq (tgt := 29) hx hb dX10_post_17 (by decide) (fun hc => ?_) (fun hc => ?_)
  · replace h := h.1 hc
    refine lv_bipush (v := (-9)) hx hb dX10_post_29 (by decide) ?_
    rw [hZ]
    exact rt_i (mo_sights_1, mo_fewest_1, mo_posts_1, mo_postMany_1) hx hb hr hlocks hw h dX10_post_31
  · replace h := h.2 hc
    refine lv_aload_n hx hb dX10_post_20 rfl (lv_at hl 0 rfl) ?_
    refine gM_mo_posts hx hb hts hin hown hK hw lk39 dX10_post_21 ?_
    refine lv_iload_n hx hb dX10_post_24 rfl (lv_at hl 1 rfl) ?_
    refine aM_mo_posts hx hb hK hw h.1 dX10_post_25 ?_
    replace h := h.2
    refine lv_goto (tgt := 31) hx hb dX10_post_26 (by decide) ?_
    rw [hZ]
    exact rt_i (mo_sights_1, mo_fewest_1, mo_posts_1, mo_postMany_1) hx hb hr hlocks hw h dX10_post_31
def rm_mo_layTour : Room := { frames := 6, cells := 0, slots := 0, locals := 149 }
set_option maxHeartbeats 4000000 in
set_option maxRecDepth 100000 in
theorem c_mo_layTour {l : Launch} {D : va_G} {cI cL cZ : ClassId} {mx my : Nat} {A : Nat → Prop} {ad : Nat → Nat} {mo_wide mo_tall mo_law mo_range mo_pictures mo_postMany : Int32} {mo_kind mo_queue mo_far mo_pictureCell mo_facing mo_sights mo_fewest mo_posts mo_left mo_roundMany mo_round mo_shift mo_thief mo_danger mo_old : Nat → Int32} (x1 : Int32) {Q : (Nat → Int32) → (Nat → Int32) → (Nat → Int32) → Prop} (h : P_mo_layTour mo_wide mo_tall mo_kind mo_law mo_range mo_queue mo_pictures mo_pictureCell mo_facing mo_sights mo_left x1 Q) : Met l yX10_layTour wsX10_layTour rm_mo_layTour (va_Pc [.ref (ad 0), .int x1] (WC D cI cL cZ mx my A (wdM cI cL cZ ad mo_wide mo_tall mo_kind mo_law mo_range mo_queue mo_far mo_pictures mo_pictureCell mo_facing mo_sights mo_fewest mo_posts mo_postMany mo_left mo_roundMany mo_round mo_shift mo_thief mo_danger mo_old))) (va_Qv (fun (u : (Nat → Int32) × (Nat → Int32) × (Nat → Int32)) => Q u.1 u.2.1 u.2.2) (fun (u : (Nat → Int32) × (Nat → Int32) × (Nat → Int32)) t => PW D A (wdM cI cL cZ ad mo_wide mo_tall mo_kind mo_law mo_range u.1 mo_far mo_pictures mo_pictureCell mo_facing u.2.1 mo_fewest mo_posts mo_postMany u.2.2 mo_roundMany mo_round mo_shift mo_thief mo_danger mo_old) t.heap) A) 0 0 A := by
  refine Met.ofW (cc := cX10_layTour) (maxL := 10) (ret := none) (by decide) rfl ?_
  intro p e s m args below meth c s₁ B hml hv
  obtain ⟨hav, hP0, hD0, hK⟩ := hv
  have hx := B.exec
  have hb := B.bytes
  have hr := B.returns
  have hts := atoms_spec (ws := wsX10_layTour) B.pre
  have hown : s.vm.findClass RX10 = some m.cls := findClass_of_methodNamed B.named
  have hlocks := B.notSynchronized
  have hB : ∀ w ∈ BIG, w ∈ wsX10_layTour := fun _ h => List.mem_cons_of_mem _ h
  have hin : ∀ w ∈ wsX100, w ∈ wsX10_layTour := fun w h => hB w (inB_X10 w h)
  have lk21 := hts _ (hB _ m_936)
  have lk33 := hts _ (hB _ m_941)
  have lk42 := hts _ (hB _ m_945)
  have lk74 := hts _ (hB _ m_938)
  obtain ⟨Z, hZ⟩ : ∃ Z : State → Prop, Z = MQ below (va_Qv (fun (u : (Nat → Int32) × (Nat → Int32) × (Nat → Int32)) => Q u.1 u.2.1 u.2.2) (fun (u : (Nat → Int32) × (Nat → Int32) × (Nat → Int32)) t => PW D A (wdM cI cL cZ ad mo_wide mo_tall mo_kind mo_law mo_range u.1 mo_far mo_pictures mo_pictureCell mo_facing u.2.1 mo_fewest mo_posts mo_postMany u.2.2 mo_roundMany mo_round mo_shift mo_thief mo_danger mo_old) t.heap) A) args s 0 0 A := ⟨_, rfl⟩
  rw [← hZ]
  have hw : SW D A s.heap (wdM cI cL cZ ad mo_wide mo_tall mo_kind mo_law mo_range mo_queue mo_far mo_pictures mo_pictureCell mo_facing mo_sights mo_fewest mo_posts mo_postMany mo_left mo_roundMany mo_round mo_shift mo_thief mo_danger mo_old) s.heap [] := ⟨hP0, hD0, va_S.rf⟩
  clear hP0 hD0 B
  have J123 : ∀ (k104 : (Nat → Int32) → (Nat → Int32) → (Nat → Int32) → Int32 → Int32 → Int32 → Int32 → Int32 → Int32 → Prop) (hk104 : ∀ (mo_queue : (Nat → Int32)) (mo_sights : (Nat → Int32)) (mo_left : (Nat → Int32)) (x2 : Int32) (x3 : Int32) (x4 : Int32) (x5 : Int32) (x6 : Int32) (x7 : Int32) , k104 mo_queue mo_sights mo_left x2 x3 x4 x5 x6 x7 → ∀ (H : Heap) (locs : List Loc) (ls : Array Slot), SW D A s.heap (wdM cI cL cZ ad mo_wide mo_tall mo_kind mo_law mo_range mo_queue mo_far mo_pictures mo_pictureCell mo_facing mo_sights mo_fewest mo_posts mo_postMany mo_left mo_roundMany mo_round mo_shift mo_thief mo_danger mo_old) H locs → lv_has ls 10 [(0, .ref (ad 0)), (2, .int x2), (3, .int x3), (4, .int x4), (5, .int x5), (6, .int x6), (7, .int x7)] → W p l e (headSpec wsX10_layTour rm_mo_layTour).room s m args below meth c H locs 0 0 Z (F0 m 104 ls [])) (n : Nat) (mo_queue : (Nat → Int32)) (mo_sights : (Nat → Int32)) (mo_left : (Nat → Int32)) (x2 : Int32) (x3 : Int32) (x4 : Int32) (x5 : Int32) (x6 : Int32) (x7 : Int32) (x8 : Int32) (x9 : Int32) , L_mo_layTour_123 mo_wide mo_tall mo_kind Q k104 n mo_queue mo_sights mo_left x2 x3 x4 x5 x6 x7 x8 x9 → ∀ (H : Heap) (locs : List Loc) (ls : Array Slot), SW D A s.heap (wdM cI cL cZ ad mo_wide mo_tall mo_kind mo_law mo_range mo_queue mo_far mo_pictures mo_pictureCell mo_facing mo_sights mo_fewest mo_posts mo_postMany mo_left mo_roundMany mo_round mo_shift mo_thief mo_danger mo_old) H locs → lv_has ls 10 [(0, .ref (ad 0)), (2, .int x2), (3, .int x3), (4, .int x4), (5, .int x5), (6, .int x6), (7, .int x7), (8, .int x8), (9, .int x9)] → W p l e (headSpec wsX10_layTour rm_mo_layTour).room s m args below meth c H locs 0 0 Z (F0 m 123 ls []) := by
    intro k104 hk104 n
    induction n with
    | zero => intro mo_queue mo_sights mo_left x2 x3 x4 x5 x6 x7 x8 x9 h; exact h.elim
    | succ n ih =>
    intro mo_queue mo_sights mo_left x2 x3 x4 x5 x6 x7 x8 x9 h H locs ls hw hl
    unfold L_mo_layTour_123 at h
    refine lv_iload hx hb dX10_layTour_123 (lv_at hl 8 rfl) ?_
    refine lv_iload_n hx hb dX10_layTour_125 rfl (lv_at hl 1 rfl) ?_
    refine lv_icmp_gt (tgt := 222) hx hb dX10_layTour_126 (by decide) (fun hc => ?_) (fun hc => ?_)
    · replace h := h.1 hc
      refine lv_iinc (v := (x7 + (1 : Int32))) (lv' := [(7, .int (x7 + (1 : Int32))), (0, .ref (ad 0)), (2, .int x2), (3, .int x3), (4, .int x4), (5, .int x5), (6, .int x6), (8, .int x8), (9, .int x9)]) hx hb dX10_layTour_222 hl (k := 6) rfl rfl (by decide) rfl (fun ls hl => ?_)
      refine lv_goto (tgt := 104) hx hb dX10_layTour_225 (by decide) ?_
      exact hk104 _ _ _ _ _ _ _ _ _ h _ _ _ hw (lv_sub hl [1, 2, 3, 4, 5, 6, 0] rfl)
    · replace h := h.2 hc
      refine lv_iload hx hb dX10_layTour_129 (lv_at hl 7 rfl) ?_
      refine lv_bipush (v := (-9)) hx hb dX10_layTour_131 (by decide) ?_
      refine lv_icmp_eq (tgt := 222) hx hb dX10_layTour_133 (by decide) (fun hc => ?_) (fun hc => ?_)
      · replace h := h.1 hc
        refine lv_iinc (v := (x7 + (1 : Int32))) (lv' := [(7, .int (x7 + (1 : Int32))), (0, .ref (ad 0)), (2, .int x2), (3, .int x3), (4, .int x4), (5, .int x5), (6, .int x6), (8, .int x8), (9, .int x9)]) hx hb dX10_layTour_222 hl (k := 6) rfl rfl (by decide) rfl (fun ls hl => ?_)
        refine lv_goto (tgt := 104) hx hb dX10_layTour_225 (by decide) ?_
        exact hk104 _ _ _ _ _ _ _ _ _ h _ _ _ hw (lv_sub hl [1, 2, 3, 4, 5, 6, 0] rfl)
      · replace h := h.2 hc
        refine lv_iload hx hb dX10_layTour_136 (lv_at hl 8 rfl) ?_
        refine lv_aload_n hx hb dX10_layTour_138 rfl (lv_at hl 0 rfl) ?_
        refine gM_mo_sights hx hb hts hin hown hK hw lk33 dX10_layTour_139 ?_
        refine lv_iload hx hb dX10_layTour_142 (lv_at hl 4 rfl) ?_
        refine aM_mo_sights hx hb hK hw h.1 dX10_layTour_144 ?_
        replace h := h.2
        refine lv_ior hx hb dX10_layTour_145 ?_
        refine lv_iload hx hb dX10_layTour_146 (lv_at hl 5 rfl) ?_
        refine lv_icmp_ne (tgt := 216) hx hb dX10_layTour_148 (by decide) (fun hc => ?_) (fun hc => ?_)
        · replace h := h.2 hc
          refine lv_iinc (v := (x9 + (1 : Int32))) (lv' := [(9, .int (x9 + (1 : Int32))), (0, .ref (ad 0)), (2, .int x2), (3, .int x3), (4, .int x4), (5, .int x5), (6, .int x6), (7, .int x7), (8, .int x8)]) hx hb dX10_layTour_216 hl (k := 8) rfl rfl (by decide) rfl (fun ls hl => ?_)
          refine lv_goto (tgt := 123) hx hb dX10_layTour_219 (by decide) ?_
          exact ih _ _ _ _ _ _ _ _ _ _ _ h _ _ _ hw (lv_sub hl [1, 2, 3, 4, 5, 6, 7, 8, 0] rfl)
        · replace h := h.1 hc
          refine lv_aload_n hx hb dX10_layTour_151 rfl (lv_at hl 0 rfl) ?_
          refine gM_mo_left hx hb hts hin hown hK hw lk42 dX10_layTour_152 ?_
          refine lv_sipush (v := 256) hx hb dX10_layTour_155 (by decide) ?_
          refine lv_iload hx hb dX10_layTour_158 (lv_at hl 7 rfl) ?_
          refine lv_imul hx hb dX10_layTour_160 ?_
          refine lv_iload hx hb dX10_layTour_161 (lv_at hl 8 rfl) ?_
          refine lv_iadd hx hb dX10_layTour_163 ?_
          refine aM_mo_left hx hb hK hw h.1 dX10_layTour_164 ?_
          replace h := h.2
          refine lv_bipush (v := (-9)) hx hb dX10_layTour_165 (by decide) ?_
          refine lv_icmp_ne (tgt := 216) hx hb dX10_layTour_167 (by decide) (fun hc => ?_) (fun hc => ?_)
          · replace h := h.2 hc
            refine lv_iinc (v := (x9 + (1 : Int32))) (lv' := [(9, .int (x9 + (1 : Int32))), (0, .ref (ad 0)), (2, .int x2), (3, .int x3), (4, .int x4), (5, .int x5), (6, .int x6), (7, .int x7), (8, .int x8)]) hx hb dX10_layTour_216 hl (k := 8) rfl rfl (by decide) rfl (fun ls hl => ?_)
            refine lv_goto (tgt := 123) hx hb dX10_layTour_219 (by decide) ?_
            exact ih _ _ _ _ _ _ _ _ _ _ _ h _ _ _ hw (lv_sub hl [1, 2, 3, 4, 5, 6, 7, 8, 0] rfl)
          · replace h := h.1 hc
            refine lv_aload_n hx hb dX10_layTour_170 rfl (lv_at hl 0 rfl) ?_
            refine gM_mo_left hx hb hts hin hown hK hw lk42 dX10_layTour_171 ?_
            refine lv_sipush (v := 256) hx hb dX10_layTour_174 (by decide) ?_
            refine lv_iload hx hb dX10_layTour_177 (lv_at hl 7 rfl) ?_
            refine lv_imul hx hb dX10_layTour_179 ?_
            refine lv_iload hx hb dX10_layTour_180 (lv_at hl 8 rfl) ?_
            refine lv_iadd hx hb dX10_layTour_182 ?_
            refine lv_aload_n hx hb dX10_layTour_183 rfl (lv_at hl 0 rfl) ?_
            refine gM_mo_left hx hb hts hin hown hK hw lk42 dX10_layTour_184 ?_
            refine lv_aload_n hx hb dX10_layTour_187 rfl (lv_at hl 0 rfl) ?_
            refine gM_mo_queue hx hb hts hin hown hK hw lk21 dX10_layTour_188 ?_
            refine lv_iload hx hb dX10_layTour_191 (lv_at hl 3 rfl) ?_
            refine aM_mo_queue hx hb hK hw h.1 dX10_layTour_193 ?_
            replace h := h.2
            refine aM_mo_left hx hb hK hw h.1 dX10_layTour_194 ?_
            replace h := h.2
            refine lv_iconst (v := 1) hx hb dX10_layTour_195 (by decide) ?_
            refine lv_iadd hx hb dX10_layTour_196 ?_
            refine tM_mo_left hx hb hK hw h.1 dX10_layTour_197 (fun H locs hw => ?_)
            replace h := h.2
            refine lv_aload_n hx hb dX10_layTour_198 rfl (lv_at hl 0 rfl) ?_
            refine gM_mo_queue hx hb hts hin hown hK hw lk21 dX10_layTour_199 ?_
            refine lv_iload_n hx hb dX10_layTour_202 rfl (lv_at hl 2 rfl) ?_
            refine lv_sipush (v := 256) hx hb dX10_layTour_203 (by decide) ?_
            refine lv_iload hx hb dX10_layTour_206 (lv_at hl 7 rfl) ?_
            refine lv_imul hx hb dX10_layTour_208 ?_
            refine lv_iload hx hb dX10_layTour_209 (lv_at hl 8 rfl) ?_
            refine lv_iadd hx hb dX10_layTour_211 ?_
            refine tM_mo_queue hx hb hK hw h.1 dX10_layTour_212 (fun H locs hw => ?_)
            replace h := h.2
            refine lv_iinc (v := (x3 + (1 : Int32))) (lv' := [(3, .int (x3 + (1 : Int32))), (0, .ref (ad 0)), (2, .int x2), (4, .int x4), (5, .int x5), (6, .int x6), (7, .int x7), (8, .int x8), (9, .int x9)]) hx hb dX10_layTour_213 hl (k := 2) rfl rfl (by decide) rfl (fun ls hl => ?_)
            refine lv_iinc (v := (x9 + (1 : Int32))) (lv' := [(9, .int (x9 + (1 : Int32))), (3, .int (x3 + (1 : Int32))), (0, .ref (ad 0)), (2, .int x2), (4, .int x4), (5, .int x5), (6, .int x6), (7, .int x7), (8, .int x8)]) hx hb dX10_layTour_216 hl (k := 8) rfl rfl (by decide) rfl (fun ls hl => ?_)
            refine lv_goto (tgt := 123) hx hb dX10_layTour_219 (by decide) ?_
            exact ih _ _ _ _ _ _ _ _ _ _ _ h _ _ _ hw (lv_sub hl [2, 3, 1, 4, 5, 6, 7, 8, 0] rfl)
  have J104 : ∀ (k69 : (Nat → Int32) → (Nat → Int32) → (Nat → Int32) → Int32 → Int32 → Int32 → Prop) (hk69 : ∀ (mo_queue : (Nat → Int32)) (mo_sights : (Nat → Int32)) (mo_left : (Nat → Int32)) (x2 : Int32) (x3 : Int32) (x4 : Int32) , k69 mo_queue mo_sights mo_left x2 x3 x4 → ∀ (H : Heap) (locs : List Loc) (ls : Array Slot), SW D A s.heap (wdM cI cL cZ ad mo_wide mo_tall mo_kind mo_law mo_range mo_queue mo_far mo_pictures mo_pictureCell mo_facing mo_sights mo_fewest mo_posts mo_postMany mo_left mo_roundMany mo_round mo_shift mo_thief mo_danger mo_old) H locs → lv_has ls 10 [(0, .ref (ad 0)), (2, .int x2), (3, .int x3), (4, .int x4)] → W p l e (headSpec wsX10_layTour rm_mo_layTour).room s m args below meth c H locs 0 0 Z (F0 m 69 ls [])) (n : Nat) (mo_queue : (Nat → Int32)) (mo_sights : (Nat → Int32)) (mo_left : (Nat → Int32)) (x2 : Int32) (x3 : Int32) (x4 : Int32) (x5 : Int32) (x6 : Int32) (x7 : Int32) , L_mo_layTour_104 mo_wide mo_tall mo_kind Q k69 n mo_queue mo_sights mo_left x2 x3 x4 x5 x6 x7 → ∀ (H : Heap) (locs : List Loc) (ls : Array Slot), SW D A s.heap (wdM cI cL cZ ad mo_wide mo_tall mo_kind mo_law mo_range mo_queue mo_far mo_pictures mo_pictureCell mo_facing mo_sights mo_fewest mo_posts mo_postMany mo_left mo_roundMany mo_round mo_shift mo_thief mo_danger mo_old) H locs → lv_has ls 10 [(0, .ref (ad 0)), (2, .int x2), (3, .int x3), (4, .int x4), (5, .int x5), (6, .int x6), (7, .int x7)] → W p l e (headSpec wsX10_layTour rm_mo_layTour).room s m args below meth c H locs 0 0 Z (F0 m 104 ls []) := by
    intro k69 hk69 n
    induction n with
    | zero => intro mo_queue mo_sights mo_left x2 x3 x4 x5 x6 x7 h; exact h.elim
    | succ n ih =>
    intro mo_queue mo_sights mo_left x2 x3 x4 x5 x6 x7 h H locs ls hw hl
    unfold L_mo_layTour_104 at h
    refine lv_iload hx hb dX10_layTour_104 (lv_at hl 6 rfl) ?_
    refine lv_iconst (v := 4) hx hb dX10_layTour_106 (by decide) ?_
    refine lv_icmp_ge (tgt := 228) hx hb dX10_layTour_107 (by decide) (fun hc => ?_) (fun hc => ?_)
    · replace h := h.1 hc
      refine lv_iinc (v := (x4 + (1 : Int32))) (lv' := [(4, .int (x4 + (1 : Int32))), (0, .ref (ad 0)), (2, .int x2), (3, .int x3), (5, .int x5), (6, .int x6), (7, .int x7)]) hx hb dX10_layTour_228 hl (k := 3) rfl rfl (by decide) rfl (fun ls hl => ?_)
      refine lv_goto (tgt := 69) hx hb dX10_layTour_231 (by decide) ?_
      exact hk69 _ _ _ _ _ _ h _ _ _ hw (lv_sub hl [1, 2, 3, 0] rfl)
    · replace h := h.2 hc
      refine lv_aload_n hx hb dX10_layTour_110 rfl (lv_at hl 0 rfl) ?_
      refine lv_iload hx hb dX10_layTour_111 (lv_at hl 4 rfl) ?_
      refine lv_iload hx hb dX10_layTour_113 (lv_at hl 6 rfl) ?_
      refine cV_i (b := (ad 0)) (As := [.int x5, .int x7]) (rest := []) ⟨hx, hb, hml, hown, hts⟩ hK hw (c_mo_beside x5 x7 h) (cwV 2 hts (gd_RX10_94 hB) rfl rfl rfl (by decide +kernel) ⟨Nat.le_of_ble_eq_true rfl, Nat.le_of_ble_eq_true rfl⟩) (rM_mo hK hw) hl.1 ⟨Nat.zero_le _, Nat.zero_le _⟩ rfl rfl (Nat.le_of_ble_eq_true rfl) dX10_layTour_115 (fun r115 _ H locs h hw => ?_)
      refine lv_istore (lv' := [(8, .int r115), (0, .ref (ad 0)), (2, .int x2), (3, .int x3), (4, .int x4), (5, .int x5), (6, .int x6), (7, .int x7)]) hx hb dX10_layTour_118 hl (by decide) rfl (fun ls hl => ?_)
      refine lv_iconst (v := 0) hx hb dX10_layTour_120 (by decide) ?_
      refine lv_istore (lv' := [(9, .int (0 : Int32)), (8, .int r115), (0, .ref (ad 0)), (2, .int x2), (3, .int x3), (4, .int x4), (5, .int x5), (6, .int x6), (7, .int x7)]) hx hb dX10_layTour_121 hl (by decide) rfl (fun ls hl => ?_)
      obtain ⟨n123, h⟩ := h
      exact J123 (L_mo_layTour_104 mo_wide mo_tall mo_kind Q k69 n) ih n123 _ _ _ _ _ _ _ _ _ _ _ h _ _ _ hw (lv_sub hl [2, 3, 4, 5, 6, 7, 8, 1, 0] rfl)
  have J69 : ∀ (n : Nat) (mo_queue : (Nat → Int32)) (mo_sights : (Nat → Int32)) (mo_left : (Nat → Int32)) (x2 : Int32) (x3 : Int32) (x4 : Int32) , L_mo_layTour_69 mo_wide mo_tall mo_kind Q n mo_queue mo_sights mo_left x2 x3 x4 → ∀ (H : Heap) (locs : List Loc) (ls : Array Slot), SW D A s.heap (wdM cI cL cZ ad mo_wide mo_tall mo_kind mo_law mo_range mo_queue mo_far mo_pictures mo_pictureCell mo_facing mo_sights mo_fewest mo_posts mo_postMany mo_left mo_roundMany mo_round mo_shift mo_thief mo_danger mo_old) H locs → lv_has ls 10 [(0, .ref (ad 0)), (2, .int x2), (3, .int x3), (4, .int x4)] → W p l e (headSpec wsX10_layTour rm_mo_layTour).room s m args below meth c H locs 0 0 Z (F0 m 69 ls []) := by
    intro  n
    induction n with
    | zero => intro mo_queue mo_sights mo_left x2 x3 x4 h; exact h.elim
    | succ n ih =>
    intro mo_queue mo_sights mo_left x2 x3 x4 h H locs ls hw hl
    unfold L_mo_layTour_69 at h
    refine lv_iload hx hb dX10_layTour_69 (lv_at hl 3 rfl) ?_
    refine lv_iload_n hx hb dX10_layTour_71 rfl (lv_at hl 2 rfl) ?_
    refine lv_icmp_ge (tgt := 234) hx hb dX10_layTour_72 (by decide) (fun hc => ?_) (fun hc => ?_)
    · replace h := h.1 hc
      rw [hZ]
      exact rt_v (mo_queue, mo_sights, mo_left) hx hb hr hlocks hw h dX10_layTour_234
    · replace h := h.2 hc
      refine lv_aload_n hx hb dX10_layTour_75 rfl (lv_at hl 0 rfl) ?_
      refine gM_mo_queue hx hb hts hin hown hK hw lk21 dX10_layTour_76 ?_
      refine lv_iload hx hb dX10_layTour_79 (lv_at hl 3 rfl) ?_
      refine aM_mo_queue hx hb hK hw h.1 dX10_layTour_81 ?_
      replace h := h.2
      refine lv_sipush (v := 256) hx hb dX10_layTour_82 (by decide) ?_
      refine lv_idiv hx hb dX10_layTour_85 h.1 ?_
      replace h := h.2
      refine lv_topi (fun x5_86 ex5_86 => ?_)
      replace h := h x5_86 ex5_86
      refine lv_istore (lv' := [(5, .int x5_86), (0, .ref (ad 0)), (2, .int x2), (3, .int x3), (4, .int x4)]) hx hb dX10_layTour_86 hl (by decide) rfl (fun ls hl => ?_)
      refine lv_aload_n hx hb dX10_layTour_88 rfl (lv_at hl 1 rfl) ?_
      refine gM_mo_queue hx hb hts hin hown hK hw lk21 dX10_layTour_89 ?_
      refine lv_iload hx hb dX10_layTour_92 (lv_at hl 4 rfl) ?_
      refine aM_mo_queue hx hb hK hw h.1 dX10_layTour_94 ?_
      replace h := h.2
      refine lv_sipush (v := 256) hx hb dX10_layTour_95 (by decide) ?_
      refine lv_irem hx hb dX10_layTour_98 h.1 ?_
      replace h := h.2
      refine lv_topi (fun x6_99 ex6_99 => ?_)
      replace h := h x6_99 ex6_99
      refine lv_istore (lv' := [(6, .int x6_99), (5, .int x5_86), (0, .ref (ad 0)), (2, .int x2), (3, .int x3), (4, .int x4)]) hx hb dX10_layTour_99 hl (by decide) rfl (fun ls hl => ?_)
      refine lv_iconst (v := 0) hx hb dX10_layTour_101 (by decide) ?_
      refine lv_istore (lv' := [(7, .int (0 : Int32)), (6, .int x6_99), (5, .int x5_86), (0, .ref (ad 0)), (2, .int x2), (3, .int x3), (4, .int x4)]) hx hb dX10_layTour_102 hl (by decide) rfl (fun ls hl => ?_)
      obtain ⟨n104, h⟩ := h
      exact J104 (L_mo_layTour_69 mo_wide mo_tall mo_kind Q n) ih n104 _ _ _ _ _ _ _ _ _ h _ _ _ hw (lv_sub hl [3, 4, 5, 6, 2, 1, 0] rfl)
  have J36 : ∀ (_ : True) (mo_queue : (Nat → Int32)) (mo_sights : (Nat → Int32)) (mo_left : (Nat → Int32)) (x1 : Int32) (x2 : Int32) , B_mo_layTour_36 mo_wide mo_tall mo_kind Q mo_queue mo_sights mo_left x1 x2 → ∀ (H : Heap) (locs : List Loc) (ls : Array Slot), SW D A s.heap (wdM cI cL cZ ad mo_wide mo_tall mo_kind mo_law mo_range mo_queue mo_far mo_pictures mo_pictureCell mo_facing mo_sights mo_fewest mo_posts mo_postMany mo_left mo_roundMany mo_round mo_shift mo_thief mo_danger mo_old) H locs → lv_has ls 10 [(0, .ref (ad 0)), (1, .int x1), (2, .int x2)] → W p l e (headSpec wsX10_layTour rm_mo_layTour).room s m args below meth c H locs 0 0 Z (F0 m 36 ls []) := by
    intro _  mo_queue mo_sights mo_left x1 x2 h H locs ls hw hl
    unfold B_mo_layTour_36 at h
    refine lv_iconst (v := 0) hx hb dX10_layTour_36 (by decide) ?_
    refine lv_istore_n (lv' := [(3, .int (0 : Int32)), (0, .ref (ad 0)), (1, .int x1), (2, .int x2)]) hx hb dX10_layTour_37 rfl hl (by decide) rfl (fun ls hl => ?_)
    refine lv_aload_n hx hb dX10_layTour_38 rfl (lv_at hl 1 rfl) ?_
    refine gM_mo_left hx hb hts hin hown hK hw lk42 dX10_layTour_39 ?_
    refine lv_sipush (v := 256) hx hb dX10_layTour_42 (by decide) ?_
    refine lv_iload_n hx hb dX10_layTour_45 rfl (lv_at hl 2 rfl) ?_
    refine lv_imul hx hb dX10_layTour_46 ?_
    refine lv_iload_n hx hb dX10_layTour_47 rfl (lv_at hl 3 rfl) ?_
    refine lv_iadd hx hb dX10_layTour_48 ?_
    refine lv_iconst (v := 0) hx hb dX10_layTour_49 (by decide) ?_
    refine tM_mo_left hx hb hK hw h.1 dX10_layTour_50 (fun H locs hw => ?_)
    replace h := h.2
    refine lv_aload_n hx hb dX10_layTour_51 rfl (lv_at hl 1 rfl) ?_
    refine gM_mo_queue hx hb hts hin hown hK hw lk21 dX10_layTour_52 ?_
    refine lv_iconst (v := 0) hx hb dX10_layTour_55 (by decide) ?_
    refine lv_sipush (v := 256) hx hb dX10_layTour_56 (by decide) ?_
    refine lv_iload_n hx hb dX10_layTour_59 rfl (lv_at hl 2 rfl) ?_
    refine lv_imul hx hb dX10_layTour_60 ?_
    refine lv_iload_n hx hb dX10_layTour_61 rfl (lv_at hl 3 rfl) ?_
    refine lv_iadd hx hb dX10_layTour_62 ?_
    refine tM_mo_queue hx hb hK hw h.1 dX10_layTour_63 (fun H locs hw => ?_)
    replace h := h.2
    refine lv_iconst (v := 1) hx hb dX10_layTour_64 (by decide) ?_
    refine lv_istore_n (lv' := [(3, .int (1 : Int32)), (0, .ref (ad 0)), (1, .int x1), (2, .int x2)]) hx hb dX10_layTour_65 rfl hl (by decide) rfl (fun ls hl => ?_)
    refine lv_iconst (v := 0) hx hb dX10_layTour_66 (by decide) ?_
    refine lv_istore (lv' := [(4, .int (0 : Int32)), (3, .int (1 : Int32)), (0, .ref (ad 0)), (1, .int x1), (2, .int x2)]) hx hb dX10_layTour_67 hl (by decide) rfl (fun ls hl => ?_)
    obtain ⟨n69, h⟩ := h
    exact J69  n69 _ _ _ _ _ _ h _ _ _ hw (lv_sub hl [2, 4, 1, 0] rfl)
  have J15 : ∀ (n : Nat) (mo_queue : (Nat → Int32)) (mo_sights : (Nat → Int32)) (mo_left : (Nat → Int32)) (x1 : Int32) (x2 : Int32) (x3 : Int32) , L_mo_layTour_15 mo_wide mo_tall mo_kind Q n mo_queue mo_sights mo_left x1 x2 x3 → ∀ (H : Heap) (locs : List Loc) (ls : Array Slot), SW D A s.heap (wdM cI cL cZ ad mo_wide mo_tall mo_kind mo_law mo_range mo_queue mo_far mo_pictures mo_pictureCell mo_facing mo_sights mo_fewest mo_posts mo_postMany mo_left mo_roundMany mo_round mo_shift mo_thief mo_danger mo_old) H locs → lv_has ls 10 [(0, .ref (ad 0)), (1, .int x1), (2, .int x2), (3, .int x3)] → W p l e (headSpec wsX10_layTour rm_mo_layTour).room s m args below meth c H locs 0 0 Z (F0 m 15 ls []) := by
    intro  n
    induction n with
    | zero => intro mo_queue mo_sights mo_left x1 x2 x3 h; exact h.elim
    | succ n ih =>
    intro mo_queue mo_sights mo_left x1 x2 x3 h H locs ls hw hl
    unfold L_mo_layTour_15 at h
    refine lv_iload_n hx hb dX10_layTour_15 rfl (lv_at hl 3 rfl) ?_
    refine lv_sipush (v := 16384) hx hb dX10_layTour_16 (by decide) ?_
    refine lv_icmp_ge (tgt := 36) hx hb dX10_layTour_19 (by decide) (fun hc => ?_) (fun hc => ?_)
    · replace h := h.1 hc
      exact J36 trivial  _ _ _ _ _ h _ _ _ hw (lv_sub hl [0, 1, 2] rfl)
    · replace h := h.2 hc
      refine lv_aload_n hx hb dX10_layTour_22 rfl (lv_at hl 0 rfl) ?_
      refine gM_mo_left hx hb hts hin hown hK hw lk42 dX10_layTour_23 ?_
      refine lv_iload_n hx hb dX10_layTour_26 rfl (lv_at hl 3 rfl) ?_
      refine lv_bipush (v := (-9)) hx hb dX10_layTour_27 (by decide) ?_
      refine tM_mo_left hx hb hK hw h.1 dX10_layTour_29 (fun H locs hw => ?_)
      replace h := h.2
      refine lv_iinc (v := (x3 + (1 : Int32))) (lv' := [(3, .int (x3 + (1 : Int32))), (0, .ref (ad 0)), (1, .int x1), (2, .int x2)]) hx hb dX10_layTour_30 hl (k := 3) rfl rfl (by decide) rfl (fun ls hl => ?_)
      refine lv_goto (tgt := 15) hx hb dX10_layTour_33 (by decide) ?_
      exact ih _ _ _ _ _ _ h _ _ _ hw (lv_sub hl [1, 2, 3, 0] rfl)
  unfold P_mo_layTour at h
  have he : entryFrame m args 10 = entryFrame m ([.ref (ad 0), .int x1] : List Value).toArray 10 := by rw [hav]
  refine W.eq he ?_
  have hl := lv_entry ([.ref (ad 0), .int x1]) (n := 10) (Nat.le_of_ble_eq_true rfl)
  rw [lg_entry_eq]
  generalize (lg_sl ([.ref (ad 0), .int x1]) ++ List.replicate (10 - (lg_sl ([.ref (ad 0), .int x1])).length) Slot.unset).toArray = ls at hl ⊢
  have hl : lv_has ls 10 [(0, .ref (ad 0)), (1, .int x1)] := hl
  refine lv_aload_n hx hb dX10_layTour_0 rfl (lv_at hl 0 rfl) ?_
  refine cV_v (b := (ad 0)) (As := []) (rest := []) ⟨hx, hb, hml, hown, hts⟩ hK hw (c_mo_laySights h) (cwV 0 hts (gd_RX10_134 hB) rfl rfl rfl (by decide +kernel) ⟨Nat.le_of_ble_eq_true rfl, Nat.le_of_ble_eq_true rfl⟩) (rM_mo hK hw) hl.1 ⟨Nat.zero_le _, Nat.zero_le _⟩ rfl rfl (Nat.le_of_ble_eq_true rfl) dX10_layTour_1 (fun mo_sights_1 H locs h hw => ?_)
  refine lv_iconst (v := 1) hx hb dX10_layTour_4 (by decide) ?_
  refine lv_aload_n hx hb dX10_layTour_5 rfl (lv_at hl 0 rfl) ?_
  refine gM_mo_pictures hx hb hts hin hown hK hw lk74 dX10_layTour_6 ?_
  refine lv_ishl hx hb dX10_layTour_9 ?_
  refine lv_iconst (v := 1) hx hb dX10_layTour_10 (by decide) ?_
  refine lv_isub hx hb dX10_layTour_11 ?_
  refine lv_topi (fun x2_12 ex2_12 => ?_)
  replace h := h x2_12 ex2_12
  refine lv_istore_n (lv' := [(2, .int x2_12), (0, .ref (ad 0)), (1, .int x1)]) hx hb dX10_layTour_12 rfl hl (by decide) rfl (fun ls hl => ?_)
  refine lv_iconst (v := 0) hx hb dX10_layTour_13 (by decide) ?_
  refine lv_istore_n (lv' := [(3, .int (0 : Int32)), (2, .int x2_12), (0, .ref (ad 0)), (1, .int x1)]) hx hb dX10_layTour_14 rfl hl (by decide) rfl (fun ls hl => ?_)
  obtain ⟨n15, h⟩ := h
  exact J15  n15 _ _ _ _ _ _ h _ _ _ hw (lv_sub hl [2, 3, 1, 0] rfl)
