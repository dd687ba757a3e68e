def rm_mo_watched : Room := { frames := 4, cells := 0, slots := 0, locals := 104 }
set_option maxHeartbeats 4000000 in
set_option maxRecDepth 100000 in
theorem c_mo_watched {l : Launch} {D : va_G} {cI cL cZ : ClassId} {mx my : Nat} {A : Nat → Prop} {ad : Nat → Nat} {mo_wide mo_tall mo_law mo_range mo_pictures mo_postMany : Int32} {mo_kind mo_queue mo_far mo_pictureCell mo_facing mo_sights mo_fewest mo_posts mo_left mo_roundMany mo_round mo_shift mo_thief mo_danger mo_old : Nat → Int32} (x1 : Int32) (x2 : Int32) {Q : Int32 → Prop} (h : P_mo_watched mo_wide mo_tall mo_kind mo_law mo_range mo_roundMany mo_round mo_shift x1 x2 Q) : Met l yX10_watched wsX10_watched rm_mo_watched (va_Pc [.ref (ad 0), .int x1, .int x2] (WC D cI cL cZ mx my A (wdM cI cL cZ ad mo_wide mo_tall mo_kind mo_law mo_range mo_queue mo_far mo_pictures mo_pictureCell mo_facing mo_sights mo_fewest mo_posts mo_postMany mo_left mo_roundMany mo_round mo_shift mo_thief mo_danger mo_old))) (va_Qi (fun (r : Int32) (u : Unit) => Q r) (fun (u : Unit) t => PW D A (wdM cI cL cZ ad mo_wide mo_tall mo_kind mo_law mo_range mo_queue mo_far mo_pictures mo_pictureCell mo_facing mo_sights mo_fewest mo_posts mo_postMany mo_left mo_roundMany mo_round mo_shift mo_thief mo_danger mo_old) t.heap) A) 0 0 A := by
  refine Met.ofW (cc := cX10_watched) (maxL := 3) (ret := (some .int)) (by decide) rfl ?_
  intro p e s m args below meth c s₁ B hml hv
  obtain ⟨hav, hP0, hD0, hK⟩ := hv
  have hx := B.exec
  have hb := B.bytes
  have hr := B.returns
  have hts := atoms_spec (ws := wsX10_watched) B.pre
  have hown : s.vm.findClass RX10 = some m.cls := findClass_of_methodNamed B.named
  have hlocks := B.notSynchronized
  have hB : ∀ w ∈ BIG, w ∈ wsX10_watched := fun _ h => List.mem_cons_of_mem _ h
  obtain ⟨Z, hZ⟩ : ∃ Z : State → Prop, Z = MQ below (va_Qi (fun (r : Int32) (u : Unit) => Q r) (fun (u : Unit) t => PW D A (wdM cI cL cZ ad mo_wide mo_tall mo_kind mo_law mo_range mo_queue mo_far mo_pictures mo_pictureCell mo_facing mo_sights mo_fewest mo_posts mo_postMany mo_left mo_roundMany mo_round mo_shift mo_thief mo_danger mo_old) t.heap) A) args s 0 0 A := ⟨_, rfl⟩
  rw [← hZ]
  have hw : SW D A s.heap (wdM cI cL cZ ad mo_wide mo_tall mo_kind mo_law mo_range mo_queue mo_far mo_pictures mo_pictureCell mo_facing mo_sights mo_fewest mo_posts mo_postMany mo_left mo_roundMany mo_round mo_shift mo_thief mo_danger mo_old) s.heap [] := ⟨hP0, hD0, va_S.rf⟩
  clear hP0 hD0 B
  unfold P_mo_watched at h
  have he : entryFrame m args 3 = entryFrame m ([.ref (ad 0), .int x1, .int x2] : List Value).toArray 3 := by rw [hav]
  refine W.eq he ?_
  have hl := lv_entry ([.ref (ad 0), .int x1, .int x2]) (n := 3) (Nat.le_of_ble_eq_true rfl)
  rw [lg_entry_eq]
  generalize (lg_sl ([.ref (ad 0), .int x1, .int x2]) ++ List.replicate (3 - (lg_sl ([.ref (ad 0), .int x1, .int x2])).length) Slot.unset).toArray = ls at hl ⊢
  have hl : lv_has ls 3 [(0, .ref (ad 0)), (1, .int x1), (2, .int x2)] := hl
  refine lv_aload_n hx hb dX10_watched_0 rfl (lv_at hl 0 rfl) ?_
  refine lv_iload_n hx hb dX10_watched_1 rfl (lv_at hl 1 rfl) ?_
  refine cV_i (b := (ad 0)) (As := [.int x1]) (rest := []) ⟨hx, hb, hml, hown, hts⟩ hK hw (c_mo_isCell x1 h) (cwV 1 hts (gd_RX10_85 hB) rfl rfl rfl (by decide +kernel) ⟨Nat.le_of_ble_eq_true rfl, Nat.le_of_ble_eq_true rfl⟩) (rM_mo hK hw) hl.1 ⟨Nat.zero_le _, Nat.zero_le _⟩ rfl rfl (Nat.le_of_ble_eq_true rfl) dX10_watched_2 (fun r2 _ H locs h hw => ?_)
  refine lv_if_ne (tgt := 10) hx hb dX10_watched_5 (by decide) (fun hc => ?_) (fun hc => ?_)
  · replace h := h.2 hc
    refine lv_iload_n hx hb dX10_watched_10 rfl (lv_at hl 2 rfl) ?_
    refine lv_i2l hx hb dX10_watched_11 rfl ?_
    refine lv_lconst (v := 0) hx hb dX10_watched_12 (by decide) ?_
    refine lv_ldc2 (v := (9999)) hx hb hown (hts _ (hB _ m_1173)) dX10_watched_13 ?_
    refine cS_i (As := [.long (Int32.toInt64 x2), .long (0 : Int64), .long (9999 : Int64)]) (rest := []) ⟨hx, hb, hml, hown, hts⟩ hK hw (c_mo_in (Int32.toInt64 x2) (0 : Int64) (9999 : Int64) h) (va_cwS 3 hts (gd_RX10_77 hB) rfl rfl rfl (by decide +kernel) ⟨Nat.le_of_ble_eq_true rfl, Nat.le_of_ble_eq_true rfl⟩) hl.1 ⟨Nat.zero_le _, Nat.zero_le _⟩ rfl rfl (Nat.le_of_ble_eq_true rfl) dX10_watched_16 (fun r16 _ H locs h hw => ?_)
    refine lv_if_ne (tgt := 27) hx hb dX10_watched_19 (by decide) (fun hc => ?_) (fun hc => ?_)
    · replace h := h.2 hc
      refine lv_aload_n hx hb dX10_watched_27 rfl (lv_at hl 0 rfl) ?_
      refine lv_iload_n hx hb dX10_watched_28 rfl (lv_at hl 1 rfl) ?_
      refine lv_iload_n hx hb dX10_watched_29 rfl (lv_at hl 2 rfl) ?_
      refine cV_i (b := (ad 0)) (As := [.int x1, .int x2]) (rest := []) ⟨hx, hb, hml, hown, hts⟩ hK hw (c_mo_isWatched x1 x2 h) (cwV 2 hts (gd_RX10_166 hB) rfl rfl rfl (by decide +kernel) ⟨Nat.le_of_ble_eq_true rfl, Nat.le_of_ble_eq_true rfl⟩) (rM_mo hK hw) hl.1 ⟨Nat.zero_le _, Nat.zero_le _⟩ rfl rfl (Nat.le_of_ble_eq_true rfl) dX10_watched_30 (fun r30 _ H locs h hw => ?_)
      refine lv_if_eq (tgt := 40) hx hb dX10_watched_33 (by decide) (fun hc => ?_) (fun hc => ?_)
      · replace h := h.1 hc
        refine lv_iconst (v := 0) hx hb dX10_watched_40 (by decide) ?_
        rw [hZ]
        exact rt_i () hx hb hr hlocks hw h dX10_watched_41
      · replace h := h.2 hc
        refine lv_iconst (v := 1) hx hb dX10_watched_36 (by decide) ?_
        refine lv_goto (tgt := 41) hx hb dX10_watched_37 (by decide) ?_
        rw [hZ]
        exact rt_i () hx hb hr hlocks hw h dX10_watched_41
    · replace h := h.1 hc
      refine lv_bipush (v := (-2)) hx hb dX10_watched_22 (by decide) ?_
      refine lv_goto (tgt := 41) hx hb dX10_watched_24 (by decide) ?_
      rw [hZ]
      exact rt_i () hx hb hr hlocks hw h dX10_watched_41
  · replace h := h.1 hc
    refine lv_iconst (v := (-1)) hx hb dX10_watched_8 (by decide) ?_
    rw [hZ]
    exact rt_i () hx hb hr hlocks hw h dX10_watched_9
def rm_mo_common : Room := { frames := 0, cells := 0, slots := 0, locals := 0 }
set_option maxHeartbeats 4000000 in
set_option maxRecDepth 100000 in
theorem c_mo_common {l : Launch} {D : va_G} {cI cL cZ : ClassId} {mx my : Nat} {A : Nat → Prop}  {w : va_W} (x0 : Int32) (x1 : Int32) {Q : Int32 → Prop} (h : P_mo_common x0 x1 Q) : Met l yX10_common wsX10_common rm_mo_common (va_Pc [.int x0, .int x1] (WC D cI cL cZ mx my A w)) (va_Qi (fun (r : Int32) (u : Unit) => Q r) (fun (u : Unit) t => PW D A w t.heap) A) 0 0 A := by
  refine Met.ofW (cc := cX10_common) (maxL := 5) (ret := (some .int)) (by decide) rfl ?_
  intro p e s m args below meth c s₁ B hml hv
  obtain ⟨hav, hP0, hD0, hK⟩ := hv
  have hx := B.exec
  have hb := B.bytes
  have hr := B.returns
  have hts := atoms_spec (ws := wsX10_common) B.pre
  have hown : s.vm.findClass RX10 = some m.cls := findClass_of_methodNamed B.named
  have hlocks := B.notSynchronized
  have hB : ∀ w ∈ BIG, w ∈ wsX10_common := fun _ h => List.mem_cons_of_mem _ h
  obtain ⟨Z, hZ⟩ : ∃ Z : State → Prop, Z = MQ below (va_Qi (fun (r : Int32) (u : Unit) => Q r) (fun (u : Unit) t => PW D A w t.heap) A) args s 0 0 A := ⟨_, rfl⟩
  rw [← hZ]
  have hw : SW D A s.heap w s.heap [] := ⟨hP0, hD0, va_S.rf⟩
  clear hP0 hD0 B
  have J4 : ∀ (n : Nat) (x2 : Int32) (x3 : Int32) , L_mo_common_4 Q n x2 x3 → ∀ (H : Heap) (locs : List Loc) (ls : Array Slot), SW D A s.heap w H locs → lv_has ls 5 [(2, .int x2), (3, .int x3)] → W p l e (headSpec wsX10_common rm_mo_common).room s m args below meth c H locs 0 0 Z (F0 m 4 ls []) := by
    intro  n
    induction n with
    | zero => intro x2 x3 h; exact h.elim
    | succ n ih =>
    intro x2 x3 h H locs ls hw hl
    unfold L_mo_common_4 at h
    refine lv_iload_n hx hb dX10_common_4 rfl (lv_at hl 1 rfl) ?_
    refine lv_if_eq (tgt := 21) hx hb dX10_common_5 (by decide) (fun hc => ?_) (fun hc => ?_)
    · replace h := h.1 hc
      refine lv_iload_n hx hb dX10_common_21 rfl (lv_at hl 0 rfl) ?_
      rw [hZ]
      exact rt_i () hx hb hr hlocks hw h dX10_common_22
    · replace h := h.2 hc
      refine lv_iload_n hx hb dX10_common_8 rfl (lv_at hl 0 rfl) ?_
      refine lv_iload_n hx hb dX10_common_9 rfl (lv_at hl 1 rfl) ?_
      refine lv_irem hx hb dX10_common_10 h.1 ?_
      replace h := h.2
      refine lv_topi (fun x4_11 ex4_11 => ?_)
      replace h := h x4_11 ex4_11
      refine lv_istore (lv' := [(4, .int x4_11), (2, .int x2), (3, .int x3)]) hx hb dX10_common_11 hl (by decide) rfl (fun ls hl => ?_)
      refine lv_iload_n hx hb dX10_common_13 rfl (lv_at hl 2 rfl) ?_
      refine lv_istore_n (lv' := [(2, .int x3), (4, .int x4_11), (3, .int x3)]) hx hb dX10_common_14 rfl hl (by decide) rfl (fun ls hl => ?_)
      refine lv_iload hx hb dX10_common_15 (lv_at hl 1 rfl) ?_
      refine lv_istore_n (lv' := [(3, .int x4_11), (2, .int x3), (4, .int x4_11)]) hx hb dX10_common_17 rfl hl (by decide) rfl (fun ls hl => ?_)
      refine lv_goto (tgt := 4) hx hb dX10_common_18 (by decide) ?_
      exact ih _ _ h _ _ _ hw (lv_sub hl [1, 0] rfl)
  unfold P_mo_common at h
  have he : entryFrame m args 5 = entryFrame m ([.int x0, .int x1] : List Value).toArray 5 := by rw [hav]
  refine W.eq he ?_
  have hl := lv_entry ([.int x0, .int x1]) (n := 5) (Nat.le_of_ble_eq_true rfl)
  rw [lg_entry_eq]
  generalize (lg_sl ([.int x0, .int x1]) ++ List.replicate (5 - (lg_sl ([.int x0, .int x1])).length) Slot.unset).toArray = ls at hl ⊢
  have hl : lv_has ls 5 [(0, .int x0), (1, .int x1)] := hl
  refine lv_iload_n hx hb dX10_common_0 rfl (lv_at hl 0 rfl) ?_
  refine lv_istore_n (lv' := [(2, .int x0), (0, .int x0), (1, .int x1)]) hx hb dX10_common_1 rfl hl (by decide) rfl (fun ls hl => ?_)
  refine lv_iload_n hx hb dX10_common_2 rfl (lv_at hl 2 rfl) ?_
  refine lv_istore_n (lv' := [(3, .int x1), (2, .int x0), (0, .int x0), (1, .int x1)]) hx hb dX10_common_3 rfl hl (by decide) rfl (fun ls hl => ?_)
  obtain ⟨n4, h⟩ := h
  exact J4  n4 _ _ h _ _ _ hw (lv_sub hl [1, 0] rfl)
def rm_mo_periodNow : Room := { frames := 1, cells := 0, slots := 0, locals := 24 }
set_option maxHeartbeats 4000000 in
set_option maxRecDepth 100000 in
theorem c_mo_periodNow {l : Launch} {D : va_G} {cI cL cZ : ClassId} {mx my : Nat} {A : Nat → Prop} {ad : Nat → Nat} {mo_wide mo_tall mo_law mo_range mo_pictures mo_postMany : Int32} {mo_kind mo_queue mo_far mo_pictureCell mo_facing mo_sights mo_fewest mo_posts mo_left mo_roundMany mo_round mo_shift mo_thief mo_danger mo_old : Nat → Int32}  {Q : Int32 → Prop} (h : P_mo_periodNow mo_roundMany Q) : Met l yX10_periodNow wsX10_periodNow rm_mo_periodNow (va_Pc [.ref (ad 0)] (WC D cI cL cZ mx my A (wdM cI cL cZ ad mo_wide mo_tall mo_kind mo_law mo_range mo_queue mo_far mo_pictures mo_pictureCell mo_facing mo_sights mo_fewest mo_posts mo_postMany mo_left mo_roundMany mo_round mo_shift mo_thief mo_danger mo_old))) (va_Qi (fun (r : Int32) (u : Unit) => Q r) (fun (u : Unit) t => PW D A (wdM cI cL cZ ad mo_wide mo_tall mo_kind mo_law mo_range mo_queue mo_far mo_pictures mo_pictureCell mo_facing mo_sights mo_fewest mo_posts mo_postMany mo_left mo_roundMany mo_round mo_shift mo_thief mo_danger mo_old) t.heap) A) 0 0 A := by
  refine Met.ofW (cc := cX10_periodNow) (maxL := 3) (ret := (some .int)) (by decide) rfl ?_
  intro p e s m args below meth c s₁ B hml hv
  obtain ⟨hav, hP0, hD0, hK⟩ := hv
  have hx := B.exec
  have hb := B.bytes
  have hr := B.returns
  have hts := atoms_spec (ws := wsX10_periodNow) B.pre
  have hown : s.vm.findClass RX10 = some m.cls := findClass_of_methodNamed B.named
  have hlocks := B.notSynchronized
  have hB : ∀ w ∈ BIG, w ∈ wsX10_periodNow := fun _ h => List.mem_cons_of_mem _ h
  have hin : ∀ w ∈ wsX100, w ∈ wsX10_periodNow := fun w h => hB w (inB_X10 w h)
  have lk45 := hts _ (hB _ m_946)
  obtain ⟨Z, hZ⟩ : ∃ Z : State → Prop, Z = MQ below (va_Qi (fun (r : Int32) (u : Unit) => Q r) (fun (u : Unit) t => PW D A (wdM cI cL cZ ad mo_wide mo_tall mo_kind mo_law mo_range mo_queue mo_far mo_pictures mo_pictureCell mo_facing mo_sights mo_fewest mo_posts mo_postMany mo_left mo_roundMany mo_round mo_shift mo_thief mo_danger mo_old) t.heap) A) args s 0 0 A := ⟨_, rfl⟩
  rw [← hZ]
  have hw : SW D A s.heap (wdM cI cL cZ ad mo_wide mo_tall mo_kind mo_law mo_range mo_queue mo_far mo_pictures mo_pictureCell mo_facing mo_sights mo_fewest mo_posts mo_postMany mo_left mo_roundMany mo_round mo_shift mo_thief mo_danger mo_old) s.heap [] := ⟨hP0, hD0, va_S.rf⟩
  clear hP0 hD0 B
  have J4 : ∀ (n : Nat) (x1 : Int32) (x2 : Int32) , L_mo_periodNow_4 mo_roundMany Q n x1 x2 → ∀ (H : Heap) (locs : List Loc) (ls : Array Slot), SW D A s.heap (wdM cI cL cZ ad mo_wide mo_tall mo_kind mo_law mo_range mo_queue mo_far mo_pictures mo_pictureCell mo_facing mo_sights mo_fewest mo_posts mo_postMany mo_left mo_roundMany mo_round mo_shift mo_thief mo_danger mo_old) H locs → lv_has ls 3 [(0, .ref (ad 0)), (1, .int x1), (2, .int x2)] → W p l e (headSpec wsX10_periodNow rm_mo_periodNow).room s m args below meth c H locs 0 0 Z (F0 m 4 ls []) := by
    intro  n
    induction n with
    | zero => intro x1 x2 h; exact h.elim
    | succ n ih =>
    intro x1 x2 h H locs ls hw hl
    unfold L_mo_periodNow_4 at h
    refine lv_iload_n hx hb dX10_periodNow_4 rfl (lv_at hl 2 rfl) ?_
    refine lv_iconst (v := 4) hx hb dX10_periodNow_5 (by decide) ?_
    refine lv_icmp_ge (tgt := 48) hx hb dX10_periodNow_6 (by decide) (fun hc => ?_) (fun hc => ?_)
    · replace h := h.1 hc
      refine lv_iload_n hx hb dX10_periodNow_48 rfl (lv_at hl 1 rfl) ?_
      rw [hZ]
      exact rt_i () hx hb hr hlocks hw h dX10_periodNow_49
    · replace h := h.2 hc
      refine lv_aload_n hx hb dX10_periodNow_9 rfl (lv_at hl 0 rfl) ?_
      refine gM_mo_roundMany hx hb hts hin hown hK hw lk45 dX10_periodNow_10 ?_
      refine lv_iload_n hx hb dX10_periodNow_13 rfl (lv_at hl 2 rfl) ?_
      refine aM_mo_roundMany hx hb hK hw h.1 dX10_periodNow_14 ?_
      replace h := h.2
      refine lv_if_ne (tgt := 22) hx hb dX10_periodNow_15 (by decide) (fun hc => ?_) (fun hc => ?_)
      · replace h := h.2 hc
        refine lv_iload_n hx hb dX10_periodNow_22 rfl (lv_at hl 1 rfl) ?_
        refine lv_iload_n hx hb dX10_periodNow_23 rfl (lv_at hl 1 rfl) ?_
        refine lv_aload_n hx hb dX10_periodNow_24 rfl (lv_at hl 0 rfl) ?_
        refine gM_mo_roundMany hx hb hts hin hown hK hw lk45 dX10_periodNow_25 ?_
        refine lv_iload_n hx hb dX10_periodNow_28 rfl (lv_at hl 2 rfl) ?_
        refine aM_mo_roundMany hx hb hK hw h.1 dX10_periodNow_29 ?_
        replace h := h.2
        refine cS_i (As := [.int x1, .int (mo_roundMany x2.toNatClampNeg)]) (rest := [.int x1]) ⟨hx, hb, hml, hown, hts⟩ hK hw (c_mo_common x1 (mo_roundMany x2.toNatClampNeg) h) (va_cwS 2 hts (gd_RX10_169 hB) rfl rfl rfl (by decide +kernel) ⟨Nat.le_of_ble_eq_true rfl, Nat.le_of_ble_eq_true rfl⟩) hl.1 ⟨Nat.zero_le _, Nat.zero_le _⟩ rfl rfl (Nat.le_of_ble_eq_true rfl) dX10_periodNow_30 (fun r30 _ H locs h hw => ?_)
        refine lv_idiv hx hb dX10_periodNow_33 h.1 ?_
        replace h := h.2
        refine lv_aload_n hx hb dX10_periodNow_34 rfl (lv_at hl 0 rfl) ?_
        refine gM_mo_roundMany hx hb hts hin hown hK hw lk45 dX10_periodNow_35 ?_
        refine lv_iload_n hx hb dX10_periodNow_38 rfl (lv_at hl 2 rfl) ?_
        refine aM_mo_roundMany hx hb hK hw h.1 dX10_periodNow_39 ?_
        replace h := h.2
        refine lv_imul hx hb dX10_periodNow_40 ?_
        refine lv_topi (fun x1_41 ex1_41 => ?_)
        replace h := h x1_41 ex1_41
        refine lv_istore_n (lv' := [(1, .int x1_41), (0, .ref (ad 0)), (2, .int x2)]) hx hb dX10_periodNow_41 rfl hl (by decide) rfl (fun ls hl => ?_)
        refine lv_iinc (v := (x2 + (1 : Int32))) (lv' := [(2, .int (x2 + (1 : Int32))), (1, .int x1_41), (0, .ref (ad 0))]) hx hb dX10_periodNow_42 hl (k := 2) rfl rfl (by decide) rfl (fun ls hl => ?_)
        refine lv_goto (tgt := 4) hx hb dX10_periodNow_45 (by decide) ?_
        exact ih _ _ h _ _ _ hw (lv_sub hl [2, 1, 0] rfl)
      · replace h := h.1 hc
        refine lv_iload_n hx hb dX10_periodNow_18 rfl (lv_at hl 1 rfl) ?_
        refine lv_goto (tgt := 41) hx hb dX10_periodNow_19 (by decide) ?_
        refine lv_istore_n (lv' := [(1, .int x1), (0, .ref (ad 0)), (2, .int x2)]) hx hb dX10_periodNow_41 rfl hl (by decide) rfl (fun ls hl => ?_)
        refine lv_iinc (v := (x2 + (1 : Int32))) (lv' := [(2, .int (x2 + (1 : Int32))), (1, .int x1), (0, .ref (ad 0))]) hx hb dX10_periodNow_42 hl (k := 2) rfl rfl (by decide) rfl (fun ls hl => ?_)
        refine lv_goto (tgt := 4) hx hb dX10_periodNow_45 (by decide) ?_
        exact ih _ _ h _ _ _ hw (lv_sub hl [2, 1, 0] rfl)
  unfold P_mo_periodNow at h
  have he : entryFrame m args 3 = entryFrame m ([.ref (ad 0)] : List Value).toArray 3 := by rw [hav]
  refine W.eq he ?_
  have hl := lv_entry ([.ref (ad 0)]) (n := 3) (Nat.le_of_ble_eq_true rfl)
  rw [lg_entry_eq]
  generalize (lg_sl ([.ref (ad 0)]) ++ List.replicate (3 - (lg_sl ([.ref (ad 0)])).length) Slot.unset).toArray = ls at hl ⊢
  have hl : lv_has ls 3 [(0, .ref (ad 0))] := hl
  refine lv_iconst (v := 1) hx hb dX10_periodNow_0 (by decide) ?_
  refine lv_istore_n (lv' := [(1, .int (1 : Int32)), (0, .ref (ad 0))]) hx hb dX10_periodNow_1 rfl hl (by decide) rfl (fun ls hl => ?_)
  refine lv_iconst (v := 0) hx hb dX10_periodNow_2 (by decide) ?_
  refine lv_istore_n (lv' := [(2, .int (0 : Int32)), (1, .int (1 : Int32)), (0, .ref (ad 0))]) hx hb dX10_periodNow_3 rfl hl (by decide) rfl (fun ls hl => ?_)
  obtain ⟨n4, h⟩ := h
  exact J4  n4 _ _ h _ _ _ hw (lv_sub hl [2, 1, 0] rfl)
def rm_mo_period : Room := { frames := 2, cells := 0, slots := 0, locals := 46 }
set_option maxHeartbeats 4000000 in
set_option maxRecDepth 100000 in
theorem c_mo_period {l : Launch} {D : va_G} {cI cL cZ : ClassId} {mx my : Nat} {A : Nat → Prop} {ad : Nat → Nat} {mo_wide mo_tall mo_law mo_range mo_pictures mo_postMany : Int32} {mo_kind mo_queue mo_far mo_pictureCell mo_facing mo_sights mo_fewest mo_posts mo_left mo_roundMany mo_round mo_shift mo_thief mo_danger mo_old : Nat → Int32}  {Q : Int32 → Prop} (h : P_mo_period mo_roundMany Q) : Met l yX10_period wsX10_period rm_mo_period (va_Pc [.ref (ad 0)] (WC D cI cL cZ mx my A (wdM cI cL cZ ad mo_wide mo_tall mo_kind mo_law mo_range mo_queue mo_far mo_pictures mo_pictureCell mo_facing mo_sights mo_fewest mo_posts mo_postMany mo_left mo_roundMany mo_round mo_shift mo_thief mo_danger mo_old))) (va_Qi (fun (r : Int32) (u : Unit) => Q r) (fun (u : Unit) t => PW D A (wdM cI cL cZ ad mo_wide mo_tall mo_kind mo_law mo_range mo_queue mo_far mo_pictures mo_pictureCell mo_facing mo_sights mo_fewest mo_posts mo_postMany mo_left mo_roundMany mo_round mo_shift mo_thief mo_danger mo_old) t.heap) A) 0 0 A := by
  refine Met.ofW (cc := cX10_period) (maxL := 1) (ret := (some .int)) (by decide) rfl ?_
  intro p e s m args below meth c s₁ B hml hv
  obtain ⟨hav, hP0, hD0, hK⟩ := hv
  have hx := B.exec
  have hb := B.bytes
  have hr := B.returns
  have hts := atoms_spec (ws := wsX10_period) B.pre
  have hown : s.vm.findClass RX10 = some m.cls := findClass_of_methodNamed B.named
  have hlocks := B.notSynchronized
  have hB : ∀ w ∈ BIG, w ∈ wsX10_period := fun _ h => List.mem_cons_of_mem _ h
  obtain ⟨Z, hZ⟩ : ∃ Z : State → Prop, Z = MQ below (va_Qi (fun (r : Int32) (u : Unit) => Q r) (fun (u : Unit) t => PW D A (wdM cI cL cZ ad mo_wide mo_tall mo_kind mo_law mo_range mo_queue mo_far mo_pictures mo_pictureCell mo_facing mo_sights mo_fewest mo_posts mo_postMany mo_left mo_roundMany mo_round mo_shift mo_thief mo_danger mo_old) t.heap) A) args s 0 0 A := ⟨_, rfl⟩
  rw [← hZ]
  have hw : SW D A s.heap (wdM cI cL cZ ad mo_wide mo_tall mo_kind mo_law mo_range mo_queue mo_far mo_pictures mo_pictureCell mo_facing mo_sights mo_fewest mo_posts mo_postMany mo_left mo_roundMany mo_round mo_shift mo_thief mo_danger mo_old) s.heap [] := ⟨hP0, hD0, va_S.rf⟩
  clear hP0 hD0 B
  unfold P_mo_period at h
  have he : entryFrame m args 1 = entryFrame m ([.ref (ad 0)] : List Value).toArray 1 := by rw [hav]
  refine W.eq he ?_
  have hl := lv_entry ([.ref (ad 0)]) (n := 1) (Nat.le_of_ble_eq_true rfl)
  rw [lg_entry_eq]
  generalize (lg_sl ([.ref (ad 0)]) ++ List.replicate (1 - (lg_sl ([.ref (ad 0)])).length) Slot.unset).toArray = ls at hl ⊢
  have hl : lv_has ls 1 [(0, .ref (ad 0))] := hl
  refine lv_aload_n hx hb dX10_period_0 rfl (lv_at hl 0 rfl) ?_
  refine cV_i (b := (ad 0)) (As := []) (rest := []) ⟨hx, hb, hml, hown, hts⟩ hK hw (c_mo_periodNow h) (cwV 0 hts (gd_RX10_172 hB) rfl rfl rfl (by decide +kernel) ⟨Nat.le_of_ble_eq_true rfl, Nat.le_of_ble_eq_true rfl⟩) (rM_mo hK hw) hl.1 ⟨Nat.zero_le _, Nat.zero_le _⟩ rfl rfl (Nat.le_of_ble_eq_true rfl) dX10_period_1 (fun r1 _ H locs h hw => ?_)
  rw [hZ]
  exact rt_i () hx hb hr hlocks hw h dX10_period_4
def rm_mo_isInSight : Room := { frames := 4, cells := 0, slots := 0, locals := 105 }
set_option maxHeartbeats 4000000 in
set_option maxRecDepth 100000 in
theorem c_mo_isInSight {l : Launch} {D : va_G} {cI cL cZ : ClassId} {mx my : Nat} {A : Nat → Prop} {ad : Nat → Nat} {mo_wide mo_tall mo_law mo_range mo_pictures mo_postMany : Int32} {mo_kind mo_queue mo_far mo_pictureCell mo_facing mo_sights mo_fewest mo_posts mo_left mo_roundMany mo_round mo_shift mo_thief mo_danger mo_old : Nat → Int32} (x1 : Int32) (x2 : Int32) {Q : Int32 → Prop} (h : P_mo_isInSight mo_wide mo_kind mo_law mo_range mo_pictureCell mo_facing mo_roundMany mo_round mo_shift x1 x2 Q) : Met l yX10_isInSight wsX10_isInSight rm_mo_isInSight (va_Pc [.ref (ad 0), .int x1, .int x2] (WC D cI cL cZ mx my A (wdM cI cL cZ ad mo_wide mo_tall mo_kind mo_law mo_range mo_queue mo_far mo_pictures mo_pictureCell mo_facing mo_sights mo_fewest mo_posts mo_postMany mo_left mo_roundMany mo_round mo_shift mo_thief mo_danger mo_old))) (va_Qi (fun (r : Int32) (u : Unit) => Q r) (fun (u : Unit) t => PW D A (wdM cI cL cZ ad mo_wide mo_tall mo_kind mo_law mo_range mo_queue mo_far mo_pictures mo_pictureCell mo_facing mo_sights mo_fewest mo_posts mo_postMany mo_left mo_roundMany mo_round mo_shift mo_thief mo_danger mo_old) t.heap) A) 0 0 A := by
  refine Met.ofW (cc := cX10_isInSight) (maxL := 6) (ret := (some .boolean)) (by decide) rfl ?_
  intro p e s m args below meth c s₁ B hml hv
  obtain ⟨hav, hP0, hD0, hK⟩ := hv
  have hx := B.exec
  have hb := B.bytes
  have hr := B.returns
  have hts := atoms_spec (ws := wsX10_isInSight) B.pre
  have hown : s.vm.findClass RX10 = some m.cls := findClass_of_methodNamed B.named
  have hlocks := B.notSynchronized
  have hB : ∀ w ∈ BIG, w ∈ wsX10_isInSight := fun _ h => List.mem_cons_of_mem _ h
  obtain ⟨Z, hZ⟩ : ∃ Z : State → Prop, Z = MQ below (va_Qi (fun (r : Int32) (u : Unit) => Q r) (fun (u : Unit) t => PW D A (wdM cI cL cZ ad mo_wide mo_tall mo_kind mo_law mo_range mo_queue mo_far mo_pictures mo_pictureCell mo_facing mo_sights mo_fewest mo_posts mo_postMany mo_left mo_roundMany mo_round mo_shift mo_thief mo_danger mo_old) t.heap) A) args s 0 0 A := ⟨_, rfl⟩
  rw [← hZ]
  have hw : SW D A s.heap (wdM cI cL cZ ad mo_wide mo_tall mo_kind mo_law mo_range mo_queue mo_far mo_pictures mo_pictureCell mo_facing mo_sights mo_fewest mo_posts mo_postMany mo_left mo_roundMany mo_round mo_shift mo_thief mo_danger mo_old) s.heap [] := ⟨hP0, hD0, va_S.rf⟩
  clear hP0 hD0 B
  have J5 : ∀ (n : Nat) (x1 : Int32) (x2 : Int32) (x3 : Int32) (x4 : Int32) , L_mo_isInSight_5 mo_wide mo_kind mo_law mo_range mo_pictureCell mo_facing mo_roundMany mo_round mo_shift Q n x1 x2 x3 x4 → ∀ (H : Heap) (locs : List Loc) (ls : Array Slot), SW D A s.heap (wdM cI cL cZ ad mo_wide mo_tall mo_kind mo_law mo_range mo_queue mo_far mo_pictures mo_pictureCell mo_facing mo_sights mo_fewest mo_posts mo_postMany mo_left mo_roundMany mo_round mo_shift mo_thief mo_danger mo_old) H locs → lv_has ls 6 [(0, .ref (ad 0)), (1, .int x1), (2, .int x2), (3, .int x3), (4, .int x4)] → W p l e (headSpec wsX10_isInSight rm_mo_isInSight).room s m args below meth c H locs 0 0 Z (F0 m 5 ls []) := by
    intro  n
    induction n with
    | zero => intro x1 x2 x3 x4 h; exact h.elim
    | succ n ih =>
    intro x1 x2 x3 x4 h H locs ls hw hl
    unfold L_mo_isInSight_5 at h
    refine lv_iload hx hb dX10_isInSight_5 (lv_at hl 4 rfl) ?_
    refine lv_iconst (v := 4) hx hb dX10_isInSight_7 (by decide) ?_
    refine lv_icmp_ge (tgt := 62) hx hb dX10_isInSight_8 (by decide) (fun hc => ?_) (fun hc => ?_)
    · replace h := h.1 hc
      refine lv_iload_n hx hb dX10_isInSight_62 rfl (lv_at hl 3 rfl) ?_
      rw [hZ]
      exact rt_z () hx hb hr hlocks hw h.1 h.2 dX10_isInSight_63
    · replace h := h.2 hc
      refine lv_aload_n hx hb dX10_isInSight_11 rfl (lv_at hl 0 rfl) ?_
      refine lv_iload hx hb dX10_isInSight_12 (lv_at hl 4 rfl) ?_
      refine lv_iload_n hx hb dX10_isInSight_14 rfl (lv_at hl 2 rfl) ?_
      refine cV_i (b := (ad 0)) (As := [.int x4, .int x2]) (rest := []) ⟨hx, hb, hml, hown, hts⟩ hK hw (c_mo_whereAt x4 x2 h) (cwV 2 hts (gd_RX10_163 hB) rfl rfl rfl (by decide +kernel) ⟨Nat.le_of_ble_eq_true rfl, Nat.le_of_ble_eq_true rfl⟩) (rM_mo hK hw) hl.1 ⟨Nat.zero_le _, Nat.zero_le _⟩ rfl rfl (Nat.le_of_ble_eq_true rfl) dX10_isInSight_15 (fun r15 _ H locs h hw => ?_)
      refine lv_istore (lv' := [(5, .int r15), (0, .ref (ad 0)), (1, .int x1), (2, .int x2), (3, .int x3), (4, .int x4)]) hx hb dX10_isInSight_18 hl (by decide) rfl (fun ls hl => ?_)
      refine lv_iload_n hx hb dX10_isInSight_20 rfl (lv_at hl 4 rfl) ?_
      refine lv_if_ne (tgt := 50) hx hb dX10_isInSight_21 (by decide) (fun hc => ?_) (fun hc => ?_)
      · replace h := h.2 hc
        refine lv_iconst (v := 1) hx hb dX10_isInSight_50 (by decide) ?_
        refine lv_goto (tgt := 55) hx hb dX10_isInSight_51 (by decide) ?_
        refine lv_istore_n (lv' := [(3, .int (1 : Int32)), (5, .int r15), (0, .ref (ad 0)), (1, .int x1), (2, .int x2), (4, .int x4)]) hx hb dX10_isInSight_55 rfl hl (by decide) rfl (fun ls hl => ?_)
        refine lv_iinc (v := (x4 + (1 : Int32))) (lv' := [(4, .int (x4 + (1 : Int32))), (3, .int (1 : Int32)), (5, .int r15), (0, .ref (ad 0)), (1, .int x1), (2, .int x2)]) hx hb dX10_isInSight_56 hl (k := 5) rfl rfl (by decide) rfl (fun ls hl => ?_)
        refine lv_goto (tgt := 5) hx hb dX10_isInSight_59 (by decide) ?_
        exact ih _ _ _ _ h _ _ _ hw (lv_sub hl [3, 4, 5, 1, 0] rfl)
      · replace h := h.1 hc
        refine lv_iload hx hb dX10_isInSight_24 (lv_at hl 0 rfl) ?_
        refine lv_bipush (v := (-9)) hx hb dX10_isInSight_26 (by decide) ?_
        refine lv_icmp_eq (tgt := 54) hx hb dX10_isInSight_28 (by decide) (fun hc => ?_) (fun hc => ?_)
        · replace h := h.1 hc
          refine lv_iconst (v := 0) hx hb dX10_isInSight_54 (by decide) ?_
          refine lv_istore_n (lv' := [(3, .int (0 : Int32)), (5, .int r15), (0, .ref (ad 0)), (1, .int x1), (2, .int x2), (4, .int x4)]) hx hb dX10_isInSight_55 rfl hl (by decide) rfl (fun ls hl => ?_)
          refine lv_iinc (v := (x4 + (1 : Int32))) (lv' := [(4, .int (x4 + (1 : Int32))), (3, .int (0 : Int32)), (5, .int r15), (0, .ref (ad 0)), (1, .int x1), (2, .int x2)]) hx hb dX10_isInSight_56 hl (k := 5) rfl rfl (by decide) rfl (fun ls hl => ?_)
          refine lv_goto (tgt := 5) hx hb dX10_isInSight_59 (by decide) ?_
          exact ih _ _ _ _ h _ _ _ hw (lv_sub hl [3, 4, 5, 1, 0] rfl)
        · replace h := h.2 hc
          refine lv_aload_n hx hb dX10_isInSight_31 rfl (lv_at hl 1 rfl) ?_
          refine lv_iload hx hb dX10_isInSight_32 (lv_at hl 0 rfl) ?_
          refine cV_i (b := (ad 0)) (As := [.int r15]) (rest := []) ⟨hx, hb, hml, hown, hts⟩ hK hw (c_mo_stands r15 h) (cwV 1 hts (gd_RX10_91 hB) rfl rfl rfl (by decide +kernel) ⟨Nat.le_of_ble_eq_true rfl, Nat.le_of_ble_eq_true rfl⟩) (rM_mo hK hw) hl.1 ⟨Nat.zero_le _, Nat.zero_le _⟩ rfl rfl (Nat.le_of_ble_eq_true rfl) dX10_isInSight_34 (fun r34 _ H locs h hw => ?_)
          refine lv_if_eq (tgt := 54) hx hb dX10_isInSight_37 (by decide) (fun hc => ?_) (fun hc => ?_)
          · replace h := h.1 hc
            refine lv_iconst (v := 0) hx hb dX10_isInSight_54 (by decide) ?_
            refine lv_istore_n (lv' := [(3, .int (0 : Int32)), (5, .int r15), (0, .ref (ad 0)), (1, .int x1), (2, .int x2), (4, .int x4)]) hx hb dX10_isInSight_55 rfl hl (by decide) rfl (fun ls hl => ?_)
            refine lv_iinc (v := (x4 + (1 : Int32))) (lv' := [(4, .int (x4 + (1 : Int32))), (3, .int (0 : Int32)), (5, .int r15), (0, .ref (ad 0)), (1, .int x1), (2, .int x2)]) hx hb dX10_isInSight_56 hl (k := 5) rfl rfl (by decide) rfl (fun ls hl => ?_)
            refine lv_goto (tgt := 5) hx hb dX10_isInSight_59 (by decide) ?_
            exact ih _ _ _ _ h _ _ _ hw (lv_sub hl [3, 4, 5, 1, 0] rfl)
          · replace h := h.2 hc
            refine lv_aload_n hx hb dX10_isInSight_40 rfl (lv_at hl 1 rfl) ?_
            refine lv_iload_n hx hb dX10_isInSight_41 rfl (lv_at hl 2 rfl) ?_
            refine lv_iload hx hb dX10_isInSight_42 (lv_at hl 0 rfl) ?_
            refine cV_i (b := (ad 0)) (As := [.int x1, .int r15]) (rest := []) ⟨hx, hb, hml, hown, hts⟩ hK hw (c_mo_sightsPicture x1 r15 h) (cwV 2 hts (gd_RX10_128 hB) rfl rfl rfl (by decide +kernel) ⟨Nat.le_of_ble_eq_true rfl, Nat.le_of_ble_eq_true rfl⟩) (rM_mo hK hw) hl.1 ⟨Nat.zero_le _, Nat.zero_le _⟩ rfl rfl (Nat.le_of_ble_eq_true rfl) dX10_isInSight_44 (fun r44 _ H locs h hw => ?_)
            refine lv_if_eq (tgt := 54) hx hb dX10_isInSight_47 (by decide) (fun hc => ?_) (fun hc => ?_)
            · replace h := h.1 hc
              refine lv_iconst (v := 0) hx hb dX10_isInSight_54 (by decide) ?_
              refine lv_istore_n (lv' := [(3, .int (0 : Int32)), (5, .int r15), (0, .ref (ad 0)), (1, .int x1), (2, .int x2), (4, .int x4)]) hx hb dX10_isInSight_55 rfl hl (by decide) rfl (fun ls hl => ?_)
              refine lv_iinc (v := (x4 + (1 : Int32))) (lv' := [(4, .int (x4 + (1 : Int32))), (3, .int (0 : Int32)), (5, .int r15), (0, .ref (ad 0)), (1, .int x1), (2, .int x2)]) hx hb dX10_isInSight_56 hl (k := 5) rfl rfl (by decide) rfl (fun ls hl => ?_)
              refine lv_goto (tgt := 5) hx hb dX10_isInSight_59 (by decide) ?_
              exact ih _ _ _ _ h _ _ _ hw (lv_sub hl [3, 4, 5, 1, 0] rfl)
            · replace h := h.2 hc
              refine lv_iconst (v := 1) hx hb dX10_isInSight_50 (by decide) ?_
              refine lv_goto (tgt := 55) hx hb dX10_isInSight_51 (by decide) ?_
              refine lv_istore_n (lv' := [(3, .int (1 : Int32)), (5, .int r15), (0, .ref (ad 0)), (1, .int x1), (2, .int x2), (4, .int x4)]) hx hb dX10_isInSight_55 rfl hl (by decide) rfl (fun ls hl => ?_)
              refine lv_iinc (v := (x4 + (1 : Int32))) (lv' := [(4, .int (x4 + (1 : Int32))), (3, .int (1 : Int32)), (5, .int r15), (0, .ref (ad 0)), (1, .int x1), (2, .int x2)]) hx hb dX10_isInSight_56 hl (k := 5) rfl rfl (by decide) rfl (fun ls hl => ?_)
              refine lv_goto (tgt := 5) hx hb dX10_isInSight_59 (by decide) ?_
              exact ih _ _ _ _ h _ _ _ hw (lv_sub hl [3, 4, 5, 1, 0] rfl)
  unfold P_mo_isInSight at h
  have he : entryFrame m args 6 = entryFrame m ([.ref (ad 0), .int x1, .int x2] : List Value).toArray 6 := by rw [hav]
  refine W.eq he ?_
  have hl := lv_entry ([.ref (ad 0), .int x1, .int x2]) (n := 6) (Nat.le_of_ble_eq_true rfl)
  rw [lg_entry_eq]
  generalize (lg_sl ([.ref (ad 0), .int x1, .int x2]) ++ List.replicate (6 - (lg_sl ([.ref (ad 0), .int x1, .int x2])).length) Slot.unset).toArray = ls at hl ⊢
  have hl : lv_has ls 6 [(0, .ref (ad 0)), (1, .int x1), (2, .int x2)] := hl
  refine lv_iconst (v := 0) hx hb dX10_isInSight_0 (by decide) ?_
  refine lv_istore_n (lv' := [(3, .int (0 : Int32)), (0, .ref (ad 0)), (1, .int x1), (2, .int x2)]) hx hb dX10_isInSight_1 rfl hl (by decide) rfl (fun ls hl => ?_)
  refine lv_iconst (v := 0) hx hb dX10_isInSight_2 (by decide) ?_
  refine lv_istore (lv' := [(4, .int (0 : Int32)), (3, .int (0 : Int32)), (0, .ref (ad 0)), (1, .int x1), (2, .int x2)]) hx hb dX10_isInSight_3 hl (by decide) rfl (fun ls hl => ?_)
  obtain ⟨n5, h⟩ := h
  exact J5  n5 _ _ _ _ h _ _ _ hw (lv_sub hl [2, 3, 4, 1, 0] rfl)
def rm_mo_gapOf : Room := { frames := 5, cells := 0, slots := 0, locals := 130 }
set_option maxHeartbeats 4000000 in
set_option maxRecDepth 100000 in
theorem c_mo_gapOf {l : Launch} {D : va_G} {cI cL cZ : ClassId} {mx my : Nat} {A : Nat → Prop} {ad : Nat → Nat} {mo_wide mo_tall mo_law mo_range mo_pictures mo_postMany : Int32} {mo_kind mo_queue mo_far mo_pictureCell mo_facing mo_sights mo_fewest mo_posts mo_left mo_roundMany mo_round mo_shift mo_thief mo_danger mo_old : Nat → Int32} (x1 : Int32) {Q : Int32 → Prop} (h : P_mo_gapOf mo_wide mo_kind mo_law mo_range mo_pictureCell mo_facing mo_roundMany mo_round mo_shift x1 Q) : Met l yX10_gapOf wsX10_gapOf rm_mo_gapOf (va_Pc [.ref (ad 0), .int x1] (WC D cI cL cZ mx my A (wdM cI cL cZ ad mo_wide mo_tall mo_kind mo_law mo_range mo_queue mo_far mo_pictures mo_pictureCell mo_facing mo_sights mo_fewest mo_posts mo_postMany mo_left mo_roundMany mo_round mo_shift mo_thief mo_danger mo_old))) (va_Qi (fun (r : Int32) (u : Unit) => Q r) (fun (u : Unit) t => PW D A (wdM cI cL cZ ad mo_wide mo_tall mo_kind mo_law mo_range mo_queue mo_far mo_pictures mo_pictureCell mo_facing mo_sights mo_fewest mo_posts mo_postMany mo_left mo_roundMany mo_round mo_shift mo_thief mo_danger mo_old) t.heap) A) 0 0 A := by
  refine Met.ofW (cc := cX10_gapOf) (maxL := 6) (ret := (some .int)) (by decide) rfl ?_
  intro p e s m args below meth c s₁ B hml hv
  obtain ⟨hav, hP0, hD0, hK⟩ := hv
  have hx := B.exec
  have hb := B.bytes
  have hr := B.returns
  have hts := atoms_spec (ws := wsX10_gapOf) B.pre
  have hown : s.vm.findClass RX10 = some m.cls := findClass_of_methodNamed B.named
  have hlocks := B.notSynchronized
  have hB : ∀ w ∈ BIG, w ∈ wsX10_gapOf := fun _ h => List.mem_cons_of_mem _ h
  obtain ⟨Z, hZ⟩ : ∃ Z : State → Prop, Z = MQ below (va_Qi (fun (r : Int32) (u : Unit) => Q r) (fun (u : Unit) t => PW D A (wdM cI cL cZ ad mo_wide mo_tall mo_kind mo_law mo_range mo_queue mo_far mo_pictures mo_pictureCell mo_facing mo_sights mo_fewest mo_posts mo_postMany mo_left mo_roundMany mo_round mo_shift mo_thief mo_danger mo_old) t.heap) A) args s 0 0 A := ⟨_, rfl⟩
  rw [← hZ]
  have hw : SW D A s.heap (wdM cI cL cZ ad mo_wide mo_tall mo_kind mo_law mo_range mo_queue mo_far mo_pictures mo_pictureCell mo_facing mo_sights mo_fewest mo_posts mo_postMany mo_left mo_roundMany mo_round mo_shift mo_thief mo_danger mo_old) s.heap [] := ⟨hP0, hD0, va_S.rf⟩
  clear hP0 hD0 B
  have J59 : ∀ (_ : True) (x2 : Int32) (x4 : Int32) , B_mo_gapOf_59 Q x2 x4 → ∀ (H : Heap) (locs : List Loc) (ls : Array Slot), SW D A s.heap (wdM cI cL cZ ad mo_wide mo_tall mo_kind mo_law mo_range mo_queue mo_far mo_pictures mo_pictureCell mo_facing mo_sights mo_fewest mo_posts mo_postMany mo_left mo_roundMany mo_round mo_shift mo_thief mo_danger mo_old) H locs → lv_has ls 6 [(2, .int x2), (4, .int x4)] → W p l e (headSpec wsX10_gapOf rm_mo_gapOf).room s m args below meth c H locs 0 0 Z (F0 m 59 ls []) := by
    intro _  x2 x4 h H locs ls hw hl
    unfold B_mo_gapOf_59 at h
    refine lv_iload hx hb dX10_gapOf_59 (lv_at hl 1 rfl) ?_
    refine lv_iconst (v := 2) hx hb dX10_gapOf_61 (by decide) ?_
    refine lv_iload_n hx hb dX10_gapOf_62 rfl (lv_at hl 0 rfl) ?_
    refine lv_imul hx hb dX10_gapOf_63 ?_
    refine lv_icmp_ne (tgt := 72) hx hb dX10_gapOf_64 (by decide) (fun hc => ?_) (fun hc => ?_)
    · replace h := h.2 hc
      refine lv_iload hx hb dX10_gapOf_72 (lv_at hl 1 rfl) ?_
      rw [hZ]
      exact rt_i () hx hb hr hlocks hw h dX10_gapOf_74
    · replace h := h.1 hc
      refine lv_bipush (v := (-9)) hx hb dX10_gapOf_67 (by decide) ?_
      refine lv_goto (tgt := 74) hx hb dX10_gapOf_69 (by decide) ?_
      rw [hZ]
      exact rt_i () hx hb hr hlocks hw h dX10_gapOf_74
  have J38 : ∀ (_ : True) (k13 : Int32 → Int32 → Int32 → Int32 → Int32 → Prop) (hk13 : ∀ (x1 : Int32) (x2 : Int32) (x3 : Int32) (x4 : Int32) (x5 : Int32) , k13 x1 x2 x3 x4 x5 → ∀ (H : Heap) (locs : List Loc) (ls : Array Slot), SW D A s.heap (wdM cI cL cZ ad mo_wide mo_tall mo_kind mo_law mo_range mo_queue mo_far mo_pictures mo_pictureCell mo_facing mo_sights mo_fewest mo_posts mo_postMany mo_left mo_roundMany mo_round mo_shift mo_thief mo_danger mo_old) H locs → lv_has ls 6 [(0, .ref (ad 0)), (1, .int x1), (2, .int x2), (3, .int x3), (4, .int x4), (5, .int x5)] → W p l e (headSpec wsX10_gapOf rm_mo_gapOf).room s m args below meth c H locs 0 0 Z (F0 m 13 ls [])) (x1 : Int32) (x2 : Int32) (x4 : Int32) (x5 : Int32) (y0 : Int32) , B_mo_gapOf_38 mo_wide mo_kind mo_law mo_range mo_pictureCell mo_facing mo_roundMany mo_round mo_shift Q k13 x1 x2 x4 x5 y0 → ∀ (H : Heap) (locs : List Loc) (ls : Array Slot), SW D A s.heap (wdM cI cL cZ ad mo_wide mo_tall mo_kind mo_law mo_range mo_queue mo_far mo_pictures mo_pictureCell mo_facing mo_sights mo_fewest mo_posts mo_postMany mo_left mo_roundMany mo_round mo_shift mo_thief mo_danger mo_old) H locs → lv_has ls 6 [(0, .ref (ad 0)), (1, .int x1), (2, .int x2), (4, .int x4), (5, .int x5)] → W p l e (headSpec wsX10_gapOf rm_mo_gapOf).room s m args below meth c H locs 0 0 Z (F0 m 38 ls [.int y0]) := by
    intro _ k13 hk13 x1 x2 x4 x5 y0 h H locs ls hw hl
    unfold B_mo_gapOf_38 at h
    refine lv_istore_n (lv' := [(3, .int y0), (0, .ref (ad 0)), (1, .int x1), (2, .int x2), (4, .int x4), (5, .int x5)]) hx hb dX10_gapOf_38 rfl hl (by decide) rfl (fun ls hl => ?_)
    refine lv_iload_n hx hb dX10_gapOf_39 rfl (lv_at hl 0 rfl) ?_
    refine lv_iload hx hb dX10_gapOf_40 (lv_at hl 4 rfl) ?_
    refine lv_icmp_le (tgt := 49) hx hb dX10_gapOf_42 (by decide) (fun hc => ?_) (fun hc => ?_)
    · replace h := h.1 hc
      refine lv_iload hx hb dX10_gapOf_49 (lv_at hl 4 rfl) ?_
      refine lv_istore (lv' := [(4, .int x4), (3, .int y0), (0, .ref (ad 0)), (1, .int x1), (2, .int x2), (5, .int x5)]) hx hb dX10_gapOf_51 hl (by decide) rfl (fun ls hl => ?_)
      refine lv_iinc (v := (x5 + (1 : Int32))) (lv' := [(5, .int (x5 + (1 : Int32))), (4, .int x4), (3, .int y0), (0, .ref (ad 0)), (1, .int x1), (2, .int x2)]) hx hb dX10_gapOf_53 hl (k := 5) rfl rfl (by decide) rfl (fun ls hl => ?_)
      refine lv_goto (tgt := 13) hx hb dX10_gapOf_56 (by decide) ?_
      exact hk13 _ _ _ _ _ h _ _ _ hw (lv_sub hl [3, 4, 5, 2, 1, 0] rfl)
    · replace h := h.2 hc
      refine lv_iload_n hx hb dX10_gapOf_45 rfl (lv_at hl 0 rfl) ?_
      refine lv_goto (tgt := 51) hx hb dX10_gapOf_46 (by decide) ?_
      refine lv_istore (lv' := [(4, .int y0), (3, .int y0), (0, .ref (ad 0)), (1, .int x1), (2, .int x2), (5, .int x5)]) hx hb dX10_gapOf_51 hl (by decide) rfl (fun ls hl => ?_)
      refine lv_iinc (v := (x5 + (1 : Int32))) (lv' := [(5, .int (x5 + (1 : Int32))), (4, .int y0), (3, .int y0), (0, .ref (ad 0)), (1, .int x1), (2, .int x2)]) hx hb dX10_gapOf_53 hl (k := 5) rfl rfl (by decide) rfl (fun ls hl => ?_)
      refine lv_goto (tgt := 13) hx hb dX10_gapOf_56 (by decide) ?_
      exact hk13 _ _ _ _ _ h _ _ _ hw (lv_sub hl [3, 4, 5, 2, 1, 0] rfl)
  have J13 : ∀ (n : Nat) (x1 : Int32) (x2 : Int32) (x3 : Int32) (x4 : Int32) (x5 : Int32) , L_mo_gapOf_13 mo_wide mo_kind mo_law mo_range mo_pictureCell mo_facing mo_roundMany mo_round mo_shift Q n x1 x2 x3 x4 x5 → ∀ (H : Heap) (locs : List Loc) (ls : Array Slot), SW D A s.heap (wdM cI cL cZ ad mo_wide mo_tall mo_kind mo_law mo_range mo_queue mo_far mo_pictures mo_pictureCell mo_facing mo_sights mo_fewest mo_posts mo_postMany mo_left mo_roundMany mo_round mo_shift mo_thief mo_danger mo_old) H locs → lv_has ls 6 [(0, .ref (ad 0)), (1, .int x1), (2, .int x2), (3, .int x3), (4, .int x4), (5, .int x5)] → W p l e (headSpec wsX10_gapOf rm_mo_gapOf).room s m args below meth c H locs 0 0 Z (F0 m 13 ls []) := by
    intro  n
    induction n with
    | zero => intro x1 x2 x3 x4 x5 h; exact h.elim
    | succ n ih =>
    intro x1 x2 x3 x4 x5 h H locs ls hw hl
    unfold L_mo_gapOf_13 at h
    refine lv_iload hx hb dX10_gapOf_13 (lv_at hl 5 rfl) ?_
    refine lv_iconst (v := 2) hx hb dX10_gapOf_15 (by decide) ?_
    refine lv_iload_n hx hb dX10_gapOf_16 rfl (lv_at hl 2 rfl) ?_
    refine lv_imul hx hb dX10_gapOf_17 ?_
    refine lv_icmp_ge (tgt := 59) hx hb dX10_gapOf_18 (by decide) (fun hc => ?_) (fun hc => ?_)
    · replace h := h.1 hc
      exact J59 trivial  _ _ h _ _ _ hw (lv_sub hl [2, 4] rfl)
    · replace h := h.2 hc
      refine lv_aload_n hx hb dX10_gapOf_21 rfl (lv_at hl 0 rfl) ?_
      refine lv_iload_n hx hb dX10_gapOf_22 rfl (lv_at hl 1 rfl) ?_
      refine lv_iload hx hb dX10_gapOf_23 (lv_at hl 5 rfl) ?_
      refine cV_i (b := (ad 0)) (As := [.int x1, .int x5]) (rest := []) ⟨hx, hb, hml, hown, hts⟩ hK hw (c_mo_isInSight x1 x5 h) (cwV 2 hts (gd_RX10_176 hB) rfl rfl rfl (by decide +kernel) ⟨Nat.le_of_ble_eq_true rfl, Nat.le_of_ble_eq_true rfl⟩) (rM_mo hK hw) hl.1 ⟨Nat.zero_le _, Nat.zero_le _⟩ rfl rfl (Nat.le_of_ble_eq_true rfl) dX10_gapOf_25 (fun r25 _ H locs h hw => ?_)
      refine lv_if_eq (tgt := 35) hx hb dX10_gapOf_28 (by decide) (fun hc => ?_) (fun hc => ?_)
      · replace h := h.1 hc
        refine lv_iload_n hx hb dX10_gapOf_35 rfl (lv_at hl 3 rfl) ?_
        refine lv_iconst (v := 1) hx hb dX10_gapOf_36 (by decide) ?_
        refine lv_iadd hx hb dX10_gapOf_37 ?_
        exact J38 trivial (L_mo_gapOf_13 mo_wide mo_kind mo_law mo_range mo_pictureCell mo_facing mo_roundMany mo_round mo_shift Q n) ih _ _ _ _ _ h _ _ _ hw (lv_sub hl [0, 1, 2, 4, 5] rfl)
      · replace h := h.2 hc
        refine lv_iconst (v := 0) hx hb dX10_gapOf_31 (by decide) ?_
        refine lv_goto (tgt := 38) hx hb dX10_gapOf_32 (by decide) ?_
        exact J38 trivial (L_mo_gapOf_13 mo_wide mo_kind mo_law mo_range mo_pictureCell mo_facing mo_roundMany mo_round mo_shift Q n) ih _ _ _ _ _ h _ _ _ hw (lv_sub hl [0, 1, 2, 4, 5] rfl)
  unfold P_mo_gapOf at h
  have he : entryFrame m args 6 = entryFrame m ([.ref (ad 0), .int x1] : List Value).toArray 6 := by rw [hav]
  refine W.eq he ?_
  have hl := lv_entry ([.ref (ad 0), .int x1]) (n := 6) (Nat.le_of_ble_eq_true rfl)
  rw [lg_entry_eq]
  generalize (lg_sl ([.ref (ad 0), .int x1]) ++ List.replicate (6 - (lg_sl ([.ref (ad 0), .int x1])).length) Slot.unset).toArray = ls at hl ⊢
  have hl : lv_has ls 6 [(0, .ref (ad 0)), (1, .int x1)] := hl
  refine lv_aload_n hx hb dX10_gapOf_0 rfl (lv_at hl 0 rfl) ?_
  refine cV_i (b := (ad 0)) (As := []) (rest := []) ⟨hx, hb, hml, hown, hts⟩ hK hw (c_mo_periodNow h) (cwV 0 hts (gd_RX10_172 hB) rfl rfl rfl (by decide +kernel) ⟨Nat.le_of_ble_eq_true rfl, Nat.le_of_ble_eq_true rfl⟩) (rM_mo hK hw) hl.1 ⟨Nat.zero_le _, Nat.zero_le _⟩ rfl rfl (Nat.le_of_ble_eq_true rfl) dX10_gapOf_1 (fun r1 _ H locs h hw => ?_)
  refine lv_istore_n (lv' := [(2, .int r1), (0, .ref (ad 0)), (1, .int x1)]) hx hb dX10_gapOf_4 rfl hl (by decide) rfl (fun ls hl => ?_)
  refine lv_iconst (v := 0) hx hb dX10_gapOf_5 (by decide) ?_
  refine lv_istore_n (lv' := [(3, .int (0 : Int32)), (2, .int r1), (0, .ref (ad 0)), (1, .int x1)]) hx hb dX10_gapOf_6 rfl hl (by decide) rfl (fun ls hl => ?_)
  refine lv_iconst (v := 0) hx hb dX10_gapOf_7 (by decide) ?_
  refine lv_istore (lv' := [(4, .int (0 : Int32)), (3, .int (0 : Int32)), (2, .int r1), (0, .ref (ad 0)), (1, .int x1)]) hx hb dX10_gapOf_8 hl (by decide) rfl (fun ls hl => ?_)
  refine lv_iconst (v := 0) hx hb dX10_gapOf_10 (by decide) ?_
  refine lv_istore (lv' := [(5, .int (0 : Int32)), (4, .int (0 : Int32)), (3, .int (0 : Int32)), (2, .int r1), (0, .ref (ad 0)), (1, .int x1)]) hx hb dX10_gapOf_11 hl (by decide) rfl (fun ls hl => ?_)
  obtain ⟨n13, h⟩ := h
  exact J13  n13 _ _ _ _ _ h _ _ _ hw (lv_sub hl [4, 5, 3, 2, 1, 0] rfl)
def rm_mo_gap : Room := { frames := 6, cells := 0, slots := 0, locals := 155 }
set_option maxHeartbeats 4000000 in
set_option maxRecDepth 100000 in
theorem c_mo_gap {l : Launch} {D : va_G} {cI cL cZ : ClassId} {mx my : Nat} {A : Nat → Prop} {ad : Nat → Nat} {mo_wide mo_tall mo_law mo_range mo_pictures mo_postMany : Int32} {mo_kind mo_queue mo_far mo_pictureCell mo_facing mo_sights mo_fewest mo_posts mo_left mo_roundMany mo_round mo_shift mo_thief mo_danger mo_old : Nat → Int32} (x1 : Int32) {Q : Int32 → Prop} (h : P_mo_gap mo_wide mo_kind mo_law mo_range mo_pictures mo_pictureCell mo_facing mo_roundMany mo_round mo_shift x1 Q) : Met l yX10_gap wsX10_gap rm_mo_gap (va_Pc [.ref (ad 0), .int x1] (WC D cI cL cZ mx my A (wdM cI cL cZ ad mo_wide mo_tall mo_kind mo_law mo_range mo_queue mo_far mo_pictures mo_pictureCell mo_facing mo_sights mo_fewest mo_posts mo_postMany mo_left mo_roundMany mo_round mo_shift mo_thief mo_danger mo_old))) (va_Qi (fun (r : Int32) (u : Unit) => Q r) (fun (u : Unit) t => PW D A (wdM cI cL cZ ad mo_wide mo_tall mo_kind mo_law mo_range mo_queue mo_far mo_pictures mo_pictureCell mo_facing mo_sights mo_fewest mo_posts mo_postMany mo_left mo_roundMany mo_round mo_shift mo_thief mo_danger mo_old) t.heap) A) 0 0 A := by
  refine Met.ofW (cc := cX10_gap) (maxL := 2) (ret := (some .int)) (by decide) rfl ?_
  intro p e s m args below meth c s₁ B hml hv
  obtain ⟨hav, hP0, hD0, hK⟩ := hv
  have hx := B.exec
  have hb := B.bytes
  have hr := B.returns
  have hts := atoms_spec (ws := wsX10_gap) B.pre
  have hown : s.vm.findClass RX10 = some m.cls := findClass_of_methodNamed B.named
  have hlocks := B.notSynchronized
  have hB : ∀ w ∈ BIG, w ∈ wsX10_gap := fun _ h => List.mem_cons_of_mem _ h
  obtain ⟨Z, hZ⟩ : ∃ Z : State → Prop, Z = MQ below (va_Qi (fun (r : Int32) (u : Unit) => Q r) (fun (u : Unit) t => PW D A (wdM cI cL cZ ad mo_wide mo_tall mo_kind mo_law mo_range mo_queue mo_far mo_pictures mo_pictureCell mo_facing mo_sights mo_fewest mo_posts mo_postMany mo_left mo_roundMany mo_round mo_shift mo_thief mo_danger mo_old) t.heap) A) args s 0 0 A := ⟨_, rfl⟩
  rw [← hZ]
  have hw : SW D A s.heap (wdM cI cL cZ ad mo_wide mo_tall mo_kind mo_law mo_range mo_queue mo_far mo_pictures mo_pictureCell mo_facing mo_sights mo_fewest mo_posts mo_postMany mo_left mo_roundMany mo_round mo_shift mo_thief mo_danger mo_old) s.heap [] := ⟨hP0, hD0, va_S.rf⟩
  clear hP0 hD0 B
  unfold P_mo_gap at h
  have he : entryFrame m args 2 = entryFrame m ([.ref (ad 0), .int x1] : List Value).toArray 2 := by rw [hav]
  refine W.eq he ?_
  have hl := lv_entry ([.ref (ad 0), .int x1]) (n := 2) (Nat.le_of_ble_eq_true rfl)
  rw [lg_entry_eq]
  generalize (lg_sl ([.ref (ad 0), .int x1]) ++ List.replicate (2 - (lg_sl ([.ref (ad 0), .int x1])).length) Slot.unset).toArray = ls at hl ⊢
  have hl : lv_has ls 2 [(0, .ref (ad 0)), (1, .int x1)] := hl
  refine lv_aload_n hx hb dX10_gap_0 rfl (lv_at hl 0 rfl) ?_
  refine lv_iload_n hx hb dX10_gap_1 rfl (lv_at hl 1 rfl) ?_
  refine cV_i (b := (ad 0)) (As := [.int x1]) (rest := []) ⟨hx, hb, hml, hown, hts⟩ hK hw (c_mo_isPicture x1 h) (cwV 1 hts (gd_RX10_125 hB) rfl rfl rfl (by decide +kernel) ⟨Nat.le_of_ble_eq_true rfl, Nat.le_of_ble_eq_true rfl⟩) (rM_mo hK hw) hl.1 ⟨Nat.zero_le _, Nat.zero_le _⟩ rfl rfl (Nat.le_of_ble_eq_true rfl) dX10_gap_2 (fun r2 _ H locs h hw => ?_)
  refine lv_if_eq (tgt := 16) hx hb dX10_gap_5 (by decide) (fun hc => ?_) (fun hc => ?_)
  · replace h := h.1 hc
    refine lv_iconst (v := (-1)) hx hb dX10_gap_16 (by decide) ?_
    rw [hZ]
    exact rt_i () hx hb hr hlocks hw h dX10_gap_17
  · replace h := h.2 hc
    refine lv_aload_n hx hb dX10_gap_8 rfl (lv_at hl 0 rfl) ?_
    refine lv_iload_n hx hb dX10_gap_9 rfl (lv_at hl 1 rfl) ?_
    refine cV_i (b := (ad 0)) (As := [.int x1]) (rest := []) ⟨hx, hb, hml, hown, hts⟩ hK hw (c_mo_gapOf x1 h) (cwV 1 hts (gd_RX10_179 hB) rfl rfl rfl (by decide +kernel) ⟨Nat.le_of_ble_eq_true rfl, Nat.le_of_ble_eq_true rfl⟩) (rM_mo hK hw) hl.1 ⟨Nat.zero_le _, Nat.zero_le _⟩ rfl rfl (Nat.le_of_ble_eq_true rfl) dX10_gap_10 (fun r10 _ H locs h hw => ?_)
    refine lv_goto (tgt := 17) hx hb dX10_gap_13 (by decide) ?_
    rw [hZ]
    exact rt_i () hx hb hr hlocks hw h dX10_gap_17
def rm_mo_worstNow : Room := { frames := 6, cells := 0, slots := 0, locals := 155 }
set_option maxHeartbeats 4000000 in
set_option maxRecDepth 100000 in
theorem c_mo_worstNow {l : Launch} {D : va_G} {cI cL cZ : ClassId} {mx my : Nat} {A : Nat → Prop} {ad : Nat → Nat} {mo_wide mo_tall mo_law mo_range mo_pictures mo_postMany : Int32} {mo_kind mo_queue mo_far mo_pictureCell mo_facing mo_sights mo_fewest mo_posts mo_left mo_roundMany mo_round mo_shift mo_thief mo_danger mo_old : Nat → Int32}  {Q : Int32 → Prop} (h : P_mo_worstNow mo_wide mo_kind mo_law mo_range mo_pictures mo_pictureCell mo_facing mo_roundMany mo_round mo_shift Q) : Met l yX10_worstNow wsX10_worstNow rm_mo_worstNow (va_Pc [.ref (ad 0)] (WC D cI cL cZ mx my A (wdM cI cL cZ ad mo_wide mo_tall mo_kind mo_law mo_range mo_queue mo_far mo_pictures mo_pictureCell mo_facing mo_sights mo_fewest mo_posts mo_postMany mo_left mo_roundMany mo_round mo_shift mo_thief mo_danger mo_old))) (va_Qi (fun (r : Int32) (u : Unit) => Q r) (fun (u : Unit) t => PW D A (wdM cI cL cZ ad mo_wide mo_tall mo_kind mo_law mo_range mo_queue mo_far mo_pictures mo_pictureCell mo_facing mo_sights mo_fewest mo_posts mo_postMany mo_left mo_roundMany mo_round mo_shift mo_thief mo_danger mo_old) t.heap) A) 0 0 A := by
  refine Met.ofW (cc := cX10_worstNow) (maxL := 4) (ret := (some .int)) (by decide) rfl ?_
  intro p e s m args below meth c s₁ B hml hv
  obtain ⟨hav, hP0, hD0, hK⟩ := hv
  have hx := B.exec
  have hb := B.bytes
  have hr := B.returns
  have hts := atoms_spec (ws := wsX10_worstNow) B.pre
  have hown : s.vm.findClass RX10 = some m.cls := findClass_of_methodNamed B.named
  have hlocks := B.notSynchronized
  have hB : ∀ w ∈ BIG, w ∈ wsX10_worstNow := fun _ h => List.mem_cons_of_mem _ h
  have hin : ∀ w ∈ wsX100, w ∈ wsX10_worstNow := fun w h => hB w (inB_X10 w h)
  have lk74 := hts _ (hB _ m_938)
  obtain ⟨Z, hZ⟩ : ∃ Z : State → Prop, Z = MQ below (va_Qi (fun (r : Int32) (u : Unit) => Q r) (fun (u : Unit) t => PW D A (wdM cI cL cZ ad mo_wide mo_tall mo_kind mo_law mo_range mo_queue mo_far mo_pictures mo_pictureCell mo_facing mo_sights mo_fewest mo_posts mo_postMany mo_left mo_roundMany mo_round mo_shift mo_thief mo_danger mo_old) t.heap) A) args s 0 0 A := ⟨_, rfl⟩
  rw [← hZ]
  have hw : SW D A s.heap (wdM cI cL cZ ad mo_wide mo_tall mo_kind mo_law mo_range mo_queue mo_far mo_pictures mo_pictureCell mo_facing mo_sights mo_fewest mo_posts mo_postMany mo_left mo_roundMany mo_round mo_shift mo_thief mo_danger mo_old) s.heap [] := ⟨hP0, hD0, va_S.rf⟩
  clear hP0 hD0 B
  have J39 : ∀ (_ : True) (k4 : Int32 → Int32 → Prop) (hk4 : ∀ (x1 : Int32) (x2 : Int32) , k4 x1 x2 → ∀ (H : Heap) (locs : List Loc) (ls : Array Slot), SW D A s.heap (wdM cI cL cZ ad mo_wide mo_tall mo_kind mo_law mo_range mo_queue mo_far mo_pictures mo_pictureCell mo_facing mo_sights mo_fewest mo_posts mo_postMany mo_left mo_roundMany mo_round mo_shift mo_thief mo_danger mo_old) H locs → lv_has ls 4 [(0, .ref (ad 0)), (1, .int x1), (2, .int x2)] → W p l e (headSpec wsX10_worstNow rm_mo_worstNow).room s m args below meth c H locs 0 0 Z (F0 m 4 ls [])) (x2 : Int32) (y0 : Int32) , B_mo_worstNow_39 mo_wide mo_kind mo_law mo_range mo_pictures mo_pictureCell mo_facing mo_roundMany mo_round mo_shift Q k4 x2 y0 → ∀ (H : Heap) (locs : List Loc) (ls : Array Slot), SW D A s.heap (wdM cI cL cZ ad mo_wide mo_tall mo_kind mo_law mo_range mo_queue mo_far mo_pictures mo_pictureCell mo_facing mo_sights mo_fewest mo_posts mo_postMany mo_left mo_roundMany mo_round mo_shift mo_thief mo_danger mo_old) H locs → lv_has ls 4 [(0, .ref (ad 0)), (2, .int x2)] → W p l e (headSpec wsX10_worstNow rm_mo_worstNow).room s m args below meth c H locs 0 0 Z (F0 m 39 ls [.int y0]) := by
    intro _ k4 hk4 x2 y0 h H locs ls hw hl
    unfold B_mo_worstNow_39 at h
    refine lv_istore_n (lv' := [(1, .int y0), (0, .ref (ad 0)), (2, .int x2)]) hx hb dX10_worstNow_39 rfl hl (by decide) rfl (fun ls hl => ?_)
    refine lv_iload_n hx hb dX10_worstNow_40 rfl (lv_at hl 0 rfl) ?_
    refine lv_ldc (v := 1000000) hx hb hown (hts _ (hB _ m_1120)) dX10_worstNow_41 ?_
    refine lv_icmp_ne (tgt := 49) hx hb dX10_worstNow_43 (by decide) (fun hc => ?_) (fun hc => ?_)
    · replace h := h.2 hc
      refine lv_iinc (v := (x2 + (1 : Int32))) (lv' := [(2, .int (x2 + (1 : Int32))), (1, .int y0), (0, .ref (ad 0))]) hx hb dX10_worstNow_49 hl (k := 2) rfl rfl (by decide) rfl (fun ls hl => ?_)
      refine lv_goto (tgt := 4) hx hb dX10_worstNow_52 (by decide) ?_
      exact hk4 _ _ h _ _ _ hw (lv_sub hl [2, 1, 0] rfl)
    · replace h := h.1 hc
      refine lv_ldc (v := 1000000) hx hb hown (hts _ (hB _ m_1120)) dX10_worstNow_46 ?_
      rw [hZ]
      exact rt_i () hx hb hr hlocks hw h dX10_worstNow_48
  have J4 : ∀ (n : Nat) (x1 : Int32) (x2 : Int32) , L_mo_worstNow_4 mo_wide mo_kind mo_law mo_range mo_pictures mo_pictureCell mo_facing mo_roundMany mo_round mo_shift Q n x1 x2 → ∀ (H : Heap) (locs : List Loc) (ls : Array Slot), SW D A s.heap (wdM cI cL cZ ad mo_wide mo_tall mo_kind mo_law mo_range mo_queue mo_far mo_pictures mo_pictureCell mo_facing mo_sights mo_fewest mo_posts mo_postMany mo_left mo_roundMany mo_round mo_shift mo_thief mo_danger mo_old) H locs → lv_has ls 4 [(0, .ref (ad 0)), (1, .int x1), (2, .int x2)] → W p l e (headSpec wsX10_worstNow rm_mo_worstNow).room s m args below meth c H locs 0 0 Z (F0 m 4 ls []) := by
    intro  n
    induction n with
    | zero => intro x1 x2 h; exact h.elim
    | succ n ih =>
    intro x1 x2 h H locs ls hw hl
    unfold L_mo_worstNow_4 at h
    refine lv_iload_n hx hb dX10_worstNow_4 rfl (lv_at hl 2 rfl) ?_
    refine lv_aload_n hx hb dX10_worstNow_5 rfl (lv_at hl 0 rfl) ?_
    refine gM_mo_pictures hx hb hts hin hown hK hw lk74 dX10_worstNow_6 ?_
    refine lv_icmp_ge (tgt := 55) hx hb dX10_worstNow_9 (by decide) (fun hc => ?_) (fun hc => ?_)
    · replace h := h.1 hc
      refine lv_iload_n hx hb dX10_worstNow_55 rfl (lv_at hl 1 rfl) ?_
      rw [hZ]
      exact rt_i () hx hb hr hlocks hw h dX10_worstNow_56
    · replace h := h.2 hc
      refine lv_aload_n hx hb dX10_worstNow_12 rfl (lv_at hl 0 rfl) ?_
      refine lv_iload_n hx hb dX10_worstNow_13 rfl (lv_at hl 2 rfl) ?_
      refine cV_i (b := (ad 0)) (As := [.int x2]) (rest := []) ⟨hx, hb, hml, hown, hts⟩ hK hw (c_mo_gapOf x2 h) (cwV 1 hts (gd_RX10_179 hB) rfl rfl rfl (by decide +kernel) ⟨Nat.le_of_ble_eq_true rfl, Nat.le_of_ble_eq_true rfl⟩) (rM_mo hK hw) hl.1 ⟨Nat.zero_le _, Nat.zero_le _⟩ rfl rfl (Nat.le_of_ble_eq_true rfl) dX10_worstNow_14 (fun r14 _ H locs h hw => ?_)
      refine lv_istore_n (lv' := [(3, .int r14), (0, .ref (ad 0)), (1, .int x1), (2, .int x2)]) hx hb dX10_worstNow_17 rfl hl (by decide) rfl (fun ls hl => ?_)
      refine lv_iload_n hx hb dX10_worstNow_18 rfl (lv_at hl 0 rfl) ?_
      refine lv_bipush (v := (-9)) hx hb dX10_worstNow_19 (by decide) ?_
      refine lv_icmp_ne (tgt := 29) hx hb dX10_worstNow_21 (by decide) (fun hc => ?_) (fun hc => ?_)
      · replace h := h.2 hc
        refine lv_iload_n hx hb dX10_worstNow_29 rfl (lv_at hl 0 rfl) ?_
        refine lv_iload_n hx hb dX10_worstNow_30 rfl (lv_at hl 2 rfl) ?_
        refine lv_icmp_le (tgt := 38) hx hb dX10_worstNow_31 (by decide) (fun hc => ?_) (fun hc => ?_)
        · replace h := h.1 hc
          refine lv_iload_n hx hb dX10_worstNow_38 rfl (lv_at hl 2 rfl) ?_
          exact J39 trivial (L_mo_worstNow_4 mo_wide mo_kind mo_law mo_range mo_pictures mo_pictureCell mo_facing mo_roundMany mo_round mo_shift Q n) ih _ _ h _ _ _ hw (lv_sub hl [1, 3] rfl)
        · replace h := h.2 hc
          refine lv_iload_n hx hb dX10_worstNow_34 rfl (lv_at hl 0 rfl) ?_
          refine lv_goto (tgt := 39) hx hb dX10_worstNow_35 (by decide) ?_
          exact J39 trivial (L_mo_worstNow_4 mo_wide mo_kind mo_law mo_range mo_pictures mo_pictureCell mo_facing mo_roundMany mo_round mo_shift Q n) ih _ _ h _ _ _ hw (lv_sub hl [1, 3] rfl)
      · replace h := h.1 hc
        refine lv_ldc (v := 1000000) hx hb hown (hts _ (hB _ m_1120)) dX10_worstNow_24 ?_
        refine lv_goto (tgt := 39) hx hb dX10_worstNow_26 (by decide) ?_
        exact J39 trivial (L_mo_worstNow_4 mo_wide mo_kind mo_law mo_range mo_pictures mo_pictureCell mo_facing mo_roundMany mo_round mo_shift Q n) ih _ _ h _ _ _ hw (lv_sub hl [1, 3] rfl)
  unfold P_mo_worstNow at h
  have he : entryFrame m args 4 = entryFrame m ([.ref (ad 0)] : List Value).toArray 4 := by rw [hav]
  refine W.eq he ?_
  have hl := lv_entry ([.ref (ad 0)]) (n := 4) (Nat.le_of_ble_eq_true rfl)
  rw [lg_entry_eq]
  generalize (lg_sl ([.ref (ad 0)]) ++ List.replicate (4 - (lg_sl ([.ref (ad 0)])).length) Slot.unset).toArray = ls at hl ⊢
  have hl : lv_has ls 4 [(0, .ref (ad 0))] := hl
  refine lv_iconst (v := 0) hx hb dX10_worstNow_0 (by decide) ?_
  refine lv_istore_n (lv' := [(1, .int (0 : Int32)), (0, .ref (ad 0))]) hx hb dX10_worstNow_1 rfl hl (by decide) rfl (fun ls hl => ?_)
  refine lv_iconst (v := 0) hx hb dX10_worstNow_2 (by decide) ?_
  refine lv_istore_n (lv' := [(2, .int (0 : Int32)), (1, .int (0 : Int32)), (0, .ref (ad 0))]) hx hb dX10_worstNow_3 rfl hl (by decide) rfl (fun ls hl => ?_)
  obtain ⟨n4, h⟩ := h
  exact J4  n4 _ _ h _ _ _ hw (lv_sub hl [2, 1, 0] rfl)
def rm_mo_worst : Room := { frames := 7, cells := 0, slots := 0, locals := 178 }
set_option maxHeartbeats 4000000 in
set_option maxRecDepth 100000 in
theorem c_mo_worst {l : Launch} {D : va_G} {cI cL cZ : ClassId} {mx my : Nat} {A : Nat → Prop} {ad : Nat → Nat} {mo_wide mo_tall mo_law mo_range mo_pictures mo_postMany : Int32} {mo_kind mo_queue mo_far mo_pictureCell mo_facing mo_sights mo_fewest mo_posts mo_left mo_roundMany mo_round mo_shift mo_thief mo_danger mo_old : Nat → Int32}  {Q : Int32 → Prop} (h : P_mo_worst mo_wide mo_kind mo_law mo_range mo_pictures mo_pictureCell mo_facing mo_roundMany mo_round mo_shift Q) : Met l yX10_worst wsX10_worst rm_mo_worst (va_Pc [.ref (ad 0)] (WC D cI cL cZ mx my A (wdM cI cL cZ ad mo_wide mo_tall mo_kind mo_law mo_range mo_queue mo_far mo_pictures mo_pictureCell mo_facing mo_sights mo_fewest mo_posts mo_postMany mo_left mo_roundMany mo_round mo_shift mo_thief mo_danger mo_old))) (va_Qi (fun (r : Int32) (u : Unit) => Q r) (fun (u : Unit) t => PW D A (wdM cI cL cZ ad mo_wide mo_tall mo_kind mo_law mo_range mo_queue mo_far mo_pictures mo_pictureCell mo_facing mo_sights mo_fewest mo_posts mo_postMany mo_left mo_roundMany mo_round mo_shift mo_thief mo_danger mo_old) t.heap) A) 0 0 A := by
  refine Met.ofW (cc := cX10_worst) (maxL := 2) (ret := (some .int)) (by decide) rfl ?_
  intro p e s m args below meth c s₁ B hml hv
  obtain ⟨hav, hP0, hD0, hK⟩ := hv
  have hx := B.exec
  have hb := B.bytes
  have hr := B.returns
  have hts := atoms_spec (ws := wsX10_worst) B.pre
  have hown : s.vm.findClass RX10 = some m.cls := findClass_of_methodNamed B.named
  have hlocks := B.notSynchronized
  have hB : ∀ w ∈ BIG, w ∈ wsX10_worst := fun _ h => List.mem_cons_of_mem _ h
  obtain ⟨Z, hZ⟩ : ∃ Z : State → Prop, Z = MQ below (va_Qi (fun (r : Int32) (u : Unit) => Q r) (fun (u : Unit) t => PW D A (wdM cI cL cZ ad mo_wide mo_tall mo_kind mo_law mo_range mo_queue mo_far mo_pictures mo_pictureCell mo_facing mo_sights mo_fewest mo_posts mo_postMany mo_left mo_roundMany mo_round mo_shift mo_thief mo_danger mo_old) t.heap) A) args s 0 0 A := ⟨_, rfl⟩
  rw [← hZ]
  have hw : SW D A s.heap (wdM cI cL cZ ad mo_wide mo_tall mo_kind mo_law mo_range mo_queue mo_far mo_pictures mo_pictureCell mo_facing mo_sights mo_fewest mo_posts mo_postMany mo_left mo_roundMany mo_round mo_shift mo_thief mo_danger mo_old) s.heap [] := ⟨hP0, hD0, va_S.rf⟩
  clear hP0 hD0 B
  unfold P_mo_worst at h
  have he : entryFrame m args 2 = entryFrame m ([.ref (ad 0)] : List Value).toArray 2 := by rw [hav]
  refine W.eq he ?_
  have hl := lv_entry ([.ref (ad 0)]) (n := 2) (Nat.le_of_ble_eq_true rfl)
  rw [lg_entry_eq]
  generalize (lg_sl ([.ref (ad 0)]) ++ List.replicate (2 - (lg_sl ([.ref (ad 0)])).length) Slot.unset).toArray = ls at hl ⊢
  have hl : lv_has ls 2 [(0, .ref (ad 0))] := hl
  refine lv_aload_n hx hb dX10_worst_0 rfl (lv_at hl 0 rfl) ?_
  refine cV_i (b := (ad 0)) (As := []) (rest := []) ⟨hx, hb, hml, hown, hts⟩ hK hw (c_mo_worstNow h) (cwV 0 hts (gd_RX10_182 hB) rfl rfl rfl (by decide +kernel) ⟨Nat.le_of_ble_eq_true rfl, Nat.le_of_ble_eq_true rfl⟩) (rM_mo hK hw) hl.1 ⟨Nat.zero_le _, Nat.zero_le _⟩ rfl rfl (Nat.le_of_ble_eq_true rfl) dX10_worst_1 (fun r1 _ H locs h hw => ?_)
  refine lv_istore_n (lv' := [(1, .int r1), (0, .ref (ad 0))]) hx hb dX10_worst_4 rfl hl (by decide) rfl (fun ls hl => ?_)
  refine lv_iload_n hx hb dX10_worst_5 rfl (lv_at hl 0 rfl) ?_
  refine lv_ldc (v := 1000000) hx hb hown (hts _ (hB _ m_1120)) dX10_worst_6 ?_
  refine lv_icmp_ne (tgt := 16) hx hb dX10_worst_8 (by decide) (fun hc => ?_) (fun hc => ?_)
  · replace h := h.2 hc
    refine lv_iload_n hx hb dX10_worst_16 rfl (lv_at hl 0 rfl) ?_
    rw [hZ]
    exact rt_i () hx hb hr hlocks hw h dX10_worst_17
  · replace h := h.1 hc
    refine lv_bipush (v := (-9)) hx hb dX10_worst_11 (by decide) ?_
    refine lv_goto (tgt := 17) hx hb dX10_worst_13 (by decide) ?_
    rw [hZ]
    exact rt_i () hx hb hr hlocks hw h dX10_worst_17
def rm_mo_layShifts : Room := { frames := 0, cells := 0, slots := 0, locals := 0 }
set_option maxHeartbeats 4000000 in
set_option maxRecDepth 100000 in
theorem c_mo_layShifts {l : Launch} {D : va_G} {cI cL cZ : ClassId} {mx my : Nat} {A : Nat → Prop} {ad : Nat → Nat} {mo_wide mo_tall mo_law mo_range mo_pictures mo_postMany : Int32} {mo_kind mo_queue mo_far mo_pictureCell mo_facing mo_sights mo_fewest mo_posts mo_left mo_roundMany mo_round mo_shift mo_thief mo_danger mo_old : Nat → Int32} (x1 : Int32) {Q : (Nat → Int32) → Prop} (h : P_mo_layShifts mo_roundMany mo_shift x1 Q) : Met l yX10_layShifts wsX10_layShifts rm_mo_layShifts (va_Pc [.ref (ad 0), .int x1] (WC D cI cL cZ mx my A (wdM cI cL cZ ad mo_wide mo_tall mo_kind mo_law mo_range mo_queue mo_far mo_pictures mo_pictureCell mo_facing mo_sights mo_fewest mo_posts mo_postMany mo_left mo_roundMany mo_round mo_shift mo_thief mo_danger mo_old))) (va_Qv (fun (u : (Nat → Int32)) => Q u) (fun (u : (Nat → Int32)) t => PW D A (wdM cI cL cZ ad mo_wide mo_tall mo_kind mo_law mo_range mo_queue mo_far mo_pictures mo_pictureCell mo_facing mo_sights mo_fewest mo_posts mo_postMany mo_left mo_roundMany mo_round u mo_thief mo_danger mo_old) t.heap) A) 0 0 A := by
  refine Met.ofW (cc := cX10_layShifts) (maxL := 5) (ret := none) (by decide) rfl ?_
  intro p e s m args below meth c s₁ B hml hv
  obtain ⟨hav, hP0, hD0, hK⟩ := hv
  have hx := B.exec
  have hb := B.bytes
  have hr := B.returns
  have hts := atoms_spec (ws := wsX10_layShifts) B.pre
  have hown : s.vm.findClass RX10 = some m.cls := findClass_of_methodNamed B.named
  have hlocks := B.notSynchronized
  have hB : ∀ w ∈ BIG, w ∈ wsX10_layShifts := fun _ h => List.mem_cons_of_mem _ h
  have hin : ∀ w ∈ wsX100, w ∈ wsX10_layShifts := fun w h => hB w (inB_X10 w h)
  have lk45 := hts _ (hB _ m_946)
  have lk51 := hts _ (hB _ m_948)
  obtain ⟨Z, hZ⟩ : ∃ Z : State → Prop, Z = MQ below (va_Qv (fun (u : (Nat → Int32)) => Q u) (fun (u : (Nat → Int32)) t => PW D A (wdM cI cL cZ ad mo_wide mo_tall mo_kind mo_law mo_range mo_queue mo_far mo_pictures mo_pictureCell mo_facing mo_sights mo_fewest mo_posts mo_postMany mo_left mo_roundMany mo_round u mo_thief mo_danger mo_old) t.heap) A) args s 0 0 A := ⟨_, rfl⟩
  rw [← hZ]
  have hw : SW D A s.heap (wdM cI cL cZ ad mo_wide mo_tall mo_kind mo_law mo_range mo_queue mo_far mo_pictures mo_pictureCell mo_facing mo_sights mo_fewest mo_posts mo_postMany mo_left mo_roundMany mo_round mo_shift mo_thief mo_danger mo_old) s.heap [] := ⟨hP0, hD0, va_S.rf⟩
  clear hP0 hD0 B
  have J27 : ∀ (_ : True) (k4 : (Nat → Int32) → Int32 → Int32 → Prop) (hk4 : ∀ (mo_shift : (Nat → Int32)) (x2 : Int32) (x3 : Int32) , k4 mo_shift x2 x3 → ∀ (H : Heap) (locs : List Loc) (ls : Array Slot), SW D A s.heap (wdM cI cL cZ ad mo_wide mo_tall mo_kind mo_law mo_range mo_queue mo_far mo_pictures mo_pictureCell mo_facing mo_sights mo_fewest mo_posts mo_postMany mo_left mo_roundMany mo_round mo_shift mo_thief mo_danger mo_old) H locs → lv_has ls 5 [(0, .ref (ad 0)), (2, .int x2), (3, .int x3)] → W p l e (headSpec wsX10_layShifts rm_mo_layShifts).room s m args below meth c H locs 0 0 Z (F0 m 4 ls [])) (mo_shift : (Nat → Int32)) (x2 : Int32) (x3 : Int32) (y0 : Int32) , B_mo_layShifts_27 mo_roundMany Q k4 mo_shift x2 x3 y0 → ∀ (H : Heap) (locs : List Loc) (ls : Array Slot), SW D A s.heap (wdM cI cL cZ ad mo_wide mo_tall mo_kind mo_law mo_range mo_queue mo_far mo_pictures mo_pictureCell mo_facing mo_sights mo_fewest mo_posts mo_postMany mo_left mo_roundMany mo_round mo_shift mo_thief mo_danger mo_old) H locs → lv_has ls 5 [(0, .ref (ad 0)), (2, .int x2), (3, .int x3)] → W p l e (headSpec wsX10_layShifts rm_mo_layShifts).room s m args below meth c H locs 0 0 Z (F0 m 27 ls [.int y0]) := by
    intro _ k4 hk4 mo_shift x2 x3 y0 h H locs ls hw hl
    unfold B_mo_layShifts_27 at h
    refine lv_istore (lv' := [(4, .int y0), (0, .ref (ad 0)), (2, .int x2), (3, .int x3)]) hx hb dX10_layShifts_27 hl (by decide) rfl (fun ls hl => ?_)
    refine lv_aload_n hx hb dX10_layShifts_29 rfl (lv_at hl 1 rfl) ?_
    refine gM_mo_shift hx hb hts hin hown hK hw lk51 dX10_layShifts_30 ?_
    refine lv_iload_n hx hb dX10_layShifts_33 rfl (lv_at hl 3 rfl) ?_
    refine lv_iload_n hx hb dX10_layShifts_34 rfl (lv_at hl 2 rfl) ?_
    refine lv_iload hx hb dX10_layShifts_35 (lv_at hl 0 rfl) ?_
    refine lv_irem hx hb dX10_layShifts_37 h.1 ?_
    replace h := h.2
    refine tM_mo_shift hx hb hK hw h.1 dX10_layShifts_38 (fun H locs hw => ?_)
    replace h := h.2
    refine lv_iload_n hx hb dX10_layShifts_39 rfl (lv_at hl 2 rfl) ?_
    refine lv_iload hx hb dX10_layShifts_40 (lv_at hl 0 rfl) ?_
    refine lv_idiv hx hb dX10_layShifts_42 h.1 ?_
    replace h := h.2
    refine lv_topi (fun x2_43 ex2_43 => ?_)
    replace h := h x2_43 ex2_43
    refine lv_istore_n (lv' := [(2, .int x2_43), (4, .int y0), (0, .ref (ad 0)), (3, .int x3)]) hx hb dX10_layShifts_43 rfl hl (by decide) rfl (fun ls hl => ?_)
    refine lv_iinc (v := (x3 + (-1 : Int32))) (lv' := [(3, .int (x3 + (-1 : Int32))), (2, .int x2_43), (4, .int y0), (0, .ref (ad 0))]) hx hb dX10_layShifts_44 hl (k := 3) rfl rfl (by decide) rfl (fun ls hl => ?_)
    refine lv_goto (tgt := 4) hx hb dX10_layShifts_47 (by decide) ?_
    exact hk4 _ _ _ h _ _ _ hw (lv_sub hl [3, 1, 0] rfl)
  have J4 : ∀ (n : Nat) (mo_shift : (Nat → Int32)) (x2 : Int32) (x3 : Int32) , L_mo_layShifts_4 mo_roundMany Q n mo_shift x2 x3 → ∀ (H : Heap) (locs : List Loc) (ls : Array Slot), SW D A s.heap (wdM cI cL cZ ad mo_wide mo_tall mo_kind mo_law mo_range mo_queue mo_far mo_pictures mo_pictureCell mo_facing mo_sights mo_fewest mo_posts mo_postMany mo_left mo_roundMany mo_round mo_shift mo_thief mo_danger mo_old) H locs → lv_has ls 5 [(0, .ref (ad 0)), (2, .int x2), (3, .int x3)] → W p l e (headSpec wsX10_layShifts rm_mo_layShifts).room s m args below meth c H locs 0 0 Z (F0 m 4 ls []) := by
    intro  n
    induction n with
    | zero => intro mo_shift x2 x3 h; exact h.elim
    | succ n ih =>
    intro mo_shift x2 x3 h H locs ls hw hl
    unfold L_mo_layShifts_4 at h
    refine lv_iload_n hx hb dX10_layShifts_4 rfl (lv_at hl 2 rfl) ?_
    refine lv_if_lt (tgt := 50) hx hb dX10_layShifts_5 (by decide) (fun hc => ?_) (fun hc => ?_)
    · replace h := h.1 hc
      rw [hZ]
      exact rt_v mo_shift hx hb hr hlocks hw h dX10_layShifts_50
    · replace h := h.2 hc
      refine lv_aload_n hx hb dX10_layShifts_8 rfl (lv_at hl 0 rfl) ?_
      refine gM_mo_roundMany hx hb hts hin hown hK hw lk45 dX10_layShifts_9 ?_
      refine lv_iload_n hx hb dX10_layShifts_12 rfl (lv_at hl 2 rfl) ?_
      refine aM_mo_roundMany hx hb hK hw h.1 dX10_layShifts_13 ?_
      replace h := h.2
      refine lv_if_ne (tgt := 21) hx hb dX10_layShifts_14 (by decide) (fun hc => ?_) (fun hc => ?_)
      · replace h := h.2 hc
        refine lv_aload_n hx hb dX10_layShifts_21 rfl (lv_at hl 0 rfl) ?_
        refine gM_mo_roundMany hx hb hts hin hown hK hw lk45 dX10_layShifts_22 ?_
        refine lv_iload_n hx hb dX10_layShifts_25 rfl (lv_at hl 2 rfl) ?_
        refine aM_mo_roundMany hx hb hK hw h.1 dX10_layShifts_26 ?_
        replace h := h.2
        exact J27 trivial (L_mo_layShifts_4 mo_roundMany Q n) ih _ _ _ _ h _ _ _ hw (lv_sub hl [0, 1, 2] rfl)
      · replace h := h.1 hc
        refine lv_iconst (v := 1) hx hb dX10_layShifts_17 (by decide) ?_
        refine lv_goto (tgt := 27) hx hb dX10_layShifts_18 (by decide) ?_
        exact J27 trivial (L_mo_layShifts_4 mo_roundMany Q n) ih _ _ _ _ h _ _ _ hw (lv_sub hl [0, 1, 2] rfl)
  unfold P_mo_layShifts at h
  have he : entryFrame m args 5 = entryFrame m ([.ref (ad 0), .int x1] : List Value).toArray 5 := by rw [hav]
  refine W.eq he ?_
  have hl := lv_entry ([.ref (ad 0), .int x1]) (n := 5) (Nat.le_of_ble_eq_true rfl)
  rw [lg_entry_eq]
  generalize (lg_sl ([.ref (ad 0), .int x1]) ++ List.replicate (5 - (lg_sl ([.ref (ad 0), .int x1])).length) Slot.unset).toArray = ls at hl ⊢
  have hl : lv_has ls 5 [(0, .ref (ad 0)), (1, .int x1)] := hl
  refine lv_iload_n hx hb dX10_layShifts_0 rfl (lv_at hl 1 rfl) ?_
  refine lv_istore_n (lv' := [(2, .int x1), (0, .ref (ad 0)), (1, .int x1)]) hx hb dX10_layShifts_1 rfl hl (by decide) rfl (fun ls hl => ?_)
  refine lv_iconst (v := 3) hx hb dX10_layShifts_2 (by decide) ?_
  refine lv_istore_n (lv' := [(3, .int (3 : Int32)), (2, .int x1), (0, .ref (ad 0)), (1, .int x1)]) hx hb dX10_layShifts_3 rfl hl (by decide) rfl (fun ls hl => ?_)
  obtain ⟨n4, h⟩ := h
  exact J4  n4 _ _ _ h _ _ _ hw (lv_sub hl [2, 1, 0] rfl)
def rm_mo_arrange : Room := { frames := 7, cells := 0, slots := 0, locals := 178 }
set_option maxHeartbeats 4000000 in
set_option maxRecDepth 100000 in
theorem c_mo_arrange {l : Launch} {D : va_G} {cI cL cZ : ClassId} {mx my : Nat} {A : Nat → Prop} {ad : Nat → Nat} {mo_wide mo_tall mo_law mo_range mo_pictures mo_postMany : Int32} {mo_kind mo_queue mo_far mo_pictureCell mo_facing mo_sights mo_fewest mo_posts mo_left mo_roundMany mo_round mo_shift mo_thief mo_danger mo_old : Nat → Int32}  {Q : Int32 → (Nat → Int32) → Prop} (h : P_mo_arrange mo_wide mo_kind mo_law mo_range mo_pictures mo_pictureCell mo_facing mo_roundMany mo_round mo_shift Q) : Met l yX10_arrange wsX10_arrange rm_mo_arrange (va_Pc [.ref (ad 0)] (WC D cI cL cZ mx my A (wdM cI cL cZ ad mo_wide mo_tall mo_kind mo_law mo_range mo_queue mo_far mo_pictures mo_pictureCell mo_facing mo_sights mo_fewest mo_posts mo_postMany mo_left mo_roundMany mo_round mo_shift mo_thief mo_danger mo_old))) (va_Qi (fun (r : Int32) (u : (Nat → Int32)) => Q r u) (fun (u : (Nat → Int32)) t => PW D A (wdM cI cL cZ ad mo_wide mo_tall mo_kind mo_law mo_range mo_queue mo_far mo_pictures mo_pictureCell mo_facing mo_sights mo_fewest mo_posts mo_postMany mo_left mo_roundMany mo_round u mo_thief mo_danger mo_old) t.heap) A) 0 0 A := by
  refine Met.ofW (cc := cX10_arrange) (maxL := 6) (ret := (some .int)) (by decide) rfl ?_
  intro p e s m args below meth c s₁ B hml hv
  obtain ⟨hav, hP0, hD0, hK⟩ := hv
  have hx := B.exec
  have hb := B.bytes
  have hr := B.returns
  have hts := atoms_spec (ws := wsX10_arrange) B.pre
  have hown : s.vm.findClass RX10 = some m.cls := findClass_of_methodNamed B.named
  have hlocks := B.notSynchronized
  have hB : ∀ w ∈ BIG, w ∈ wsX10_arrange := fun _ h => List.mem_cons_of_mem _ h
  have hin : ∀ w ∈ wsX100, w ∈ wsX10_arrange := fun w h => hB w (inB_X10 w h)
  have lk45 := hts _ (hB _ m_946)
  obtain ⟨Z, hZ⟩ : ∃ Z : State → Prop, Z = MQ below (va_Qi (fun (r : Int32) (u : (Nat → Int32)) => Q r u) (fun (u : (Nat → Int32)) t => PW D A (wdM cI cL cZ ad mo_wide mo_tall mo_kind mo_law mo_range mo_queue mo_far mo_pictures mo_pictureCell mo_facing mo_sights mo_fewest mo_posts mo_postMany mo_left mo_roundMany mo_round u mo_thief mo_danger mo_old) t.heap) A) args s 0 0 A := ⟨_, rfl⟩
  rw [← hZ]
  have hw : SW D A s.heap (wdM cI cL cZ ad mo_wide mo_tall mo_kind mo_law mo_range mo_queue mo_far mo_pictures mo_pictureCell mo_facing mo_sights mo_fewest mo_posts mo_postMany mo_left mo_roundMany mo_round mo_shift mo_thief mo_danger mo_old) s.heap [] := ⟨hP0, hD0, va_S.rf⟩
  clear hP0 hD0 B
  have J85 : ∀ (_ : True) (mo_shift : (Nat → Int32)) (x1 : Int32) (x2 : Int32) , B_mo_arrange_85 mo_roundMany Q mo_shift x1 x2 → ∀ (H : Heap) (locs : List Loc) (ls : Array Slot), SW D A s.heap (wdM cI cL cZ ad mo_wide mo_tall mo_kind mo_law mo_range mo_queue mo_far mo_pictures mo_pictureCell mo_facing mo_sights mo_fewest mo_posts mo_postMany mo_left mo_roundMany mo_round mo_shift mo_thief mo_danger mo_old) H locs → lv_has ls 6 [(0, .ref (ad 0)), (1, .int x1), (2, .int x2)] → W p l e (headSpec wsX10_arrange rm_mo_arrange).room s m args below meth c H locs 0 0 Z (F0 m 85 ls []) := by
    intro _  mo_shift x1 x2 h H locs ls hw hl
    unfold B_mo_arrange_85 at h
    refine lv_aload_n hx hb dX10_arrange_85 rfl (lv_at hl 0 rfl) ?_
    refine lv_iload_n hx hb dX10_arrange_86 rfl (lv_at hl 2 rfl) ?_
    refine cV_v (b := (ad 0)) (As := [.int x2]) (rest := []) ⟨hx, hb, hml, hown, hts⟩ hK hw (c_mo_layShifts x2 h) (cwV 1 hts (gd_RX10_186 hB) rfl rfl rfl (by decide +kernel) ⟨Nat.le_of_ble_eq_true rfl, Nat.le_of_ble_eq_true rfl⟩) (rM_mo hK hw) hl.1 ⟨Nat.zero_le _, Nat.zero_le _⟩ rfl rfl (Nat.le_of_ble_eq_true rfl) dX10_arrange_87 (fun mo_shift_87 H locs h hw => ?_)
    refine lv_iload_n hx hb dX10_arrange_90 rfl (lv_at hl 1 rfl) ?_
    refine lv_ldc (v := 1000000) hx hb hown (hts _ (hB _ m_1120)) dX10_arrange_91 ?_
    refine lv_icmp_ne (tgt := 101) hx hb dX10_arrange_93 (by decide) (fun hc => ?_) (fun hc => ?_)
    · replace h := h.2 hc
      refine lv_iload_n hx hb dX10_arrange_101 rfl (lv_at hl 1 rfl) ?_
      rw [hZ]
      exact rt_i mo_shift_87 hx hb hr hlocks hw h dX10_arrange_102
    · replace h := h.1 hc
      refine lv_bipush (v := (-9)) hx hb dX10_arrange_96 (by decide) ?_
      refine lv_goto (tgt := 102) hx hb dX10_arrange_98 (by decide) ?_
      rw [hZ]
      exact rt_i mo_shift_87 hx hb hr hlocks hw h dX10_arrange_102
  have J49 : ∀ (n : Nat) (mo_shift : (Nat → Int32)) (x1 : Int32) (x2 : Int32) (x3 : Int32) (x4 : Int32) , L_mo_arrange_49 mo_wide mo_kind mo_law mo_range mo_pictures mo_pictureCell mo_facing mo_roundMany mo_round Q n mo_shift x1 x2 x3 x4 → ∀ (H : Heap) (locs : List Loc) (ls : Array Slot), SW D A s.heap (wdM cI cL cZ ad mo_wide mo_tall mo_kind mo_law mo_range mo_queue mo_far mo_pictures mo_pictureCell mo_facing mo_sights mo_fewest mo_posts mo_postMany mo_left mo_roundMany mo_round mo_shift mo_thief mo_danger mo_old) H locs → lv_has ls 6 [(0, .ref (ad 0)), (1, .int x1), (2, .int x2), (3, .int x3), (4, .int x4)] → W p l e (headSpec wsX10_arrange rm_mo_arrange).room s m args below meth c H locs 0 0 Z (F0 m 49 ls []) := by
    intro  n
    induction n with
    | zero => intro mo_shift x1 x2 x3 x4 h; exact h.elim
    | succ n ih =>
    intro mo_shift x1 x2 x3 x4 h H locs ls hw hl
    unfold L_mo_arrange_49 at h
    refine lv_iload hx hb dX10_arrange_49 (lv_at hl 4 rfl) ?_
    refine lv_iload_n hx hb dX10_arrange_51 rfl (lv_at hl 3 rfl) ?_
    refine lv_icmp_ge (tgt := 85) hx hb dX10_arrange_52 (by decide) (fun hc => ?_) (fun hc => ?_)
    · replace h := h.1 hc
      exact J85 trivial  _ _ _ h _ _ _ hw (lv_sub hl [0, 1, 2] rfl)
    · replace h := h.2 hc
      refine lv_aload_n hx hb dX10_arrange_55 rfl (lv_at hl 0 rfl) ?_
      refine lv_iload hx hb dX10_arrange_56 (lv_at hl 4 rfl) ?_
      refine cV_v (b := (ad 0)) (As := [.int x4]) (rest := []) ⟨hx, hb, hml, hown, hts⟩ hK hw (c_mo_layShifts x4 h) (cwV 1 hts (gd_RX10_186 hB) rfl rfl rfl (by decide +kernel) ⟨Nat.le_of_ble_eq_true rfl, Nat.le_of_ble_eq_true rfl⟩) (rM_mo hK hw) hl.1 ⟨Nat.zero_le _, Nat.zero_le _⟩ rfl rfl (Nat.le_of_ble_eq_true rfl) dX10_arrange_58 (fun mo_shift_58 H locs h hw => ?_)
      refine lv_aload_n hx hb dX10_arrange_61 rfl (lv_at hl 0 rfl) ?_
      refine cV_i (b := (ad 0)) (As := []) (rest := []) ⟨hx, hb, hml, hown, hts⟩ hK hw (c_mo_worstNow h) (cwV 0 hts (gd_RX10_182 hB) rfl rfl rfl (by decide +kernel) ⟨Nat.le_of_ble_eq_true rfl, Nat.le_of_ble_eq_true rfl⟩) (rM_mo hK hw) hl.1 ⟨Nat.zero_le _, Nat.zero_le _⟩ rfl rfl (Nat.le_of_ble_eq_true rfl) dX10_arrange_62 (fun r62 _ H locs h hw => ?_)
      refine lv_istore (lv' := [(5, .int r62), (0, .ref (ad 0)), (1, .int x1), (2, .int x2), (3, .int x3), (4, .int x4)]) hx hb dX10_arrange_65 hl (by decide) rfl (fun ls hl => ?_)
      refine lv_iload hx hb dX10_arrange_67 (lv_at hl 0 rfl) ?_
      refine lv_iload_n hx hb dX10_arrange_69 rfl (lv_at hl 2 rfl) ?_
      refine lv_icmp_ge (tgt := 79) hx hb dX10_arrange_70 (by decide) (fun hc => ?_) (fun hc => ?_)
      · replace h := h.1 hc
        refine lv_iinc (v := (x4 + (1 : Int32))) (lv' := [(4, .int (x4 + (1 : Int32))), (5, .int r62), (0, .ref (ad 0)), (1, .int x1), (2, .int x2), (3, .int x3)]) hx hb dX10_arrange_79 hl (k := 5) rfl rfl (by decide) rfl (fun ls hl => ?_)
        refine lv_goto (tgt := 49) hx hb dX10_arrange_82 (by decide) ?_
        exact ih _ _ _ _ _ h _ _ _ hw (lv_sub hl [2, 3, 4, 5, 0] rfl)
      · replace h := h.2 hc
        refine lv_iload hx hb dX10_arrange_73 (lv_at hl 0 rfl) ?_
        refine lv_istore_n (lv' := [(1, .int r62), (5, .int r62), (0, .ref (ad 0)), (2, .int x2), (3, .int x3), (4, .int x4)]) hx hb dX10_arrange_75 rfl hl (by decide) rfl (fun ls hl => ?_)
        refine lv_iload hx hb dX10_arrange_76 (lv_at hl 5 rfl) ?_
        refine lv_istore_n (lv' := [(2, .int x4), (1, .int r62), (5, .int r62), (0, .ref (ad 0)), (3, .int x3), (4, .int x4)]) hx hb dX10_arrange_78 rfl hl (by decide) rfl (fun ls hl => ?_)
        refine lv_iinc (v := (x4 + (1 : Int32))) (lv' := [(4, .int (x4 + (1 : Int32))), (2, .int x4), (1, .int r62), (5, .int r62), (0, .ref (ad 0)), (3, .int x3)]) hx hb dX10_arrange_79 hl (k := 5) rfl rfl (by decide) rfl (fun ls hl => ?_)
        refine lv_goto (tgt := 49) hx hb dX10_arrange_82 (by decide) ?_
        exact ih _ _ _ _ _ h _ _ _ hw (lv_sub hl [4, 2, 1, 5, 0] rfl)
  have J10 : ∀ (n : Nat) (mo_shift : (Nat → Int32)) (x1 : Int32) (x2 : Int32) (x3 : Int32) (x4 : Int32) , L_mo_arrange_10 mo_wide mo_kind mo_law mo_range mo_pictures mo_pictureCell mo_facing mo_roundMany mo_round Q n mo_shift x1 x2 x3 x4 → ∀ (H : Heap) (locs : List Loc) (ls : Array Slot), SW D A s.heap (wdM cI cL cZ ad mo_wide mo_tall mo_kind mo_law mo_range mo_queue mo_far mo_pictures mo_pictureCell mo_facing mo_sights mo_fewest mo_posts mo_postMany mo_left mo_roundMany mo_round mo_shift mo_thief mo_danger mo_old) H locs → lv_has ls 6 [(0, .ref (ad 0)), (1, .int x1), (2, .int x2), (3, .int x3), (4, .int x4)] → W p l e (headSpec wsX10_arrange rm_mo_arrange).room s m args below meth c H locs 0 0 Z (F0 m 10 ls []) := by
    intro  n
    induction n with
    | zero => intro mo_shift x1 x2 x3 x4 h; exact h.elim
    | succ n ih =>
    intro mo_shift x1 x2 x3 x4 h H locs ls hw hl
    unfold L_mo_arrange_10 at h
    refine lv_iload hx hb dX10_arrange_10 (lv_at hl 4 rfl) ?_
    refine lv_iconst (v := 4) hx hb dX10_arrange_12 (by decide) ?_
    refine lv_icmp_ge (tgt := 46) hx hb dX10_arrange_13 (by decide) (fun hc => ?_) (fun hc => ?_)
    · replace h := h.1 hc
      refine lv_iconst (v := 0) hx hb dX10_arrange_46 (by decide) ?_
      refine lv_istore (lv' := [(4, .int (0 : Int32)), (0, .ref (ad 0)), (1, .int x1), (2, .int x2), (3, .int x3)]) hx hb dX10_arrange_47 hl (by decide) rfl (fun ls hl => ?_)
      obtain ⟨n49, h⟩ := h
      exact J49  n49 _ _ _ _ _ h _ _ _ hw (lv_sub hl [1, 2, 3, 4, 0] rfl)
    · replace h := h.2 hc
      refine lv_iload_n hx hb dX10_arrange_16 rfl (lv_at hl 3 rfl) ?_
      refine lv_aload_n hx hb dX10_arrange_17 rfl (lv_at hl 0 rfl) ?_
      refine gM_mo_roundMany hx hb hts hin hown hK hw lk45 dX10_arrange_18 ?_
      refine lv_iload hx hb dX10_arrange_21 (lv_at hl 4 rfl) ?_
      refine aM_mo_roundMany hx hb hK hw h.1 dX10_arrange_23 ?_
      replace h := h.2
      refine lv_if_ne (tgt := 31) hx hb dX10_arrange_24 (by decide) (fun hc => ?_) (fun hc => ?_)
      · replace h := h.2 hc
        refine lv_aload_n hx hb dX10_arrange_31 rfl (lv_at hl 0 rfl) ?_
        refine gM_mo_roundMany hx hb hts hin hown hK hw lk45 dX10_arrange_32 ?_
        refine lv_iload hx hb dX10_arrange_35 (lv_at hl 4 rfl) ?_
        refine aM_mo_roundMany hx hb hK hw h.1 dX10_arrange_37 ?_
        replace h := h.2
        refine lv_imul hx hb dX10_arrange_38 ?_
        refine lv_topi (fun x3_39 ex3_39 => ?_)
        replace h := h x3_39 ex3_39
        refine lv_istore_n (lv' := [(3, .int x3_39), (0, .ref (ad 0)), (1, .int x1), (2, .int x2), (4, .int x4)]) hx hb dX10_arrange_39 rfl hl (by decide) rfl (fun ls hl => ?_)
        refine lv_iinc (v := (x4 + (1 : Int32))) (lv' := [(4, .int (x4 + (1 : Int32))), (3, .int x3_39), (0, .ref (ad 0)), (1, .int x1), (2, .int x2)]) hx hb dX10_arrange_40 hl (k := 4) rfl rfl (by decide) rfl (fun ls hl => ?_)
        refine lv_goto (tgt := 10) hx hb dX10_arrange_43 (by decide) ?_
        exact ih _ _ _ _ _ h _ _ _ hw (lv_sub hl [2, 3, 4, 1, 0] rfl)
      · replace h := h.1 hc
        refine lv_iconst (v := 1) hx hb dX10_arrange_27 (by decide) ?_
        refine lv_goto (tgt := 38) hx hb dX10_arrange_28 (by decide) ?_
        refine lv_imul hx hb dX10_arrange_38 ?_
        refine lv_topi (fun x3_39 ex3_39 => ?_)
        replace h := h x3_39 ex3_39
        refine lv_istore_n (lv' := [(3, .int x3_39), (0, .ref (ad 0)), (1, .int x1), (2, .int x2), (4, .int x4)]) hx hb dX10_arrange_39 rfl hl (by decide) rfl (fun ls hl => ?_)
        refine lv_iinc (v := (x4 + (1 : Int32))) (lv' := [(4, .int (x4 + (1 : Int32))), (3, .int x3_39), (0, .ref (ad 0)), (1, .int x1), (2, .int x2)]) hx hb dX10_arrange_40 hl (k := 4) rfl rfl (by decide) rfl (fun ls hl => ?_)
        refine lv_goto (tgt := 10) hx hb dX10_arrange_43 (by decide) ?_
        exact ih _ _ _ _ _ h _ _ _ hw (lv_sub hl [2, 3, 4, 1, 0] rfl)
  unfold P_mo_arrange at h
  have he : entryFrame m args 6 = entryFrame m ([.ref (ad 0)] : List Value).toArray 6 := by rw [hav]
  refine W.eq he ?_
  have hl := lv_entry ([.ref (ad 0)]) (n := 6) (Nat.le_of_ble_eq_true rfl)
  rw [lg_entry_eq]
  generalize (lg_sl ([.ref (ad 0)]) ++ List.replicate (6 - (lg_sl ([.ref (ad 0)])).length) Slot.unset).toArray = ls at hl ⊢
  have hl : lv_has ls 6 [(0, .ref (ad 0))] := hl
  refine lv_ldc (v := 1000001) hx hb hown (hts _ (hB _ m_1221)) dX10_arrange_0 ?_
  refine lv_istore_n (lv' := [(1, .int (1000001 : Int32)), (0, .ref (ad 0))]) hx hb dX10_arrange_2 rfl hl (by decide) rfl (fun ls hl => ?_)
  refine lv_iconst (v := 0) hx hb dX10_arrange_3 (by decide) ?_
  refine lv_istore_n (lv' := [(2, .int (0 : Int32)), (1, .int (1000001 : Int32)), (0, .ref (ad 0))]) hx hb dX10_arrange_4 rfl hl (by decide) rfl (fun ls hl => ?_)
  refine lv_iconst (v := 1) hx hb dX10_arrange_5 (by decide) ?_
  refine lv_istore_n (lv' := [(3, .int (1 : Int32)), (2, .int (0 : Int32)), (1, .int (1000001 : Int32)), (0, .ref (ad 0))]) hx hb dX10_arrange_6 rfl hl (by decide) rfl (fun ls hl => ?_)
  refine lv_iconst (v := 0) hx hb dX10_arrange_7 (by decide) ?_
  refine lv_istore (lv' := [(4, .int (0 : Int32)), (3, .int (1 : Int32)), (2, .int (0 : Int32)), (1, .int (1000001 : Int32)), (0, .ref (ad 0))]) hx hb dX10_arrange_8 hl (by decide) rfl (fun ls hl => ?_)
  obtain ⟨n10, h⟩ := h
  exact J10  n10 _ _ _ _ _ h _ _ _ hw (lv_sub hl [4, 3, 2, 1, 0] rfl)
def rm_mo_layDanger : Room := { frames := 4, cells := 0, slots := 0, locals := 104 }
set_option maxHeartbeats 4000000 in
set_option maxRecDepth 100000 in
theorem c_mo_layDanger {l : Launch} {D : va_G} {cI cL cZ : ClassId} {mx my : Nat} {A : Nat → Prop} {ad : Nat → Nat} {mo_wide mo_tall mo_law mo_range mo_pictures mo_postMany : Int32} {mo_kind mo_queue mo_far mo_pictureCell mo_facing mo_sights mo_fewest mo_posts mo_left mo_roundMany mo_round mo_shift mo_thief mo_danger mo_old : Nat → Int32} (x1 : Int32) {Q : (Nat → Int32) → Prop} (h : P_mo_layDanger mo_wide mo_tall mo_kind mo_law mo_range mo_roundMany mo_round mo_shift mo_danger x1 Q) : Met l yX10_layDanger wsX10_layDanger rm_mo_layDanger (va_Pc [.ref (ad 0), .int x1] (WC D cI cL cZ mx my A (wdM cI cL cZ ad mo_wide mo_tall mo_kind mo_law mo_range mo_queue mo_far mo_pictures mo_pictureCell mo_facing mo_sights mo_fewest mo_posts mo_postMany mo_left mo_roundMany mo_round mo_shift mo_thief mo_danger mo_old))) (va_Qv (fun (u : (Nat → Int32)) => Q u) (fun (u : (Nat → Int32)) t => PW D A (wdM cI cL cZ ad mo_wide mo_tall mo_kind mo_law mo_range mo_queue mo_far mo_pictures mo_pictureCell mo_facing mo_sights mo_fewest mo_posts mo_postMany mo_left mo_roundMany mo_round mo_shift mo_thief u mo_old) t.heap) A) 0 0 A := by
  refine Met.ofW (cc := cX10_layDanger) (maxL := 3) (ret := none) (by decide) rfl ?_
  intro p e s m args below meth c s₁ B hml hv
  obtain ⟨hav, hP0, hD0, hK⟩ := hv
  have hx := B.exec
  have hb := B.bytes
  have hr := B.returns
  have hts := atoms_spec (ws := wsX10_layDanger) B.pre
  have hown : s.vm.findClass RX10 = some m.cls := findClass_of_methodNamed B.named
  have hlocks := B.notSynchronized
  have hB : ∀ w ∈ BIG, w ∈ wsX10_layDanger := fun _ h => List.mem_cons_of_mem _ h
  have hin : ∀ w ∈ wsX100, w ∈ wsX10_layDanger := fun w h => hB w (inB_X10 w h)
  have lk57 := hts _ (hB _ m_950)
  have lk68 := hts _ (hB _ m_931)
  have lk71 := hts _ (hB _ m_932)
  obtain ⟨Z, hZ⟩ : ∃ Z : State → Prop, Z = MQ below (va_Qv (fun (u : (Nat → Int32)) => Q u) (fun (u : (Nat → Int32)) t => PW D A (wdM cI cL cZ ad mo_wide mo_tall mo_kind mo_law mo_range mo_queue mo_far mo_pictures mo_pictureCell mo_facing mo_sights mo_fewest mo_posts mo_postMany mo_left mo_roundMany mo_round mo_shift mo_thief u mo_old) t.heap) A) args s 0 0 A := ⟨_, rfl⟩
  rw [← hZ]
  have hw : SW D A s.heap (wdM cI cL cZ ad mo_wide mo_tall mo_kind mo_law mo_range mo_queue mo_far mo_pictures mo_pictureCell mo_facing mo_sights mo_fewest mo_posts mo_postMany mo_left mo_roundMany mo_round mo_shift mo_thief mo_danger mo_old) s.heap [] := ⟨hP0, hD0, va_S.rf⟩
  clear hP0 hD0 B
  have J2 : ∀ (n : Nat) (mo_danger : (Nat → Int32)) (x1 : Int32) (x2 : Int32) , L_mo_layDanger_2 mo_wide mo_tall mo_kind mo_law mo_range mo_roundMany mo_round mo_shift Q n mo_danger x1 x2 → ∀ (H : Heap) (locs : List Loc) (ls : Array Slot), SW D A s.heap (wdM cI cL cZ ad mo_wide mo_tall mo_kind mo_law mo_range mo_queue mo_far mo_pictures mo_pictureCell mo_facing mo_sights mo_fewest mo_posts mo_postMany mo_left mo_roundMany mo_round mo_shift mo_thief mo_danger mo_old) H locs → lv_has ls 3 [(0, .ref (ad 0)), (1, .int x1), (2, .int x2)] → W p l e (headSpec wsX10_layDanger rm_mo_layDanger).room s m args below meth c H locs 0 0 Z (F0 m 2 ls []) := by
    intro  n
    induction n with
    | zero => intro mo_danger x1 x2 h; exact h.elim
    | succ n ih =>
    intro mo_danger x1 x2 h H locs ls hw hl
    unfold L_mo_layDanger_2 at h
    refine lv_iload_n hx hb dX10_layDanger_2 rfl (lv_at hl 2 rfl) ?_
    refine lv_bipush (v := 64) hx hb dX10_layDanger_3 (by decide) ?_
    refine lv_iload_n hx hb dX10_layDanger_5 rfl (lv_at hl 1 rfl) ?_
    refine lv_imul hx hb dX10_layDanger_6 ?_
    refine lv_icmp_ge (tgt := 58) hx hb dX10_layDanger_7 (by decide) (fun hc => ?_) (fun hc => ?_)
    · replace h := h.1 hc
      rw [hZ]
      exact rt_v mo_danger hx hb hr hlocks hw h dX10_layDanger_58
    · replace h := h.2 hc
      refine lv_aload_n hx hb dX10_layDanger_10 rfl (lv_at hl 0 rfl) ?_
      refine gM_mo_danger hx hb hts hin hown hK hw lk57 dX10_layDanger_11 ?_
      refine lv_iload_n hx hb dX10_layDanger_14 rfl (lv_at hl 2 rfl) ?_
      refine lv_iload_n hx hb dX10_layDanger_15 rfl (lv_at hl 2 rfl) ?_
      refine lv_bipush (v := 64) hx hb dX10_layDanger_16 (by decide) ?_
      refine lv_irem hx hb dX10_layDanger_18 h.1 ?_
      replace h := h.2
      refine lv_aload_n hx hb dX10_layDanger_19 rfl (lv_at hl 0 rfl) ?_
      refine gM_mo_wide hx hb hts hin hown hK hw lk68 dX10_layDanger_20 ?_
      refine lv_aload_n hx hb dX10_layDanger_23 rfl (lv_at hl 0 rfl) ?_
      refine gM_mo_tall hx hb hts hin hown hK hw lk71 dX10_layDanger_24 ?_
      refine lv_imul hx hb dX10_layDanger_27 ?_
      refine lv_icmp_ge (tgt := 50) hx hb dX10_layDanger_28 (by decide) (fun hc => ?_) (fun hc => ?_)
      · replace h := h.1 hc
        refine lv_iconst (v := 0) hx hb dX10_layDanger_50 (by decide) ?_
        refine tM_mo_danger hx hb hK hw h.1 dX10_layDanger_51 (fun H locs hw => ?_)
        replace h := h.2
        refine lv_iinc (v := (x2 + (1 : Int32))) (lv' := [(2, .int (x2 + (1 : Int32))), (0, .ref (ad 0)), (1, .int x1)]) hx hb dX10_layDanger_52 hl (k := 2) rfl rfl (by decide) rfl (fun ls hl => ?_)
        refine lv_goto (tgt := 2) hx hb dX10_layDanger_55 (by decide) ?_
        exact ih _ _ _ h _ _ _ hw (lv_sub hl [1, 2, 0] rfl)
      · replace h := h.2 hc
        refine lv_aload_n hx hb dX10_layDanger_31 rfl (lv_at hl 0 rfl) ?_
        refine lv_iload_n hx hb dX10_layDanger_32 rfl (lv_at hl 2 rfl) ?_
        refine lv_bipush (v := 64) hx hb dX10_layDanger_33 (by decide) ?_
        refine lv_irem hx hb dX10_layDanger_35 h.1 ?_
        replace h := h.2
        refine lv_iload_n hx hb dX10_layDanger_36 rfl (lv_at hl 2 rfl) ?_
        refine lv_bipush (v := 64) hx hb dX10_layDanger_37 (by decide) ?_
        refine lv_idiv hx hb dX10_layDanger_39 h.1 ?_
        replace h := h.2
        refine cV_i (b := (ad 0)) (As := [.int (x2 - x2 / (64 : Int32) * (64 : Int32)), .int (x2 / (64 : Int32))]) (rest := [.int x2, .ref (ad 14)]) ⟨hx, hb, hml, hown, hts⟩ hK hw (c_mo_isWatched (x2 - x2 / (64 : Int32) * (64 : Int32)) (x2 / (64 : Int32)) h) (cwV 2 hts (gd_RX10_166 hB) rfl rfl rfl (by decide +kernel) ⟨Nat.le_of_ble_eq_true rfl, Nat.le_of_ble_eq_true rfl⟩) (rM_mo hK hw) hl.1 ⟨Nat.zero_le _, Nat.zero_le _⟩ rfl rfl (Nat.le_of_ble_eq_true rfl) dX10_layDanger_40 (fun r40 _ H locs h hw => ?_)
        refine lv_if_eq (tgt := 50) hx hb dX10_layDanger_43 (by decide) (fun hc => ?_) (fun hc => ?_)
        · replace h := h.1 hc
          refine lv_iconst (v := 0) hx hb dX10_layDanger_50 (by decide) ?_
          refine tM_mo_danger hx hb hK hw h.1 dX10_layDanger_51 (fun H locs hw => ?_)
          replace h := h.2
          refine lv_iinc (v := (x2 + (1 : Int32))) (lv' := [(2, .int (x2 + (1 : Int32))), (0, .ref (ad 0)), (1, .int x1)]) hx hb dX10_layDanger_52 hl (k := 2) rfl rfl (by decide) rfl (fun ls hl => ?_)
          refine lv_goto (tgt := 2) hx hb dX10_layDanger_55 (by decide) ?_
          exact ih _ _ _ h _ _ _ hw (lv_sub hl [1, 2, 0] rfl)
        · replace h := h.2 hc
          refine lv_iconst (v := 1) hx hb dX10_layDanger_46 (by decide) ?_
          refine lv_goto (tgt := 51) hx hb dX10_layDanger_47 (by decide) ?_
          refine tM_mo_danger hx hb hK hw h.1 dX10_layDanger_51 (fun H locs hw => ?_)
          replace h := h.2
          refine lv_iinc (v := (x2 + (1 : Int32))) (lv' := [(2, .int (x2 + (1 : Int32))), (0, .ref (ad 0)), (1, .int x1)]) hx hb dX10_layDanger_52 hl (k := 2) rfl rfl (by decide) rfl (fun ls hl => ?_)
          refine lv_goto (tgt := 2) hx hb dX10_layDanger_55 (by decide) ?_
          exact ih _ _ _ h _ _ _ hw (lv_sub hl [1, 2, 0] rfl)
  unfold P_mo_layDanger at h
  have he : entryFrame m args 3 = entryFrame m ([.ref (ad 0), .int x1] : List Value).toArray 3 := by rw [hav]
  refine W.eq he ?_
  have hl := lv_entry ([.ref (ad 0), .int x1]) (n := 3) (Nat.le_of_ble_eq_true rfl)
  rw [lg_entry_eq]
  generalize (lg_sl ([.ref (ad 0), .int x1]) ++ List.replicate (3 - (lg_sl ([.ref (ad 0), .int x1])).length) Slot.unset).toArray = ls at hl ⊢
  have hl : lv_has ls 3 [(0, .ref (ad 0)), (1, .int x1)] := hl
  refine lv_iconst (v := 0) hx hb dX10_layDanger_0 (by decide) ?_
  refine lv_istore_n (lv' := [(2, .int (0 : Int32)), (0, .ref (ad 0)), (1, .int x1)]) hx hb dX10_layDanger_1 rfl hl (by decide) rfl (fun ls hl => ?_)
  obtain ⟨n2, h⟩ := h
  exact J2  n2 _ _ _ h _ _ _ hw (lv_sub hl [1, 2, 0] rfl)
